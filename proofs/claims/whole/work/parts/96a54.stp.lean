/-! steps of the reference, kind by kind -/
section STP
variable {K pl : Nat → Nat} {V : Nat → Int64} {m fr e n' r' fu : Nat} {y : TR} {q0 : Nat} {ar : Nat → Int64} {ν ρ : Nat → Nat} {W : Nat → Int32 × Int32 × Int32} {S S1 : im_S} {nA nS nT : Nat} {A : Nat → TPth} {b : Nat → Nat} {vals : TPth → Nat → Option TVal} {lk : TPth → Nat → Option TPth} {M : Nat → TPth × Nat} {Lv evs : List TEv} {f1 f2 : Nat → Nat}
theorem clo_at {En' : TPth → Prop} {Va' : TPth → Nat → TVal → Prop} {De' : TEv → Prop} (hcl : CloA K V y q0 ar En' Va' De') {P : TPth} (hE : En' P) (hP : POk V y P) {z : TR × List Nat × Nat} (hz : z ∈ scP y) (hr : z.2.2 = hdR P) : CloE K V y ar En' Va' De' P z := by
  cases P with
  | nil => exact absurd hP id
  | cons c Q => exact hcl.2 c.1 c.2 Q z hE hz hr
theorem so_zero {e0 : Nat} (wP : PW K y 0 e0) (R : RI K V y q0 ar ν ρ S nA nS nT A b vals lk M Lv f1 f2) {x0 k0 : Nat} {z0 : TR × List Nat × Nat} (hx0 : x0 < nA) (hz0 : z0 ∈ scP y) (hr0 : z0.2.2 = hdR (A x0)) (hk0 : (rgL y (hdR (A x0)))[k0]? = some (otk z0.1))
    (hnd : ∀ r k k' t : Nat, (rgL y r)[k]? = some t → (rgL y r)[k']? = some t → k = k') (hv0 : vals (A x0) (otk z0.1) = none)
    (h1 : ∀ a i : Nat, (a = 75 → i ≠ 81 ∧ i ≠ 82) → S1.1 a i = S.1 a i) (h2 : ∀ a i : Nat, (a = 75 → i ≠ 82) → S1.2.1 a i = S.2.1 a i) (hst : StN V y ar vals (A x0) (lk (A x0) (otk z0.1)) z0) :
    SO K V y q0 ar ν ρ S nA nS nT A b vals lk M Lv f1 f2 x0 k0 z0 0 S1 := by
  have R' := R
  obtain ⟨⟨c1, c2, c3, c4⟩, r2, r3, r4, r5, r6, r7, r8, r9, r10⟩ := R'
  have hsl := (r3 x0 hx0).2.2.2.2.2.2 k0 _ hk0
  refine ⟨⟨fun a i q1 q2 => h1 a i (by omega), fun a i q1 q2 => h2 a i q1⟩, fun x hx => h1 123 x (by omega), fun s q1 q2 => h1 126 s (by omega), .inl ⟨rfl, ?_, hst, ?_⟩⟩
  · have := RI_ext (evs := []) (S' := S1) (A' := A) (b' := b) (vals' := vals) (lk' := lk) (M' := M) (nA' := nA) (nS' := nS) (nT' := nT) (f1' := f1) (f2' := f2) wP R hx0 hz0 hr0 hk0 hnd ⟨Nat.le_refl _, Nat.le_refl _, Nat.le_refl _⟩ (fun x _ => ⟨rfl, rfl⟩) (fun T hT => ⟨rfl, h1 129 T (by omega), h1 130 T (by omega)⟩) ⟨(h1 75 57 (by omega)).trans c1, (h1 75 64 (by omega)).trans c2, (h1 75 68 (by omega)).trans c3, (h1 75 72 (by omega)).trans c4⟩ (fun a x q1 q2 q3 hx => h1 a x (by omega)) (fun s q1 q2 => ⟨h1 126 s (by omega), h2 127 s (by omega), h1 128 s (by omega), rfl, rfl⟩) (fun P t q => ⟨rfl, rfl⟩) hv0 ⟨Sl_mono hsl.1 (h1 126 _ (by omega)) (h2 127 _ (by omega)) (Nat.le_refl _) (fun T hT => ⟨rfl, h1 130 T (by omega)⟩), ?_⟩ (fun e he => absurd he List.not_mem_nil) r8 (fun x q1 q2 => absurd q2 (by omega)) (fun x x' q1 q2 q3 => absurd q2 (by omega)) (fun T q1 q2 => absurd q2 (by omega)) (r7 x0 hx0 z0 hz0 hr0) (fun En' Va' De' hcl s1 s2 => ⟨fun x q1 q2 => absurd q2 (by omega), fun a q => s2 _ _ _ q, fun e he => absurd he List.not_mem_nil⟩) r10
    · exact this
    · cases hlk : lk (A x0) (otk z0.1) with
      | none =>
        have h := hsl.2
        rw [hlk] at h
        exact (h1 128 _ (by omega)).trans h
      | some P' =>
        have h := hsl.2
        rw [hlk] at h
        obtain ⟨x', u1, u2, u3⟩ := h
        exact ⟨x', u1, u2, (h1 128 _ (by omega)).trans u3⟩
  · have h := hsl.1
    rw [hv0] at h
    exact (h1 126 _ (by omega)).trans h
/-- an operand of the same region -/
theorem op_at (T : TH K pl V m) (R : RHd K pl V m fr y e n' r' ν ρ W S) (I : RI K V y q0 ar ν ρ S nA nS nT A b vals lk M Lv f1 f2) (h : Lv.length ≤ 1000) {x0 r : Nat} {x : TR} {γ : List Nat} (hx0 : x0 < nA) (hz : (x, γ, r) ∈ scP y) (hr : r = hdR (A x0)) : ∃ s, f_X11_slot (nI x0) (nI (ν (otk x))) S = some (nI s, S) ∧ s < 496496 ∧ Sl S M nT s (vals (A x0) (otk x)) ∧ ∀ a, vals (A x0) (otk x) = some a → tyO (tyV K V x) a := by
  obtain ⟨k, hk⟩ := rgL_sc R.1 hz
  have hk : (rgL y r)[k]? = some (otk x) := hk
  rw [hr] at hk
  obtain ⟨u1, u2, u3, u4, u5⟩ := sl_at T R I h hx0 hk
  refine ⟨_, u1, u2, u4, fun a q => ?_⟩
  obtain ⟨-, -, -, -, -, -, r7, -⟩ := I
  exact (r7 x0 hx0 _ hz hr).2.1 a q
theorem sl_0 {s : Nat} {o : Option TVal} (h : Sl S M nT s o) : S.1 126 s = 0 ↔ o = none := by
  cases o with
  | none => exact ⟨fun _ => rfl, fun _ => h⟩
  | some a =>
    refine ⟨fun q => ?_, fun q => by cases q⟩
    rw [h.1] at q
    have := (nI_eq (a := a.1) (b := 0) (by have := h.2.2.1; omega) (by omega)).mp q
    have := h.2.1
    omega
/-- a value that is there is passed on -/
theorem so_pass {e0 : Nat} (wP : PW K y 0 e0) (T : TH K pl V m) (R : RHd K pl V m fr y e n' r' ν ρ W S) (I : RI K V y q0 ar ν ρ S nA nS nT A b vals lk M Lv f1 f2) (h : Lv.length ≤ 1000) {x0 k0 : Nat} {z0 : TR × List Nat × Nat} (hx0 : x0 < nA) (hz0 : z0 ∈ scP y) (hr0 : z0.2.2 = hdR (A x0)) (hk0 : (rgL y (hdR (A x0)))[k0]? = some (otk z0.1)) (hv0 : vals (A x0) (otk z0.1) = none) {s' t' : Nat} {P' : TPth} (hs' : s' < 496496) (hsl : Sl S M nT s' (vals P' t'))
    (hty : ∀ a, vals P' t' = some a → tyO (tyV K V z0.1) a)
    (hst : vals P' t' = none → StN V y ar vals (A x0) (lk (A x0) (otk z0.1)) z0)
    (hNI : ∀ a, vals P' t' = some a → NI K V y ar (EnA nA A) (upV vals (A x0) (otk z0.1) (some a)) (fun e => e ∈ Lv) (A x0) (lk (A x0) (otk z0.1)) z0)
    (hs : ∀ a, vals P' t' = some a → ∀ En' Va' De', CloA K V y q0 ar En' Va' De' → (∀ x, x < nA → En' (A x)) → (∀ P t a, vals P t = some a → Va' P t a) → Va' (A x0) (otk z0.1) a) :
    ∃ ans S', f_X11_pass (nI (b x0 + k0)) (nI s') S = some (ans, S') ∧ z_b ans = true ∧ SO K V y q0 ar ν ρ S nA nS nT A b vals lk M Lv f1 f2 x0 k0 z0 ans S' := by
  have hb := RI_b I h
  obtain ⟨u1, u2, u3, u4, u5⟩ := sl_at T R I h hx0 hk0
  rw [r_pass (by omega) (by omega)]
  have hz := sl_0 hsl
  cases hv : vals P' t' with
  | none =>
    rw [if_pos (hz.mpr hv)]
    exact ⟨0, S, rfl, rfl, so_zero wP I hx0 hz0 hr0 hk0 (rgL_nd R) hv0 (fun _ _ _ => rfl) (fun _ _ _ => rfl) (hst hv)⟩
  | some a =>
    rw [if_neg (fun q => by have := hz.mp q; rw [hv] at this; cases this)]
    refine ⟨1, _, rfl, rfl, ?_⟩
    rw [hv] at hsl
    rw [hsl.1]
    refine so_give (evs := []) (S1 := S) wP I hx0 hz0 hr0 hk0 (rgL_nd R) hv0 (fun _ _ _ => rfl) (fun _ _ _ => rfl) ?_ (Ec_Sl hsl) (fun e he => absurd he List.not_mem_nil) I.2.2.2.2.2.2.2.1 (hNI a hv) (hty a hv) (fun En' Va' De' hcl s1 s2 => ⟨hs a hv En' Va' De' hcl s1 s2, fun e he => absurd he List.not_mem_nil⟩) (Nat.zero_le _)
    rw [I.1.2.2.2]
    show nI Lv.length = nI (0 + Lv.length)
    rw [Nat.zero_add]
/-- an event that gives -/
theorem so_ev {e0 : Nat} (wP : PW K y 0 e0) (T : TH K pl V m) (R : RHd K pl V m fr y e n' r' ν ρ W S) (I : RI K V y q0 ar ν ρ S nA nS nT A b vals lk M Lv f1 f2) (h : Lv.length ≤ 1000) {x0 k0 : Nat} {z0 : TR × List Nat × Nat} (hx0 : x0 < nA) (hz0 : z0 ∈ scP y) (hr0 : z0.2.2 = hdR (A x0)) (hk0 : (rgL y (hdR (A x0)))[k0]? = some (otk z0.1)) (hv0 : vals (A x0) (otk z0.1) = none) {a : TVal} {w : Int64} {k : Int32} {i : Nat} (hk : k = nI a.1) (he : EcV S M nT a w) (hnv : ¬ (A x0, otk z0.1, i) ∈ Lv)
    (hNI : NI K V y ar (EnA nA A) (upV vals (A x0) (otk z0.1) (some a)) (fun e => e ∈ (A x0, otk z0.1, i) :: Lv) (A x0) (lk (A x0) (otk z0.1)) z0) (hty : tyO (tyV K V z0.1) a)
    (hs : ∀ En' Va' De', CloA K V y q0 ar En' Va' De' → (∀ x, x < nA → En' (A x)) → (∀ P t a, vals P t = some a → Va' P t a) → Va' (A x0) (otk z0.1) a ∧ De' (A x0, otk z0.1, i)) :
    ∃ S', f_X11_event (nI (b x0 + k0)) k w S = some (1, S') ∧ SO K V y q0 ar ν ρ S nA nS nT A b vals lk M Lv f1 f2 x0 k0 z0 1 S' := by
  have hb := RI_b I h
  obtain ⟨u1, u2, u3, u4, u5⟩ := sl_at T R I h hx0 hk0
  rw [r_event (by omega), hk]
  refine ⟨_, rfl, ?_⟩
  refine so_give (evs := [(A x0, otk z0.1, i)]) (S1 := uI S 75 72 (S.1 75 72 + 1)) wP I hx0 hz0 hr0 hk0 (rgL_nd R) hv0 (fun a i q => uI_ne (by omega)) (fun _ _ _ => rfl) ?_ he (fun e he => ⟨i, List.mem_singleton.mp he⟩) (List.nodup_cons.mpr ⟨hnv, I.2.2.2.2.2.2.2.1⟩) hNI hty (fun En' Va' De' hcl s1 s2 => ⟨(hs En' Va' De' hcl s1 s2).1, fun e he => by rw [List.mem_singleton.mp he]; exact (hs En' Va' De' hcl s1 s2).2⟩) (by show 1 ≤ 21; omega)
  rw [uI_eq, I.1.2.2.2]
  show nI Lv.length + nI 1 = nI (1 + Lv.length)
  rw [nI_add, Nat.add_comm]
end STP
