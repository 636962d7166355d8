/-! a step of the reference: what comes out; giving a value -/
def RF (S S' : im_S) : Prop := (∀ a i : Nat, (a = 75 → i ≠ 57 ∧ i ≠ 64 ∧ i ≠ 68 ∧ i ≠ 72 ∧ i ≠ 81 ∧ i ≠ 82) → a < 120 ∨ 130 < a → S'.1 a i = S.1 a i) ∧ ∀ a i : Nat, (a = 75 → i ≠ 82) → a ≠ 127 → S'.2.1 a i = S.2.1 a i
theorem RF.rfl' {S : im_S} : RF S S := ⟨fun _ _ _ _ => rfl, fun _ _ _ _ => rfl⟩
theorem RF.trans' {S S1 S2 : im_S} (h : RF S S1) (h' : RF S1 S2) : RF S S2 := ⟨fun a i q1 q2 => (h'.1 a i q1 q2).trans (h.1 a i q1 q2), fun a i q1 q2 => (h'.2 a i q1 q2).trans (h.2 a i q1 q2)⟩
def upV (vals : TPth → Nat → Option TVal) (P : TPth) (t : Nat) (o : Option TVal) : TPth → Nat → Option TVal := fun P' t' => if P' = P ∧ t' = t then o else vals P' t'
theorem upV_eq {vals : TPth → Nat → Option TVal} {P : TPth} {t : Nat} {o : Option TVal} : upV vals P t o P t = o := if_pos ⟨rfl, rfl⟩
theorem upV_ne {vals : TPth → Nat → Option TVal} {P P' : TPth} {t t' : Nat} {o : Option TVal} (h : ¬ (P' = P ∧ t' = t)) : upV vals P t o P' t' = vals P' t' := if_neg h
theorem upV_mono {vals : TPth → Nat → Option TVal} {P P' : TPth} {t t' : Nat} {o : Option TVal} {a : TVal} (h0 : vals P t = none) (h : vals P' t' = some a) : upV vals P t o P' t' = some a := by
  by_cases c : P' = P ∧ t' = t
  · rw [c.1, c.2, h0] at h
    cases h
  · rw [upV_ne c]
    exact h
/-- a value as it is written -/
def EcV (S : im_S) (M : Nat → TPth × Nat) (nT : Nat) (a : TVal) (w : Int64) : Prop := 1 ≤ a.1 ∧ a.1 ≤ 4 ∧ (a.1 ≠ 3 → w = a.2.1 ∧ a.2.2 = ([], 0)) ∧ (a.1 = 3 → ∃ T, T < nT ∧ w = (nI T).toInt64 ∧ M T = a.2.2 ∧ a.2.1 = (S.1 130 T).toInt64)
theorem Ec_Sl {S : im_S} {M : Nat → TPth × Nat} {nT s : Nat} {a : TVal} (h : Sl S M nT s (some a)) : EcV S M nT a (S.2.1 127 s) := h.2
/-- what comes out of a step -/
def SO (K : Nat → Nat) (V : Nat → Int64) (y : TR) (q0 : Nat) (ar : Nat → Int64) (ν ρ : Nat → Nat) (S : im_S) (nA nS nT : Nat) (A : Nat → TPth) (b : Nat → Nat) (vals : TPth → Nat → Option TVal) (lk : TPth → Nat → Option TPth) (M : Nat → TPth × Nat) (Lv : List TEv) (f1 f2 : Nat → Nat) (x0 k0 : Nat) (z0 : TR × List Nat × Nat) (ans : Int32) (S' : im_S) : Prop :=
  RF S S' ∧ (∀ x, x < nA → S'.1 123 x = S.1 123 x) ∧ (∀ s, s < nS → s ≠ b x0 + k0 → S'.1 126 s = S.1 126 s) ∧
  ((ans = 0 ∧ RI K V y q0 ar ν ρ S' nA nS nT A b vals lk M Lv f1 f2 ∧ StN V y ar vals (A x0) (lk (A x0) (otk z0.1)) z0 ∧ S'.1 126 (b x0 + k0) = 0) ∨
   (ans = 1 ∧ ∃ (nA' nS' nT' : Nat) (A' : Nat → TPth) (b' : Nat → Nat) (vals' : TPth → Nat → Option TVal) (lk' : TPth → Nat → Option TPth) (M' : Nat → TPth × Nat) (Lv' : List TEv) (f1' f2' : Nat → Nat), RI K V y q0 ar ν ρ S' nA' nS' nT' A' b' vals' lk' M' Lv' f1' f2' ∧ nA ≤ nA' ∧ nS ≤ nS' ∧ (∀ x, x < nA → A' x = A x ∧ b' x = b x) ∧ (∀ x, nA ≤ x → x < nA' → S'.1 123 x = nI (rgL y (hdR (A' x))).length ∧ nS ≤ b' x) ∧ (∀ s, nS ≤ s → s < nS' → S'.1 126 s = 0) ∧ Lv'.length ≤ Lv.length + 21 ∧ (S'.1 126 (b x0 + k0) ≠ 0 ∨ nA < nA')))
section GIV
variable {K : Nat → Nat} {V : Nat → Int64} {y : TR} {q0 : Nat} {ar : Nat → Int64} {ν ρ : Nat → Nat} {S S1 : im_S} {nA nS nT : Nat} {A : Nat → TPth} {b : Nat → Nat} {vals : TPth → Nat → Option TVal} {lk : TPth → Nat → Option TPth} {M : Nat → TPth × Nat} {Lv evs : List TEv} {f1 f2 : Nat → Nat}
theorem so_give {e0 : Nat} (wP : PW K y 0 e0) (R : RI K V y q0 ar ν ρ S nA nS nT A b vals lk M Lv f1 f2) {x0 k0 : Nat} {z0 : TR × List Nat × Nat} (hx0 : x0 < nA) (hz0 : z0 ∈ scP y) (hr0 : z0.2.2 = hdR (A x0)) (hk0 : (rgL y (hdR (A x0)))[k0]? = some (otk z0.1))
    (hnd : ∀ r k k' t : Nat, (rgL y r)[k]? = some t → (rgL y r)[k']? = some t → k = k') (hv0 : vals (A x0) (otk z0.1) = none) {a : TVal} {w : Int64}
    (h1 : ∀ a i : Nat, (a = 75 → i ≠ 72 ∧ i ≠ 81 ∧ i ≠ 82) → S1.1 a i = S.1 a i) (h2 : ∀ a i : Nat, (a = 75 → i ≠ 82) → S1.2.1 a i = S.2.1 a i) (h72 : S1.1 75 72 = nI (evs.length + Lv.length))
    (he : EcV S M nT a w) (hev : ∀ e, e ∈ evs → ∃ i, e = (A x0, otk z0.1, i)) (hnv : (evs ++ Lv).Nodup)
    (hNI : NI K V y ar (EnA nA A) (upV vals (A x0) (otk z0.1) (some a)) (fun e => e ∈ evs ++ Lv) (A x0) (lk (A x0) (otk z0.1)) z0) (hty : tyO (tyV K V z0.1) a)
    (hs : ∀ En' Va' De', CloA K V y q0 ar En' Va' De' → (∀ x, x < nA → En' (A x)) → (∀ P t a, vals P t = some a → Va' P t a) → Va' (A x0) (otk z0.1) a ∧ ∀ e, e ∈ evs → De' e) (hel : evs.length ≤ 21) :
    SO K V y q0 ar ν ρ S nA nS nT A b vals lk M Lv f1 f2 x0 k0 z0 1 (uJ (uI S1 126 (b x0 + k0) (nI a.1)) 127 (b x0 + k0) w) := by
  obtain ⟨S', hS'⟩ : ∃ S', S' = uJ (uI S1 126 (b x0 + k0) (nI a.1)) 127 (b x0 + k0) w := ⟨_, rfl⟩
  rw [← hS']
  have hl := (List.getElem?_eq_some_iff.mp hk0).1
  have hsl : b x0 + k0 < nS := by
    obtain ⟨-, -, r3, -⟩ := R
    have := (r3 x0 hx0).2.2.2.1
    omega
  have g1 : ∀ a i : Nat, (a = 75 → i ≠ 72 ∧ i ≠ 81 ∧ i ≠ 82) → (a = 126 → i ≠ b x0 + k0) → S'.1 a i = S.1 a i := fun a' i q1 q2 => by
    rw [hS']
    show (uI S1 126 (b x0 + k0) (nI a.1)).1 a' i = _
    rw [uI_ne (by omega)]
    exact h1 a' i q1
  have g2 : ∀ a i : Nat, (a = 75 → i ≠ 82) → (a = 127 → i ≠ b x0 + k0) → S'.2.1 a i = S.2.1 a i := fun a' i q1 q2 => by
    rw [hS', uJ_ne (by omega)]
    exact h2 a' i q1
  have e126 : S'.1 126 (b x0 + k0) = nI a.1 := by
    rw [hS']
    show (uI S1 126 (b x0 + k0) (nI a.1)).1 126 _ = _
    rw [uI_eq]
  have e127 : S'.2.1 127 (b x0 + k0) = w := by
    rw [hS', uJ_eq]
  have e72 : S'.1 75 72 = nI (evs ++ Lv).length := by
    rw [hS', List.length_append]
    show (uI S1 126 (b x0 + k0) (nI a.1)).1 75 72 = _
    rw [uI_ne (by omega)]
    exact h72
  refine ⟨⟨fun a i q1 q2 => g1 a i (by omega) (by omega), fun a i q1 q2 => g2 a i q1 (by omega)⟩, fun x hx => g1 123 x (by omega) (by omega), fun s q1 q2 => g1 126 s (by omega) (fun _ => q2), .inr ⟨rfl, nA, nS, nT, A, b, upV vals (A x0) (otk z0.1) (some a), lk, M, evs ++ Lv, f1, f2, ?_, Nat.le_refl _, Nat.le_refl _, fun x _ => ⟨rfl, rfl⟩, fun x q1 q2 => absurd q2 (by omega), fun s q1 q2 => absurd q2 (by omega), (by rw [List.length_append]; omega), .inl ?_⟩⟩
  · have R' := R
    obtain ⟨r1, r2, r3, r4, r5, r6, r7, r8, r9, r10⟩ := R'
    obtain ⟨c1, c2, c3, c4⟩ := r1
    refine RI_ext wP R hx0 hz0 hr0 hk0 hnd ⟨Nat.le_refl _, Nat.le_refl _, Nat.le_refl _⟩ (fun x _ => ⟨rfl, rfl⟩) (fun T hT => ⟨rfl, g1 129 T (by omega) (by omega), g1 130 T (by omega) (by omega)⟩) ⟨by rw [g1 75 57 (by omega) (by omega)]; exact c1, by rw [g1 75 64 (by omega) (by omega)]; exact c2, by rw [g1 75 68 (by omega) (by omega)]; exact c3, e72⟩ (fun a x q1 q2 q3 hx => g1 a x (by omega) (by omega)) (fun s q1 q2 => ⟨g1 126 s (by omega) (fun _ => q2), g2 127 s (by omega) (fun _ => q2), g1 128 s (by omega) (by omega), rfl, rfl⟩) (fun P t q => ⟨upV_ne q, rfl⟩) hv0 ⟨?_, ?_⟩ hev hnv (fun x q1 q2 => absurd q2 (by omega)) (fun x x' q1 q2 q3 => absurd q2 (by omega)) (fun T q1 q2 => absurd q2 (by omega)) ⟨hNI, fun a' q => ?_, (r7 x0 hx0 z0 hz0 hr0).2.2⟩ (fun En' Va' De' hcl s1 s2 => ?_) ?_
    · rw [upV_eq]
      obtain ⟨q1, q2, q3, q4⟩ := he
      refine ⟨e126, q1, q2, fun q => by rw [e127]; exact q3 q, fun q => ?_⟩
      obtain ⟨T, t1, t2, t3, t4⟩ := q4 q
      exact ⟨T, t1, e127.trans t2, t3, by rw [g1 130 T (by omega) (by omega)]; exact t4⟩
    · have := ((r3 x0 hx0).2.2.2.2.2.2 k0 _ hk0).2
      cases hlk : lk (A x0) (otk z0.1) with
      | none =>
        rw [hlk] at this
        exact (g1 128 _ (by omega) (by omega)).trans this
      | some P' =>
        rw [hlk] at this
        obtain ⟨x', u1, u2, u3⟩ := this
        exact ⟨x', u1, u2, (g1 128 _ (by omega) (by omega)).trans u3⟩
    · rw [upV_eq] at q
      cases q
      exact hty
    · obtain ⟨t1, t2⟩ := hs En' Va' De' hcl s1 s2
      refine ⟨fun x q1 q2 => absurd q2 (by omega), fun a' q => ?_, t2⟩
      rw [upV_eq] at q
      cases q
      exact t1
    · rw [List.length_append]
      omega
  · rw [e126]
    intro q
    have := (nI_eq (a := a.1) (b := 0) (by have := he.2.1; omega) (by omega)).mp q
    have := he.1
    omega
end GIV
