/-! the reference finds a name: slots, the activation around, a loop's name -/
/-- what is found -/
def FV (S : im_S) (M : Nat → TPth × Nat) (nT : Nat) (vals : TPth → Nat → Option TVal) (o : (TPth × Nat) ⊕ TVal) (kk : Int32) (w : Int64) : Prop := (∀ a, AtP (Vf vals) o a → kk = nI a.1 ∧ EcV S M nT a w) ∧ ((∀ a, ¬ AtP (Vf vals) o a) → kk = 0)
theorem fv_sl {S : im_S} {M : Nat → TPth × Nat} {nT s : Nat} {vals : TPth → Nat → Option TVal} {Q : TPth} {t : Nat} (h : Sl S M nT s (vals Q t)) : FV S M nT vals (.inl (Q, t)) (S.1 126 s) (S.2.1 127 s) := by
  refine ⟨fun a q => ?_, fun q => ?_⟩
  · have q : vals Q t = some a := q
    rw [q] at h
    exact ⟨h.1, h.2⟩
  · cases hh : vals Q t with
    | none =>
      rw [hh] at h
      exact h
    | some a => exact absurd hh (q a)
theorem fv_n {S : im_S} {M : Nat → TPth × Nat} {nT : Nat} {vals : TPth → Nat → Option TVal} {v : Int64} : FV S M nT vals (.inr (mkN v)) 1 v := by
  refine ⟨fun a q => ?_, fun q => absurd rfl (q (mkN v))⟩
  have q : a = mkN v := q
  subst q
  exact ⟨rfl, Nat.le_refl _, (by show 1 ≤ 4; omega), fun _ => ⟨rfl, rfl⟩, fun q => absurd q (by show ¬ 1 = 3; omega)⟩
section ARN
variable {K pl : Nat → Nat} {V : Nat → Int64} {m fr e n' r' fu : Nat} {y : TR} {q0 : Nat} {ar : Nat → Int64} {ν ρ : Nat → Nat} {W : Nat → Int32 × Int32 × Int32} {S : im_S} {nA nS nT : Nat} {A : Nat → TPth} {b : Nat → Nat} {vals : TPth → Nat → Option TVal} {lk : TPth → Nat → Option TPth} {M : Nat → TPth × Nat} {Lv : List TEv} {f1 f2 : Nat → Nat}
theorem RI_b (I : RI K V y q0 ar ν ρ S nA nS nT A b vals lk M Lv f1 f2) (h : Lv.length ≤ 1000) : nA ≤ 21021 ∧ nS ≤ 496496 ∧ nT ≤ 1000 := by
  obtain ⟨-, -, -, -, -, -, -, -, -, h1, h2, h3⟩ := I
  omega
theorem r_found {s : Nat} (hs : s < 520000) : f_X11_foundAt (nI s) S = some ((), uJ (uI S 75 81 (S.1 126 s)) 75 82 (S.2.1 127 s)) := by
  unfold f_X11_foundAt
  rw [mI_in (a := s) (n := 520000) (by omega) hs, nI_clamp (show s < 2 ^ 31 by omega)]
  rfl
theorem sl_at (T : TH K pl V m) (R : RHd K pl V m fr y e n' r' ν ρ W S) (I : RI K V y q0 ar ν ρ S nA nS nT A b vals lk M Lv f1 f2) (h : Lv.length ≤ 1000) {x k t : Nat} (hx : x < nA) (hk : (rgL y (hdR (A x)))[k]? = some t) : f_X11_slot (nI x) (nI (ν t)) S = some (nI (b x + k), S) ∧ b x + k < 496496 ∧ ν t < 1200 ∧ Sl S M nT (b x + k) (vals (A x) t) ∧ LnkS S nA A (b x + k) (lk (A x) t) := by
  have hb := RI_b I h
  have w := R.1
  obtain ⟨-, -, r3, -⟩ := I
  obtain ⟨x1, x2, x3, x4, x5, x6, x7⟩ := r3 x hx
  obtain ⟨rt, hg⟩ := POk_rg w x1
  obtain ⟨-, g1, g2, g3, g4, g5⟩ := rg_at R T hg
  obtain ⟨u1, u2, u3⟩ := g5 k t hk
  have hl := (List.getElem?_eq_some_iff.mp hk).1
  exact ⟨r_slot (by omega) u3 x3 u1, by omega, u3, (x7 k t hk).1, (x7 k t hk).2⟩
theorem rho_eq (R : RHd K pl V m fr y e n' r' ν ρ W S) (T : TH K pl V m) {r r0 : Nat} {l l0 : List Nat} {rt rt0 : Option Nat} (h : (r, l, rt) ∈ rgP y) (h0 : (r0, l0, rt0) ∈ rgP y) : nI (ρ r) = nI (ρ r0) ↔ r = r0 := by
  have a1 := (rg_at R T h).2.1
  have a2 := (rg_at R T h0).2.1
  refine ⟨fun q => ?_, fun q => by rw [q]⟩
  have q := (nI_eq (by omega) (by omega)).mp q
  exact congrArg (fun g => g.1) (mp_inj R.2.2.2.2.2.2.2.2.2.2.2.2.1 h h0 q)
theorem r_ar (T : TH K pl V m) (R : RHd K pl V m fr y e n' r' ν ρ W S) (I : RI K V y q0 ar ν ρ S nA nS nT A b vals lk M Lv f1 f2) (h : Lv.length ≤ 1000) {r0 : Nat} {l0 : List Nat} {rt0 : Option Nat} (h0 : (r0, l0, rt0) ∈ rgP y) {z1 : Int32} : ∀ (x nf : Nat), x < nA → x < nf → upF y r0 (A x) ≠ [] → ∃ x', x' ≤ x ∧ A x' = upF y r0 (A x) ∧ f_X11_around_L2 fu nf z1 (nI (ρ r0)) (nI x) S = some (nI x', S) := by
  have hb := RI_b I h
  have w := R.1
  obtain ⟨-, -, r3, -⟩ := I
  intro x
  induction x using Nat.strongRecOn with
  | ind x ih =>
    intro nf hx hnf hu
    obtain ⟨nf, rfl⟩ : ∃ z, nf = z + 1 := ⟨nf - 1, by omega⟩
    obtain ⟨x1, x2, x3, x4, x5, x6, x7⟩ := r3 x hx
    obtain ⟨rt, hg⟩ := POk_rg w x1
    have hio := rho_eq R T hg h0
    rw [f_X11_around_L2, mI_in (a := x) (n := 24000) (by omega) (by omega), nI_clamp (show x < 2 ^ 31 by omega), x2]
    simp only [gd_t]
    cases hA : A x with
    | nil =>
      rw [hA] at hu
      exact absurd rfl hu
    | cons c Q =>
      rw [hA] at hu hio
      have hio : nI (ρ c.1) = nI (ρ r0) ↔ c.1 = r0 := hio
      by_cases h1 : c.1 = r0
      · refine ⟨x, Nat.le_refl _, ?_, ?_⟩
        · rw [hA]
          exact (if_pos h1).symm
        · rw [show hdR (c :: Q) = c.1 from rfl, if_pos (hio.mpr h1)]
      · by_cases h2 : c.1 / 4 ∈ (ftP y).map Prod.fst
        · exact absurd ((if_neg h1).trans (if_pos h2)) hu
        · have e1 : upF y r0 (c :: Q) = upF y r0 Q := (if_neg h1).trans (if_neg h2)
          rw [e1] at hu ⊢
          obtain ⟨-, g2, -⟩ := x5 c Q hA
          obtain ⟨xq, q1, q2, q3⟩ := g2 h2
          rw [show hdR (c :: Q) = c.1 from rfl, if_neg (fun q => h1 (hio.mp q)), q3]
          obtain ⟨x', p1, p2, p3⟩ := ih xq q1 nf (by omega) (by omega) (by rw [q2]; exact hu)
          rw [q2] at p2
          exact ⟨x', by omega, p2, p3⟩
theorem r_arnd (T : TH K pl V m) (hfu : 30000 ≤ fu) (R : RHd K pl V m fr y e n' r' ν ρ W S) (I : RI K V y q0 ar ν ρ S nA nS nT A b vals lk M Lv f1 f2) (h : Lv.length ≤ 1000) {r0 : Nat} {l0 : List Nat} {rt0 : Option Nat} (h0 : (r0, l0, rt0) ∈ rgP y) {x : Nat} (hx : x < nA) (hu : upF y r0 (A x) ≠ []) : ∃ x' i Q, x' < nA ∧ A x' = (r0, i) :: Q ∧ upP r0 (A x) = (r0, i) :: Q ∧ f_X11_around fu (nI x) (nI (ρ r0)) S = some (nI x', S) := by
  have hb := RI_b I h
  obtain ⟨x', p1, p2, p3⟩ := r_ar (fu := fu) (z1 := nI x) T R I h h0 x fu hx (by omega) hu
  obtain ⟨u1, i, Q, u2⟩ := upF_up _ hu
  exact ⟨x', i, Q, by omega, p2.trans u2, u1.trans u2, p3⟩
/-- a loop's rows -/
theorem rw_at {S : im_S} {rlo rhi : Nat} : ∀ x : TR, LL x → ∀ (i k q : Nat), RwB pl V S rlo rhi ν x i → (tks x)[k]? = some q → (∀ k' , k' < k → (tks x)[k']? ≠ some q) → ∃ xk, rwX x q = some xk ∧ S.1 95 (i + k) = nI (ν (otk xk)) ∧ i + k < rhi := by
  refine LL_ind (fun i k q _ h => by cases h) (fun p x r _ ih i k q h hk hno => ?_)
  obtain ⟨h1, h2, h3, h4, h5, h6⟩ := h
  cases k with
  | zero =>
    have hk : some p = some q := hk
    cases hk
    exact ⟨x, if_pos rfl, h5, h2⟩
  | succ k =>
    have hpq : p ≠ q := fun c => hno 0 (by omega) (by rw [c]; rfl)
    obtain ⟨xk, u1, u2, u3⟩ := ih (i + 1) k q h6 hk (fun k' hk' q' => hno (k' + 1) (by omega) q')
    refine ⟨xk, (if_neg hpq).trans u1, ?_, by omega⟩
    rw [show i + (k + 1) = i + 1 + k by omega]
    exact u2
end ARN
