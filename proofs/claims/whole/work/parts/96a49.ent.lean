/-! a step of the reference that enters -/
def upL (lk : TPth → Nat → Option TPth) (P : TPth) (t : Nat) (o : Option TPth) : TPth → Nat → Option TPth := fun P' t' => if P' = P ∧ t' = t then o else lk P' t'
theorem upL_eq {lk : TPth → Nat → Option TPth} {P : TPth} {t : Nat} {o : Option TPth} : upL lk P t o P t = o := if_pos ⟨rfl, rfl⟩
theorem upL_ne {lk : TPth → Nat → Option TPth} {P P' : TPth} {t t' : Nat} {o : Option TPth} (h : ¬ (P' = P ∧ t' = t)) : upL lk P t o P' t' = lk P' t' := if_neg h
section ENT
variable {K : Nat → Nat} {V : Nat → Int64} {y : TR} {q0 : Nat} {ar : Nat → Int64} {ν ρ : Nat → Nat} {S S1 S2 : im_S} {nA nS nT n nS2 : Nat} {A A' : Nat → TPth} {b b' : Nat → Nat} {vals : TPth → Nat → Option TVal} {lk : TPth → Nat → Option TPth} {M : Nat → TPth × Nat} {Lv evs : List TEv} {f1 f2 f1' f2' : Nat → Nat} {c1 c2 c3 : Nat → Int32} {t1 t2 : Nat}
theorem so_ent {e0 : Nat} (wP : PW K y 0 e0) (R : RI K V y q0 ar ν ρ S nA nS nT A b vals lk M Lv f1 f2) {x0 k0 : Nat} {z0 : TR × List Nat × Nat} (hx0 : x0 < nA) (hz0 : z0 ∈ scP y) (hr0 : z0.2.2 = hdR (A x0)) (hk0 : (rgL y (hdR (A x0)))[k0]? = some (otk z0.1))
    (hnd : ∀ r k k' t : Nat, (rgL y r)[k]? = some t → (rgL y r)[k']? = some t → k = k') (hv0 : vals (A x0) (otk z0.1) = none)
    (h1 : ∀ a i : Nat, (a = 75 → i ≠ 72) → S1.1 a i = S.1 a i) (h2 : S1.2.1 = S.2.1) (h72 : S1.1 75 72 = nI (evs.length + Lv.length))
    (hE : EnL y ρ S1 S2 nA nS n nS2 A' b' c1 c2 c3 f1' f2' t1 t2) (hn0 : 0 < n) (hA : ∀ x, x < nA → A' x = A x ∧ b' x = b x) (hf : ∀ s, s < nS → s ≠ b x0 + k0 → f1' s = f1 s ∧ f2' s = f2 s)
    (hnew : ∀ x, nA ≤ x → x < nA + n → own y (A' x) = (A x0, otk z0.1) ∧ ¬ EnA nA A (A' x) ∧ POk V y (A' x)) (hdi : ∀ x x', nA ≤ x → x < x' → x' < nA + n → A' x ≠ A' x')
    (hAL : ∀ S'' : im_S, (∀ x, nA ≤ x → x < nA + n → S''.1 121 x = c1 x ∧ S''.1 124 x = c2 x ∧ S''.1 125 x = c3 x) → ∀ x, nA ≤ x → x < nA + n → AL y ν S'' A' x)
    (hev : ∀ e, e ∈ evs → ∃ i, e = (A x0, otk z0.1, i)) (hnv : (evs ++ Lv).Nodup)
    (hNI : NI K V y ar (EnA (nA + n) A') vals (fun e => e ∈ evs ++ Lv) (A x0) (some (A' (nA + n - 1))) z0)
    (hs : ∀ En' Va' De', CloA K V y q0 ar En' Va' De' → (∀ x, x < nA → En' (A x)) → (∀ P t a, vals P t = some a → Va' P t a) → (∀ x, nA ≤ x → x < nA + n → En' (A' x)) ∧ ∀ e, e ∈ evs → De' e)
    (hp : nS2 + tot f1' nS2 ≤ 496 * (evs.length + Lv.length + 1) ∧ nA + n + tot f2' nS2 ≤ 21 * (evs.length + Lv.length + 1)) (hel : evs.length ≤ 21) :
    SO K V y q0 ar ν ρ S nA nS nT A b vals lk M Lv f1 f2 x0 k0 z0 1 (uI S2 128 (b x0 + k0) (nI (nA + n - 1))) := by
  obtain ⟨S', hS'⟩ : ∃ S', S' = uI S2 128 (b x0 + k0) (nI (nA + n - 1)) := ⟨_, rfl⟩
  rw [← hS']
  obtain ⟨i1, i2, i3, i4, i5, i6, i7, i8, i9, i10⟩ := hE
  have hl := (List.getElem?_eq_some_iff.mp hk0).1
  have hsl : b x0 + k0 < nS := by
    obtain ⟨-, -, r3, -⟩ := R
    have := (r3 x0 hx0).2.2.2.1
    omega
  have e2 : ∀ a i : Nat, (a = 128 → i ≠ b x0 + k0) → S'.1 a i = S2.1 a i := fun a i q => by
    rw [hS', uI_ne (by omega)]
  have g1 : ∀ a i : Nat, (a = 75 → i ≠ 57 ∧ i ≠ 64 ∧ i ≠ 72) → (120 ≤ a → a ≤ 125 → i < nA) → (a = 126 ∨ a = 128 → i < nS) → (a = 128 → i ≠ b x0 + k0) → S'.1 a i = S.1 a i := fun a i q1 q2 q3 q4 => by
    rw [e2 a i q4, i7 a i (by omega) q2 q3]
    exact h1 a i (by omega)
  have g2 : S'.2.1 = S.2.1 := by
    rw [hS']
    exact i8.trans h2
  have e128 : S'.1 128 (b x0 + k0) = nI (nA + n - 1) := by rw [hS', uI_eq]
  refine ⟨⟨fun a i q1 q2 => g1 a i (by omega) (by omega) (by omega) (by omega), fun a i q1 q2 => by rw [g2]⟩, fun x hx => g1 123 x (by omega) (by omega) (by omega) (by omega), fun s q1 q2 => g1 126 s (by omega) (by omega) (by omega) (by omega), .inr ⟨rfl, nA + n, nS2, nT, A', b', vals, upL lk (A x0) (otk z0.1) (some (A' (nA + n - 1))), M, evs ++ Lv, f1', f2', ?_, by omega, i3, hA, fun x q1 q2 => ⟨by rw [e2 123 x (by omega)]; exact (i4 x q1 q2).2.2.2.1, (i4 x q1 q2).2.2.2.2.2.2.1⟩, fun s q1 q2 => by rw [e2 126 s (by omega)]; exact i6 s q1 q2, (by rw [List.length_append]; omega), .inr (by omega)⟩⟩
  have R' := R
  obtain ⟨r1, r2, r3, r4, r5, r6, r7, r8, r9, r10⟩ := R'
  obtain ⟨d1, d2, d3, d4⟩ := r1
  have eA := (hA x0 hx0).1
  have eb := (hA x0 hx0).2
  refine RI_ext wP R hx0 hz0 hr0 hk0 hnd ⟨by omega, i3, Nat.le_refl _⟩ hA (fun T hT => ⟨rfl, g1 129 T (by omega) (by omega) (by omega) (by omega), g1 130 T (by omega) (by omega) (by omega) (by omega)⟩) ⟨by rw [e2 75 57 (by omega)]; exact i1, by rw [e2 75 64 (by omega)]; exact i2, by rw [g1 75 68 (by omega) (by omega) (by omega) (by omega)]; exact d3, ?_⟩ (fun a x q1 q2 q3 hx => g1 a x (by omega) (by omega) (by omega) (by omega)) (fun s q1 q2 => ⟨g1 126 s (by omega) (by omega) (by omega) (by omega), by rw [g2], g1 128 s (by omega) (by omega) (by omega) (fun _ => q2), (hf s q1 q2).1, (hf s q1 q2).2⟩) (fun P t q => ⟨rfl, upL_ne q⟩) hv0 ⟨?_, ?_⟩ hev hnv (fun x q1 q2 => ?_) (fun x x' q1 q2 q3 => ?_) (fun T q1 q2 => absurd q2 (by omega)) ⟨?_, fun a' q => ?_, fun q => ?_⟩ (fun En' Va' De' hcl s1 s2 => ?_) ?_
  · rw [e2 75 72 (by omega), i7 75 72 (by omega) (by omega) (by omega), h72, List.length_append]
  · rw [hv0]
    have := ((r3 x0 hx0).2.2.2.2.2.2 k0 _ hk0).1
    rw [hv0] at this
    exact (g1 126 _ (by omega) (by omega) (by omega) (by omega)).trans this
  · rw [upL_eq]
    exact ⟨nA + n - 1, by omega, rfl, e128⟩
  · obtain ⟨v1, v2, v3, v4, v5, v6, v7, v8, v9⟩ := i4 x q1 q2
    obtain ⟨n1, n2, n3⟩ := hnew x q1 q2
    refine ⟨n1, n2, n3, by rw [e2 120 x (by omega)]; exact v1, by rw [e2 122 x (by omega)]; exact v3, v8, hAL S' (fun x q1 q2 => ?_) x q1 q2, fun k t hk => ?_⟩
    · obtain ⟨v1, v2, v3, v4, v5, v6, v7, v8, v9⟩ := i4 x q1 q2
      exact ⟨by rw [e2 121 x (by omega)]; exact v2, by rw [e2 124 x (by omega)]; exact v5, by rw [e2 125 x (by omega)]; exact v6⟩
    · obtain ⟨k1, k2, k3, k4⟩ := v9 k t hk
      exact ⟨by rw [e2 126 _ (by omega)]; exact k1, by rw [e2 128 _ (by omega)]; exact k2, by omega, by omega⟩
  · rcases Nat.lt_or_ge x nA with c | c
    · obtain ⟨-, n2, -⟩ := hnew x' q3 q2
      have u := (r3 x c).2.2.2.1
      rw [(hA x c).1, (hA x c).2]
      exact ⟨by have := (i4 x' q3 q2).2.2.2.2.2.2.1; omega, fun q => n2 ⟨x, c, q⟩⟩
    · exact ⟨i5 x x' c q1 q2, hdi x x' c q1 q2⟩
  · rw [eA, upL_eq]
    exact hNI
  · rw [eA, hv0] at q
    cases q
  · rw [eA, upL_eq] at q
    cases q
  · obtain ⟨s3, s4⟩ := hs En' Va' De' hcl s1 s2
    refine ⟨s3, fun a q => ?_, s4⟩
    rw [hv0] at q
    cases q
  · rw [List.length_append]
    refine ⟨hp.1, hp.2, ?_⟩
    have := r10.2.2
    omega
end ENT
