/-! the law's compile as a step; a failed compile keeps the program -/
theorem Ty_t {S : im_S} (h : Ty S) : ∃ (L : Nat) (t : Nat → Nat), L ≤ 500 ∧ S.1 0 4 = nI L ∧ S.1 75 2 = nI L ∧ ∀ i, i < L → t i < 127 ∧ S.1 1 i = nI (t i) ∧ S.1 76 i = nI (t i) := by
  obtain ⟨L, h1, h2, h3, h4⟩ := h
  refine ⟨L, fun i => (S.1 76 i).toNatClampNeg, h1, h2, h3, fun i hi => ?_⟩
  obtain ⟨a1, a2, a3⟩ := h4 i hi
  have b1 : (32 : Int) ≤ (S.1 76 i).toInt := by
    have : ¬ (S.1 76 i).toInt < (32 : Int32).toInt := fun z => a2 (Int32.lt_iff_toInt_lt.mpr z)
    have e : (32 : Int32).toInt = 32 := by decide
    omega
  have b2 : (S.1 76 i).toInt ≤ 126 := by
    have := Int32.le_iff_toInt_le.mp a3
    have e : (126 : Int32).toInt = 126 := by decide
    omega
  obtain ⟨k, k1, k2⟩ := mI_of (z := S.1 76 i) (by omega)
  have k3 : k ≤ 126 := by
    have := a3
    rw [k2] at this
    exact (mI_le (a := k) (b := 126) (by omega) (by omega)).mp this
  have e : (S.1 76 i).toNatClampNeg = k := by rw [k2]; exact nI_clamp k1
  refine ⟨?_, ?_, ?_⟩
  · show (S.1 76 i).toNatClampNeg < 127
    omega
  · show S.1 1 i = nI (S.1 76 i).toNatClampNeg
    rw [e, a1]; exact k2
  · show S.1 76 i = nI (S.1 76 i).toNatClampNeg
    rw [e]; exact k2
theorem step_c {fu : Nat} (hfu : 600 ≤ fu) (c : Nat → Int32) (hc : (c 0 &&& 15) = (1 : Int32)) {S : im_S} {s : Nat} (hT : Ty S) (h37 : S.1 75 37 = nI s) (hs : s ≤ 1) : ∃ (S2 : im_S) (f : Nat), lw_step fu c S S2 ∧ gP S2 = gP S ∧ f ≤ 4000 ∧ FS S2 f ∧ RFS S2 f ∧ Ty S2 ∧ (f < 4000 → FlC s S S2) ∧ (f = 4000 → PgI S2 ∧ GdC S S2 ∧ S2.1 75 37 = nI (1 - s)) := by
  obtain ⟨L, t, h1, h2, h3, h4⟩ := Ty_t hT
  obtain ⟨o, C, r2, S2, f, g1, g2, g3, g4, g5, g6, g7, g8, g9, g10, g11, g12, g13, g14⟩ := law_comp hfu h1 h2 h3 h4 h37 hs
  refine ⟨S2, f, ?_, g7, g8, g9, g10, ⟨0, by omega, g11, g12, fun k h => by omega⟩, g13, g14⟩
  unfold lw_step
  rw [if_neg (show ¬ (c 0 &&& 15) = (0 : Int32) by rw [hc]; decide), if_pos hc]
  exact ⟨o, C, r2, S2, _, S2, g1, g2, g3, rfl, g4, g5, Nat.le_of_eq g6.symm, Nat.le_of_eq (g6.trans g7.symm), rfl⟩
theorem FSg_f {a b a' b' : Int32} {f : Nat} (h : FSg a b f) (h' : FSg a' b' f) : a = a' ∧ b = b' := by
  rcases h with ⟨q1, q2, q3⟩ | ⟨k, p, k1, k2, k3, k4, k5, k6⟩
  · rcases h' with ⟨r1, r2, r3⟩ | ⟨k', p', r1, r2, r3, r4, r5, r6⟩
    · exact ⟨q2.trans r2.symm, q3.trans r3.symm⟩
    · omega
  · rcases h' with ⟨r1, r2, r3⟩ | ⟨k', p', r1, r2, r3, r4, r5, r6⟩
    · omega
    · have e1 : k = k' := by omega
      have e2 : p = p' := by omega
      exact ⟨by rw [k4, r4, e1], by rw [k5, r5, e2]⟩
theorem PgI_fl {S S2 : im_S} {s : Nat} (h : PgI S) (h37 : S.1 75 37 = nI s) (hs : s ≤ 1) (F : FlC s S S2) : PgI S2 := by
  obtain ⟨K, pl, V, m, y, e, N, M, L, n, ρ, τ, fr, n', r', ν, ρ', W, G, T, g1, g2, g3, g4⟩ := h
  obtain ⟨F1, F2, F3⟩ := F
  have hfr : fr = 8 * s := by
    have h9 := g3.2.2.2.2.2.2.2.2.1
    have h5 := g3.2.2.2.2.1
    rw [h37, show (8 : Int32) * nI s = nI (8 * s) from by rw [show (8 : Int32) = nI 8 from rfl, nI_mul]] at h9
    exact ((nI_eq (by omega) (by omega)).mp h9).symm
  refine ⟨K, pl, V, m, y, e, N, M, L, n, ρ, τ, fr, n', r', ν, ρ', W, G, T, g1, fun a k q1 q2 => ?_, RHd_ag g3 (fun a i q1 q2 => F2 a i (by unfold Pr; omega)) (fun a i q => F2 a i (by unfold Pr; omega)) (fun a i q => (F3 a i (by omega) (by unfold kc; omega) (by omega)).1) (fun i q => (F3 75 i (by omega) (by unfold kc; omega) (by omega)).1), g4⟩
  obtain ⟨t1, t2⟩ := F1 (a + 34) k (by omega) (by omega)
  obtain ⟨u1, u2⟩ := g2 a k q1 q2
  exact ⟨t1.trans u1, t2.trans u2⟩
