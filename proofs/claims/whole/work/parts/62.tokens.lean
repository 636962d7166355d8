/-! the class's tokens: one is added, a numeral is read -/
/-- token number j written -/
def tk_put (S : im_S) (j : Nat) (k p : Int32) (n : Int64) : im_S := uI (uJ (uI (uI S 31 j k) 32 j p) 33 j n) 30 3 (nI (j + 1))
theorem tk_add {S : im_S} {j : Nat} (hj : j < 501) (h : S.1 30 3 = nI j) (k p : Int32) (n : Int64) : f_X9_add k p n S = some ((), tk_put S j k p n) := by
  unfold f_X9_add
  rw [h, mI_in (a := j) (n := 501) (by omega) hj, nI_clamp (by omega)]
  show some ((), uI (uJ (uI (uI S 31 j k) 32 j p) 33 j n) 30 3 (nI j + nI 1)) = _
  rw [nI_add]
  rfl
theorem dg_at (x : Int32) (S : im_S) : ∃ r : Int32, f_X9_isDigit x S = some (r, S) := by
  unfold f_X9_isDigit
  by_cases h1 : x < 48
  · exact ⟨0, by rw [if_pos h1]⟩
  · by_cases h2 : (57 : Int32) < x
    · exact ⟨0, by rw [if_neg h1, if_pos h2]⟩
    · exact ⟨1, by rw [if_neg h1, if_neg h2]⟩
theorem lt_at (x : Int32) (S : im_S) : ∃ r : Int32, f_X9_isLetter x S = some (r, S) := by
  unfold f_X9_isLetter
  by_cases h1 : x < 97
  · exact ⟨0, by rw [if_pos h1]⟩
  · by_cases h2 : (122 : Int32) < x
    · exact ⟨0, by rw [if_neg h1, if_pos h2]⟩
    · exact ⟨1, by rw [if_neg h1, if_neg h2]⟩
theorem tk_end {S : im_S} {j : Nat} (hj : j < 501) (h : S.1 30 3 = nI j) (z6 z3 : Int32) (z4 : Int64) : ∃ k : Int32, (if (z6 - z3 : Int32) ≤ 10 then ((f_X9_add 2 z3 z4 S).bind (fun qS3 => some (z6, qS3.2))) else ((f_X9_add 3 z3 z4 S).bind (fun qS6 => some (z6, qS6.2)))) = some (z6, tk_put S j k z3 z4) := by
  by_cases hc : (z6 - z3 : Int32) ≤ 10
  · exact ⟨2, by rw [if_pos hc, tk_add hj h]; rfl⟩
  · exact ⟨3, by rw [if_neg hc, tk_add hj h]; rfl⟩
theorem tk_num (fu : Nat) {S : im_S} {j L : Nat} (hj : j < 501) (h : S.1 30 3 = nI j) (hL : L ≤ 500) (z3 : Int32) : ∀ (d nf i : Nat) (z4 : Int64), i + d = L → d < nf → ∃ (e : Nat) (k : Int32) (v : Int64), i ≤ e ∧ e ≤ L ∧ f_X9_readNumeral_L6 fu nf (nI L) z3 z4 (nI i) S = some (nI e, tk_put S j k z3 v) := by
  intro d
  induction d with
  | zero =>
    intro nf i z4 hi hn
    obtain ⟨nf, rfl⟩ : ∃ z, nf = z + 1 := ⟨nf - 1, by omega⟩
    have hle : nI L ≤ nI i := (mI_le (a := L) (b := i) (by omega) (by omega)).mpr (by omega)
    obtain ⟨k, hk⟩ := tk_end hj h (nI i) z3 z4
    exact ⟨i, k, z4, by omega, by omega, by rw [f_X9_readNumeral_L6, if_pos hle]; exact hk⟩
  | succ d ih =>
    intro nf i z4 hi hn
    obtain ⟨nf, rfl⟩ : ∃ z, nf = z + 1 := ⟨nf - 1, by omega⟩
    have hlt : ¬ nI L ≤ nI i := fun q => by have := (mI_le (a := L) (b := i) (by omega) (by omega)).mp q; omega
    obtain ⟨r, hr⟩ := dg_at ((S.1 1) (nI i).toNatClampNeg) S
    obtain ⟨k, hk⟩ := tk_end hj h (nI i) z3 z4
    by_cases hz : r = 0
    · refine ⟨i, k, z4, by omega, by omega, ?_⟩
      rw [f_X9_readNumeral_L6, if_neg hlt, mI_in (a := i) (n := 500) (by omega) (by omega)]
      show ((f_X9_isDigit ((S.1 1) (nI i).toNatClampNeg) S).bind _) = _
      rw [hr]
      show (if (r : Int32) = 0 then _ else _) = _
      rw [if_pos hz]
      exact hk
    · obtain ⟨e, k', v, e1, e2, e3⟩ := ih nf (i + 1) ((z4 * 10) + ((((S.1 1) (nI i).toNatClampNeg) - 48).toInt64)) (by omega) (by omega)
      refine ⟨e, k', v, by omega, e2, ?_⟩
      rw [f_X9_readNumeral_L6, if_neg hlt, mI_in (a := i) (n := 500) (by omega) (by omega)]
      show ((f_X9_isDigit ((S.1 1) (nI i).toNatClampNeg) S).bind _) = _
      rw [hr]
      show (if (r : Int32) = 0 then _ else (gd true (f_X9_readNumeral_L6 fu nf (nI L) z3 ((z4 * 10) + ((((S.1 1) (nI i).toNatClampNeg) - 48).toInt64)) (nI i + nI 1) S))) = _
      rw [if_neg hz, nI_add]
      exact e3
