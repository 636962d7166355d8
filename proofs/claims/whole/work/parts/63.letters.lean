/-! the class's tokens: letters are read -/
theorem tk_endL {S : im_S} {j : Nat} (hj : j < 501) (h : S.1 30 3 = nI j) (z6 z3 : Int32) (z4 : Int64) : ∃ k : Int32, (if (z6 - z3 : Int32) ≤ 6 then ((f_X9_nameOrWord z4 S).bind (fun qS3 => (f_X9_add qS3.1 z3 z4 qS3.2).bind (fun qS6 => some (z6, qS6.2)))) else ((f_X9_add 3 z3 z4 S).bind (fun qS9 => some (z6, qS9.2)))) = some (z6, tk_put S j k z3 z4) := by
  by_cases hc : (z6 - z3 : Int32) ≤ 6
  · obtain ⟨k, hk⟩ := nw_tot z4 S
    refine ⟨k, ?_⟩
    rw [if_pos hc, hk]
    show (f_X9_add k z3 z4 S).bind (fun qS6 => some (z6, qS6.2)) = _
    rw [tk_add hj h]
    rfl
  · exact ⟨3, by rw [if_neg hc, tk_add hj h]; rfl⟩
theorem tk_let (fu : Nat) {S : im_S} {j L : Nat} (hj : j < 501) (h : S.1 30 3 = nI j) (hL : L ≤ 500) (z3 : Int32) : ∀ (d nf i : Nat) (z4 : Int64), i + d = L → d < nf → ∃ (e : Nat) (k : Int32) (v : Int64), i ≤ e ∧ e ≤ L ∧ f_X9_readLetters_L6 fu nf (nI L) z3 z4 (nI i) S = some (nI e, tk_put S j k z3 v) := by
  intro d
  induction d with
  | zero =>
    intro nf i z4 hi hn
    obtain ⟨nf, rfl⟩ : ∃ z, nf = z + 1 := ⟨nf - 1, by omega⟩
    have hle : nI L ≤ nI i := (mI_le (a := L) (b := i) (by omega) (by omega)).mpr (by omega)
    obtain ⟨k, hk⟩ := tk_endL hj h (nI i) z3 z4
    exact ⟨i, k, z4, by omega, by omega, by rw [f_X9_readLetters_L6, if_pos hle]; exact hk⟩
  | succ d ih =>
    intro nf i z4 hi hn
    obtain ⟨nf, rfl⟩ : ∃ z, nf = z + 1 := ⟨nf - 1, by omega⟩
    have hlt : ¬ nI L ≤ nI i := fun q => by have := (mI_le (a := L) (b := i) (by omega) (by omega)).mp q; omega
    obtain ⟨r0, hr0⟩ := lt_at ((S.1 1) (nI i).toNatClampNeg) S
    obtain ⟨r, hr⟩ := dg_at ((S.1 1) (nI i).toNatClampNeg) S
    obtain ⟨k, hk⟩ := tk_endL hj h (nI i) z3 z4
    obtain ⟨e, k', v, e1, e2, e3⟩ := ih nf (i + 1) ((z4 <<< ((8 : Int32).toInt64 &&& 63)) ||| (((S.1 1) (nI i).toNatClampNeg).toInt64)) (by omega) (by omega)
    have hgo : f_X9_readLetters_L6 fu nf (nI L) z3 ((z4 <<< ((8 : Int32).toInt64 &&& 63)) ||| (((S.1 1) (nI i).toNatClampNeg).toInt64)) (nI i + 1) S = some (nI e, tk_put S j k' z3 v) := by
      rw [show nI i + 1 = nI (i + 1) from nI_add i 1]; exact e3
    rw [f_X9_readLetters_L6, if_neg hlt, mI_in (a := i) (n := 500) (by omega) (by omega), hr0]
    by_cases hz0 : r0 ≠ 0
    · refine ⟨e, k', v, by omega, e2, ?_⟩
      show (if (r0 : Int32) ≠ 0 then _ else _) = _
      rw [if_pos hz0]
      exact hgo
    · by_cases hz : r = 0
      · refine ⟨i, k, z4, by omega, by omega, ?_⟩
        show (if (r0 : Int32) ≠ 0 then _ else (gd true ((f_X9_isDigit ((S.1 1) (nI i).toNatClampNeg) S).bind _))) = _
        rw [if_neg hz0, hr]
        show (if (r : Int32) = 0 then _ else _) = _
        rw [if_pos hz]
        exact hk
      · refine ⟨e, k', v, by omega, e2, ?_⟩
        show (if (r0 : Int32) ≠ 0 then _ else (gd true ((f_X9_isDigit ((S.1 1) (nI i).toNatClampNeg) S).bind _))) = _
        rw [if_neg hz0, hr]
        show (if (r : Int32) = 0 then _ else _) = _
        rw [if_neg hz]
        exact hgo
