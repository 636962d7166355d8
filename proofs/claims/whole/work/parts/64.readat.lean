/-! the class's tokens: one token at a place -/
theorem ch_at {n : Nat} (h : n < 127) : ((nI n).toUInt32 % 65536).toInt32 = nI n := by
  have hA : ∀ n, n < 127 → ((nI n).toUInt32 % 65536).toInt32 = nI n := by decide +kernel
  exact hA n h
theorem tk_at {fu : Nat} (hfu : 501 ≤ fu) {S : im_S} {i j L n : Nat} (hj : j < 501) (h : S.1 30 3 = nI j) (hL : L ≤ 500) (hi : i < L) (hn : n < 127) (hc : S.1 1 i = nI n) : ∃ (e : Nat) (k : Int32) (v : Int64), i ≤ e ∧ e ≤ L ∧ f_X9_readAt fu (nI L) (nI i) S = some (nI e, tk_put S j k (nI i) v) := by
  have hcl : (nI i).toNatClampNeg = i := nI_clamp (by omega)
  obtain ⟨r, hr⟩ := dg_at (nI n) S
  obtain ⟨r0, hr0⟩ := lt_at (nI n) S
  obtain ⟨r1, hr1, -⟩ := sg_ix_at hn S
  unfold f_X9_readAt
  rw [mI_in (a := i) (n := 500) (by omega) (by omega), hcl, hc, ch_at hn, hr]
  show ∃ (e : Nat) (k : Int32) (v : Int64), i ≤ e ∧ e ≤ L ∧ (if (r : Int32) = 0 then _ else _) = _
  by_cases hz : r = 0
  · simp only [if_pos hz, hr0]
    show ∃ (e : Nat) (k : Int32) (v : Int64), i ≤ e ∧ e ≤ L ∧ (if (r0 : Int32) = 0 then _ else _) = _
    by_cases hz0 : r0 = 0
    · simp only [if_pos hz0, hr1]
      show ∃ (e : Nat) (k : Int32) (v : Int64), i ≤ e ∧ e ≤ L ∧ (if (r1 : Int32) < 0 then _ else _) = _
      by_cases hs : r1 < 0
      · refine ⟨i + 1, 3, 0, by omega, by omega, ?_⟩
        rw [if_pos hs]
        show (f_X9_add 3 (nI i) 0 S).bind (fun q => some (nI i + nI 1, q.2)) = _
        rw [tk_add hj h, nI_add]
        rfl
      · refine ⟨i + 1, nI n, 0, by omega, by omega, ?_⟩
        rw [if_neg hs]
        show (f_X9_add (nI n) (nI i) 0 S).bind (fun q => some (nI i + nI 1, q.2)) = _
        rw [tk_add hj h, nI_add]
        rfl
    · simp only [if_neg hz0]
      obtain ⟨e, k, v, e1, e2, e3⟩ := tk_let fu hj h hL (nI i) (L - i) fu i 0 (by omega) (by omega)
      refine ⟨e, k, v, e1, e2, ?_⟩
      show (f_X9_readLetters_L6 fu fu (nI L) (nI i) 0 (nI i) S).bind (fun q => some (q.1, q.2)) = _
      rw [e3]
      rfl
  · simp only [if_neg hz]
    obtain ⟨e, k, v, e1, e2, e3⟩ := tk_num fu hj h hL (nI i) (L - i) fu i 0 (by omega) (by omega)
    refine ⟨e, k, v, e1, e2, ?_⟩
    show (f_X9_readNumeral_L6 fu fu (nI L) (nI i) 0 (nI i) S).bind (fun q => some (q.1, q.2)) = _
    rw [e3]
    rfl
