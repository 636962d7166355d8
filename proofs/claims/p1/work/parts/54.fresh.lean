/-! before a program has been compiled: every call but compile -/
def Fr (S : im_S) : Prop := Ty S ∧ S.1 38 9 = 0 ∧ S.1 75 73 = 0 ∧ S.1 56 3 = 0 ∧ S.1 75 35 = 0 ∧ S.1 5 0 = S.1 75 3 ∧ S.1 5 1 = S.1 75 4 ∧ S.1 38 2 = S.1 75 74 ∧ S.1 0 5 = S.1 75 75 ∧ S.1 0 6 = S.1 75 76
theorem Fr.ty {S : im_S} (h : Fr S) : Ty S := h.1
theorem Fr.run10 {S : im_S} (h : Fr S) : S.1 38 9 = 0 := h.2.1
theorem Fr.run11 {S : im_S} (h : Fr S) : S.1 75 73 = 0 := h.2.2.1
theorem Fr.fun10 {S : im_S} (h : Fr S) : S.1 56 3 = 0 := h.2.2.2.1
theorem Fr.fun11 {S : im_S} (h : Fr S) : S.1 75 35 = 0 := h.2.2.2.2.1
theorem Fr.flt0 {S : im_S} (h : Fr S) : S.1 5 0 = S.1 75 3 := h.2.2.2.2.2.1
theorem Fr.flt1 {S : im_S} (h : Fr S) : S.1 5 1 = S.1 75 4 := h.2.2.2.2.2.2.1
theorem Fr.cnt0 {S : im_S} (h : Fr S) : S.1 38 2 = S.1 75 74 := h.2.2.2.2.2.2.2.1
theorem Fr.cnt1 {S : im_S} (h : Fr S) : S.1 0 5 = S.1 75 75 := h.2.2.2.2.2.2.2.2.1
theorem Fr.cnt3 {S : im_S} (h : Fr S) : S.1 0 6 = S.1 75 76 := h.2.2.2.2.2.2.2.2.2
theorem Fr.kept {S S' : im_S} (h : Fr S) (hy : Ty S') (hf : Tf S S') : Fr S' :=
  ⟨hy, (by rw [hf.2 38 9 (by decide) (by decide) (by decide) (by decide)]; exact h.run10), (by rw [hf.2 75 73 (by decide) (by decide) (by decide) (by decide)]; exact h.run11), (by rw [hf.2 56 3 (by decide) (by decide) (by decide) (by decide)]; exact h.fun10), (by rw [hf.2 75 35 (by decide) (by decide) (by decide) (by decide)]; exact h.fun11), (by rw [hf.2 5 0 (by decide) (by decide) (by decide) (by decide), hf.2 75 3 (by decide) (by decide) (by decide) (by decide)]; exact h.flt0), (by rw [hf.2 5 1 (by decide) (by decide) (by decide) (by decide), hf.2 75 4 (by decide) (by decide) (by decide) (by decide)]; exact h.flt1), (by rw [hf.2 38 2 (by decide) (by decide) (by decide) (by decide), hf.2 75 74 (by decide) (by decide) (by decide) (by decide)]; exact h.cnt0), (by rw [hf.2 0 5 (by decide) (by decide) (by decide) (by decide), hf.2 75 75 (by decide) (by decide) (by decide) (by decide)]; exact h.cnt1), (by rw [hf.2 0 6 (by decide) (by decide) (by decide) (by decide), hf.2 75 76 (by decide) (by decide) (by decide) (by decide)]; exact h.cnt3)⟩
theorem Ty_th {S : im_S} (v : Int32) (h : Ty S) : Ty (uI S 75 0 v) ∧ Tf S (uI S 75 0 v) := by
  obtain ⟨t, h1, h2, h3, h4⟩ := h
  refine ⟨⟨t, h1, ?_, ?_, fun k hk => ?_⟩, rfl, fun i k a1 a2 a3 a4 => ?_⟩
  · rw [uI_at, if_neg (by decide)]; exact h2
  · rw [uI_at, if_pos rfl, if_neg (by decide)]; exact h3
  · rw [uI_at, uI_at, if_neg (by decide), if_neg (by decide)]; exact h4 k hk
  · rw [uI_at]
    by_cases q : i = 75
    · rw [if_pos q, if_neg (by omega)]
    · rw [if_neg q]
theorem Fr.th {S : im_S} (h : Fr S) (v : Int32) : Fr (uI S 75 0 v) := h.kept (Ty_th v h.ty).1 (Ty_th v h.ty).2
theorem uI_th (S : im_S) (v : Int32) : (uI S 75 0 v).1 75 0 = v := by rw [uI_at, if_pos rfl, if_pos rfl]
theorem cond0 {S : im_S} (h : S.1 38 9 = 0) : f_X5_condition S = some (0, S) := by rw [f_X5_condition, h, if_neg (by decide)]
theorem stateOf0 {S : im_S} (h : S.1 75 73 = 0) : f_X11_stateOf S = some (0, S) := by rw [f_X11_stateOf, h, if_neg (by decide)]
theorem fault_good {S : im_S} (x : Int32) (h0 : S.1 5 0 = S.1 75 3) (h1 : S.1 5 1 = S.1 75 4) : ∃ r : Int32, f_X10_fault x S = some (r, S) ∧ f_X11_fault x S = some (r, uI S 75 0 0) := by
  by_cases b0 : x = 0
  · exact ⟨S.1 5 0, by rw [f_X10_fault, if_pos b0], by rw [f_X11_fault, if_neg (fun q => q b0), h0]⟩
  by_cases b1 : x = 1
  · exact ⟨S.1 5 1, by rw [f_X10_fault, if_neg b0, if_pos b1], by rw [f_X11_fault, if_pos b0, if_neg (fun q => q b1), h1]⟩
  · exact ⟨-1, by rw [f_X10_fault, if_neg b0, if_neg b1], by rw [f_X11_fault, if_pos b0, if_pos b1]⟩
theorem count_good {S : im_S} (x : Int32) (h0 : S.1 38 2 = S.1 75 74) (h1 : S.1 0 5 = S.1 75 75) (h2 : S.1 56 3 = S.1 75 35) (h3 : S.1 0 6 = S.1 75 76) : ∃ r : Int32, f_X10_count x S = some (r, S) ∧ f_X11_count x S = some (r, uI S 75 0 0) := by
  by_cases b0 : x = 0
  · exact ⟨S.1 38 2, by rw [f_X10_count, if_pos b0], by rw [f_X11_count, if_neg (fun q => q b0), h0]⟩
  by_cases b1 : x = 1
  · exact ⟨S.1 0 5, by rw [f_X10_count, if_neg b0, if_pos b1], by rw [f_X11_count, if_pos b0, if_neg (fun q => q b1), h1]⟩
  by_cases b2 : x = 2
  · exact ⟨S.1 56 3, by rw [f_X10_count, if_neg b0, if_neg b1, if_pos b2], by rw [f_X11_count, if_pos b0, if_pos b1, if_neg (fun q => q b2), h2]⟩
  by_cases b3 : x = 3
  · exact ⟨S.1 0 6, by rw [f_X10_count, if_neg b0, if_neg b1, if_neg b2, if_pos b3], by rw [f_X11_count, if_pos b0, if_pos b1, if_pos b2, if_neg (fun q => q b3), h3]⟩
  · exact ⟨-1, by rw [f_X10_count, if_neg b0, if_neg b1, if_neg b2, if_neg b3], by rw [f_X11_count, if_pos b0, if_pos b1, if_pos b2, if_pos b3]⟩
theorem start_no {S : im_S} (fu : Nat) (x1 : Int32) (x2 x4 x6 x8 : Int64) (h0 : S.1 56 3 = 0) (h1 : S.1 75 35 = 0) : f_X10_start_p fu x1 x2 x4 x6 x8 S = some (0, S) ∧ f_X11_start fu x1 x2 x4 x6 x8 S = some (0, uI S 75 0 0) := by
  by_cases b : x1 < 0
  · exact ⟨by rw [f_X10_start_p, if_pos b], by rw [f_X11_start, if_pos b]⟩
  · have b' : (0 : Int32) ≤ x1 := by rw [Int32.le_iff_toInt_le]; rw [Int32.lt_iff_toInt_lt] at b; omega
    exact ⟨by rw [f_X10_start_p, if_neg b, h0, if_pos b'], by rw [f_X11_start, if_neg b, h1, if_neg b]⟩
theorem step_fr {fu : Nat} (hfu : 10 ≤ fu) (c : Nat → Int32) (hc : ¬ (c 0 &&& 15) = (1 : Int32)) {S : im_S} (h : Fr S) : ∃ S', lw_step fu c S S' ∧ Fr S' := by
  unfold lw_step
  by_cases b0 : (c 0 &&& 15) = (0 : Int32)
  · simp only [if_pos b0]
    obtain ⟨r, S1, S2, e1, e2, e3, e4⟩ := type_good fu hfu ((((c 1).toInt64) <<< ((32 : Int32).toInt64 &&& 63)) ||| (((c 2).toInt64) &&& 4294967295)) (c 3) h.ty
    exact ⟨S2, ⟨r, S1, r, S2, e1, e2, rfl, rfl⟩, h.kept e3 e4⟩
  simp only [if_neg b0, if_neg hc]
  by_cases b2 : (c 0 &&& 15) = (2 : Int32)
  · simp only [if_pos b2]
    obtain ⟨r, e1, e2⟩ := fault_good (c 1) h.flt0 h.flt1
    exact ⟨_, ⟨r, S, r, _, e1, e2, rfl, rfl⟩, h.th 0⟩
  simp only [if_neg b2]
  by_cases b3 : (c 0 &&& 15) = (3 : Int32)
  · simp only [if_pos b3]
    obtain ⟨e1, e2⟩ := start_no fu (c 1) ((((c 2).toInt64) <<< ((32 : Int32).toInt64 &&& 63)) ||| (((c 3).toInt64) &&& 4294967295)) ((((c 4).toInt64) <<< ((32 : Int32).toInt64 &&& 63)) ||| (((c 5).toInt64) &&& 4294967295)) ((((c 6).toInt64) <<< ((32 : Int32).toInt64 &&& 63)) ||| (((c 7).toInt64) &&& 4294967295)) ((((c 8).toInt64) <<< ((32 : Int32).toInt64 &&& 63)) ||| (((c 9).toInt64) &&& 4294967295)) h.fun10 h.fun11
    exact ⟨_, ⟨0, S, 0, _, e1, e2, rfl, rfl⟩, h.th 0⟩
  simp only [if_neg b3]
  by_cases b4 : (c 0 &&& 15) = (4 : Int32)
  · simp only [if_pos b4]
    have e1 : f_X10_fire_p (c 1) ((((c 2).toInt64) <<< ((32 : Int32).toInt64 &&& 63)) ||| (((c 3).toInt64) &&& 4294967295)) S = some (.inl xISE, S) := by
      rw [f_X10_fire_p, cond0 h.run10]; rfl
    have e2 : f_X11_fire (c 1) ((((c 2).toInt64) <<< ((32 : Int32).toInt64 &&& 63)) ||| (((c 3).toInt64) &&& 4294967295)) S = some (0, uI S 75 0 1) := by
      rw [f_X11_fire, stateOf0 h.run11]; rfl
    refine ⟨uI S 75 0 1, ⟨.inl xISE, S, 0, uI S 75 0 1, 1, uI S 75 0 1, e1, ?_, e2, ?_, ?_, ?_, rfl⟩, h.th 1⟩
    · intro E hE; cases hE; exact .inl rfl
    · rw [f_X11_thrown, uI_th]
    · rfl
    · intro q; exact absurd (show (hk_fire (.inl xISE) : Int32) ≠ 0 by decide) q
  simp only [if_neg b4]
  by_cases b5 : (c 0 &&& 15) = (5 : Int32)
  · simp only [if_pos b5]
    have e1 : f_X10_state S = some (0, S) := by rw [f_X10_state, cond0 h.run10]; rfl
    have e2 : f_X11_state S = some (0, uI S 75 0 0) := by rw [f_X11_state, stateOf0 (h.th 0).run11]; rfl
    exact ⟨_, ⟨0, S, 0, _, e1, e2, rfl, rfl⟩, h.th 0⟩
  simp only [if_neg b5]
  by_cases b6 : (c 0 &&& 15) = (6 : Int32)
  · simp only [if_pos b6]
    have e1 : f_X10_kind S = some (0, S) := by rw [f_X10_kind, cond0 h.run10]; rfl
    have e2 : f_X11_kind S = some (0, uI S 75 0 0) := by rw [f_X11_kind, stateOf0 (h.th 0).run11]; rfl
    exact ⟨_, ⟨0, S, 0, _, e1, e2, rfl, rfl⟩, h.th 0⟩
  simp only [if_neg b6]
  by_cases b7 : (c 0 &&& 15) = (7 : Int32)
  · simp only [if_pos b7]
    have e1 : f_X10_value S = some (.inl xNSE, S) := by rw [f_X10_value, cond0 h.run10]; rfl
    have e2 : f_X11_value S = some (0, uI S 75 0 1) := by rw [f_X11_value, stateOf0 h.run11]; rfl
    refine ⟨uI S 75 0 1, ⟨.inl xNSE, S, 0, uI S 75 0 1, 1, uI S 75 0 1, e1, ?_, e2, ?_, ?_, ?_, rfl⟩, h.th 1⟩
    · intro E hE; cases hE; rfl
    · rw [f_X11_thrown, uI_th]
    · rfl
    · intro q; exact absurd (show (hk_value (.inl xNSE) : Int32) ≠ 0 by decide) q
  simp only [if_neg b7]
  by_cases b8 : (c 0 &&& 15) = (8 : Int32)
  · simp only [if_pos b8]
    have e1 : f_X10_cell (c 1) (c 2) S = some (.inl xNSE, S) := by rw [f_X10_cell, cond0 h.run10]; rfl
    have e2 : f_X11_cell (c 1) (c 2) S = some (0, uI S 75 0 1) := by rw [f_X11_cell, stateOf0 h.run11]; rfl
    refine ⟨uI S 75 0 1, ⟨.inl xNSE, S, 0, uI S 75 0 1, 1, uI S 75 0 1, e1, ?_, e2, ?_, ?_, ?_, rfl⟩, h.th 1⟩
    · intro E hE; cases hE; rfl
    · rw [f_X11_thrown, uI_th]
    · rfl
    · intro q; exact absurd (show (hk_cell (.inl xNSE) : Int32) ≠ 0 by decide) q
  simp only [if_neg b8]
  by_cases b9 : (c 0 &&& 15) = (9 : Int32)
  · simp only [if_pos b9]
    obtain ⟨r, e1, e2⟩ := count_good (c 1) h.cnt0 h.cnt1 (h.fun10.trans h.fun11.symm) h.cnt3
    exact ⟨_, ⟨r, S, r, _, e1, e2, rfl, rfl⟩, h.th 0⟩
  simp only [if_neg b9]
  exact ⟨S, rfl, h⟩
theorem Fr_S0 : Fr S0 := ⟨⟨0, by decide, rfl, rfl, fun k h => by omega⟩, rfl, rfl, rfl, rfl, rfl, rfl, rfl, rfl, rfl⟩
