/-! the class's parser: its small operations -/
/-- a push -/
def psS (S : im_S) (sz : Nat) (k nd rg : Int32) : im_S := uI (uI (uI (uI S 35 sz k) 36 sz nd) 37 sz rg) 34 3 (nI (sz + 1))
theorem c_push {S : im_S} {sz : Nat} (h : S.1 34 3 = nI sz) (hs : sz < 512) (k nd rg : Int32) : f_X6_push k nd rg S = some ((), psS S sz k nd rg) := by
  unfold f_X6_push psS
  rw [h, mI_in (a := sz) (n := 512) (by omega) hs, nI_clamp (by omega), show nI sz + 1 = nI (sz + 1) from nI_add sz 1]
  rfl
theorem ps_ne {S : im_S} {sz : Nat} {k nd rg : Int32} {a j : Nat} (h : (a < 35 ∨ 37 < a ∨ j ≠ sz) ∧ (a ≠ 34 ∨ j ≠ 3)) : (psS S sz k nd rg).1 a j = S.1 a j := by
  unfold psS
  rw [uI_ne (by omega), uI_ne (by omega), uI_ne (by omega), uI_ne (by omega)]
theorem ps_f (S : im_S) (sz : Nat) (k nd rg : Int32) : (psS S sz k nd rg).1 35 sz = k ∧ (psS S sz k nd rg).1 36 sz = nd ∧ (psS S sz k nd rg).1 37 sz = rg ∧ (psS S sz k nd rg).1 34 3 = nI (sz + 1) := by
  unfold psS
  refine ⟨?_, ?_, ?_, uI_eq⟩
  · rw [uI_ne (by omega), uI_ne (by omega), uI_ne (by omega), uI_eq]
  · rw [uI_ne (by omega), uI_ne (by omega), uI_eq]
  · rw [uI_ne (by omega), uI_eq]
theorem c_pop {S : im_S} {sz : Nat} (h : S.1 34 3 = nI (sz + 1)) (hs : sz < 512) : f_X6_pop S = some (S.1 36 sz, uI S 34 3 (nI sz)) := by
  unfold f_X6_pop
  rw [h, show nI (sz + 1) - 1 = nI sz by rw [show (1 : Int32) = nI 1 from rfl, nI_sub (by omega), Nat.add_sub_cancel], mI_in (a := sz) (n := 512) (by omega) hs, nI_clamp (by omega)]
  rfl
theorem c_topK {S : im_S} {sz : Nat} (h : S.1 34 3 = nI (sz + 1)) (hs : sz < 512) : f_X6_topKind S = some (S.1 35 sz, S) := by
  unfold f_X6_topKind
  rw [h, if_pos (fun z => by have := (nI_eq (a := sz + 1) (b := 0) (by omega) (by omega)).mp z; omega), show nI (sz + 1) - 1 = nI sz by rw [show (1 : Int32) = nI 1 from rfl, nI_sub (by omega), Nat.add_sub_cancel], mI_in (a := sz) (n := 512) (by omega) hs, nI_clamp (by omega)]
  rfl
theorem c_topN {S : im_S} {sz : Nat} (h : S.1 34 3 = nI (sz + 1)) (hs : sz < 512) : f_X6_topNode S = some (S.1 36 sz, S) := by
  unfold f_X6_topNode
  rw [h, if_pos (fun z => by have := (nI_eq (a := sz + 1) (b := 0) (by omega) (by omega)).mp z; omega), show nI (sz + 1) - 1 = nI sz by rw [show (1 : Int32) = nI 1 from rfl, nI_sub (by omega), Nat.add_sub_cancel], mI_in (a := sz) (n := 512) (by omega) hs, nI_clamp (by omega)]
  rfl
theorem c_topR {S : im_S} {sz : Nat} (h : S.1 34 3 = nI (sz + 1)) (hs : sz < 512) : f_X6_topRegion S = some (S.1 37 sz, S) := by
  unfold f_X6_topRegion
  rw [h, if_pos (fun z => by have := (nI_eq (a := sz + 1) (b := 0) (by omega) (by omega)).mp z; omega), show nI (sz + 1) - 1 = nI sz by rw [show (1 : Int32) = nI 1 from rfl, nI_sub (by omega), Nat.add_sub_cancel], mI_in (a := sz) (n := 512) (by omega) hs, nI_clamp (by omega)]
  rfl
theorem c_topS {S : im_S} {sz k : Nat} (h : S.1 34 3 = nI (sz + 1)) (hs : sz < 512) (hk : S.1 35 sz = nI k) (hk2 : k < 100) : f_X6_topStrength S = some (nI (if 6 < k then 0 else k), S) := by
  unfold f_X6_topStrength
  rw [c_topK h hs, hk]
  have c1 : (6 : Int32) < nI k ↔ 6 < k := mI_lt (a := 6) (b := k) (by omega) (by omega)
  simp only [Option.bind_some]
  by_cases h6 : 6 < k
  · rw [if_pos (c1.mpr h6), if_pos h6]; rfl
  · rw [if_neg (fun z => h6 (c1.mp z)), if_neg h6, c_topK h hs, hk]; rfl
theorem c_topE {S : im_S} {sz k : Nat} (h : S.1 34 3 = nI (sz + 1)) (hs : sz < 512) (hk : S.1 35 sz = nI k) (hk2 : k < 100) : f_X6_topEndsByItself S = some (if k = 15 ∨ k = 18 ∨ k = 22 ∨ k = 24 then 1 else 0, S) := by
  unfold f_X6_topEndsByItself
  rw [c_topK h hs, hk]
  have c15 : nI k = (15 : Int32) ↔ k = 15 := nI_eq (a := k) (b := 15) (by omega) (by omega)
  have c18 : nI k = (18 : Int32) ↔ k = 18 := nI_eq (a := k) (b := 18) (by omega) (by omega)
  have c22 : nI k = (22 : Int32) ↔ k = 22 := nI_eq (a := k) (b := 22) (by omega) (by omega)
  have c24 : nI k = (24 : Int32) ↔ k = 24 := nI_eq (a := k) (b := 24) (by omega) (by omega)
  simp only [Option.bind_some]
  by_cases h1 : k = 15
  · rw [if_pos (c15.mpr h1), if_pos (by omega)]
  rw [if_neg (fun z => h1 (c15.mp z))]
  by_cases h2 : k = 18
  · rw [if_pos (c18.mpr h2), if_pos (by omega)]
  rw [if_neg (fun z => h2 (c18.mp z))]
  by_cases h3 : k = 22
  · rw [if_pos (c22.mpr h3), if_pos (by omega)]
  rw [if_neg (fun z => h3 (c22.mp z))]
  by_cases h4 : k = 24
  · rw [if_neg (fun z => z (c24.mpr h4)), if_pos (by omega)]
  rw [if_pos (fun z => h4 (c24.mp z)), if_neg (by omega)]
/-- how many slots a kind takes; which kinds are leaves -/
def wk (c : Nat) : Nat := if c = 8 ∨ c = 9 then 2 else 1
def lfk (c : Nat) : Prop := c = 1 ∨ c = 2 ∨ c = 8 ∨ c = 9
/-- a node goes to a template -/
def mvS (S : im_S) (k T sT w : Nat) : im_S := uI (uI (uI S 17 k (nI T)) 18 k (nI sT)) 28 T (nI (sT + w))
theorem c_move {S : im_S} {k T sT c : Nat} (hk : k < 512) (hT : T < 512) (hc : S.1 7 k = nI c) (hc2 : c < 100) (hs : S.1 28 T = nI sT) : f_X3_moveTo (nI k) (nI T) S = some ((), mvS S k T sT (wk c)) := by
  unfold f_X3_moveTo mvS wk
  have e8 : nI c = (8 : Int32) ↔ c = 8 := nI_eq (a := c) (b := 8) (by omega) (by omega)
  have e9 : nI c = (9 : Int32) ↔ c = 9 := nI_eq (a := c) (b := 9) (by omega) (by omega)
  rw [mI_in (a := k) (n := 512) (by omega) hk, nI_clamp (show k < 2 ^ 31 by omega), hc, mI_in (a := T) (n := 512) (by omega) hT, nI_clamp (show T < 2 ^ 31 by omega), hs]
  simp only [gd_t]
  by_cases h8 : c = 8
  · rw [if_pos (e8.mpr h8), if_pos (Or.inl h8), show nI sT + 2 = nI (sT + 2) from nI_add sT 2]
  rw [if_neg (fun z => h8 (e8.mp z))]
  by_cases h9 : c = 9
  · rw [if_neg (fun z => z (e9.mpr h9)), if_pos (Or.inr h9), show nI sT + 2 = nI (sT + 2) from nI_add sT 2]
  rw [if_pos (fun z => h9 (e9.mp z)), if_neg (by omega), show nI sT + 1 = nI (sT + 1) from nI_add sT 1]
theorem mv_ne {S : im_S} {k T sT w a j : Nat} (h : (a ≠ 17 ∨ j ≠ k) ∧ (a ≠ 18 ∨ j ≠ k) ∧ (a ≠ 28 ∨ j ≠ T)) : (mvS S k T sT w).1 a j = S.1 a j := by
  unfold mvS
  rw [uI_ne (by omega), uI_ne (by omega), uI_ne (by omega)]
theorem mv_f (S : im_S) (k T sT w : Nat) : (mvS S k T sT w).1 17 k = nI T ∧ (mvS S k T sT w).1 18 k = nI sT ∧ (mvS S k T sT w).1 28 T = nI (sT + w) := by
  unfold mvS
  refine ⟨?_, ?_, uI_eq⟩
  · rw [uI_ne (by omega), uI_ne (by omega), uI_eq]
  · rw [uI_ne (by omega), uI_eq]
/-- a new node -/
def adA (S : im_S) (n : Nat) (c t p : Int32) (v : Int64) : im_S := uJ (uI (uI (uI (uI (uI (uI (uI (uI (uI (uI (uI (uI S 6 16 (nI (n + 1))) 7 n c) 8 n t) 9 n 0) 10 n (-1)) 11 n (-1)) 12 n (-1)) 13 n (-1)) 14 n (-1)) 15 n (-1)) 19 n p) 20 n p) 21 n v
def adS (S : im_S) (n c : Nat) (t p : Int32) (v : Int64) (R T sT : Nat) : im_S := if c = 1 ∨ c = 2 ∨ c = 8 ∨ c = 9 then uI (uI (mvS (adA S n (nI c) t p v) n T sT (wk c)) 16 n ((mvS (adA S n (nI c) t p v) n T sT (wk c)).1 26 R)) 26 R (nI n) else mvS (adA S n (nI c) t p v) n T sT (wk c)
theorem adA_ne {S : im_S} {n : Nat} {c t p : Int32} {v : Int64} {a j : Nat} (h : (a ≠ 6 ∨ j ≠ 16) ∧ (j ≠ n ∨ a < 7 ∨ 20 < a ∨ (15 < a ∧ a < 19))) : (adA S n c t p v).1 a j = S.1 a j := by
  unfold adA
  rw [uJ_1, uI_ne (by omega), uI_ne (by omega), uI_ne (by omega), uI_ne (by omega), uI_ne (by omega), uI_ne (by omega), uI_ne (by omega), uI_ne (by omega), uI_ne (by omega), uI_ne (by omega), uI_ne (by omega), uI_ne (by omega)]
theorem adA_f (S : im_S) (n : Nat) (c t p : Int32) (v : Int64) : (adA S n c t p v).1 6 16 = nI (n + 1) ∧ (adA S n c t p v).1 7 n = c ∧ (adA S n c t p v).1 8 n = t ∧ (adA S n c t p v).1 9 n = 0 ∧ (adA S n c t p v).1 10 n = -1 ∧ (adA S n c t p v).1 11 n = -1 ∧ (adA S n c t p v).1 12 n = -1 ∧ (adA S n c t p v).1 13 n = -1 ∧ (adA S n c t p v).1 14 n = -1 ∧ (adA S n c t p v).1 15 n = -1 ∧ (adA S n c t p v).1 19 n = p ∧ (adA S n c t p v).1 20 n = p ∧ (adA S n c t p v).2.1 21 n = v := by
  unfold adA
  rw [uJ_1]
  refine ⟨?_, ?_, ?_, ?_, ?_, ?_, ?_, ?_, ?_, ?_, ?_, ?_, uJ_eq⟩
  · simp (disch := omega) only [uI_ne, uI_eq]
  · simp (disch := omega) only [uI_ne, uI_eq]
  · simp (disch := omega) only [uI_ne, uI_eq]
  · simp (disch := omega) only [uI_ne, uI_eq]
  · simp (disch := omega) only [uI_ne, uI_eq]
  · simp (disch := omega) only [uI_ne, uI_eq]
  · simp (disch := omega) only [uI_ne, uI_eq]
  · simp (disch := omega) only [uI_ne, uI_eq]
  · simp (disch := omega) only [uI_ne, uI_eq]
  · simp (disch := omega) only [uI_ne, uI_eq]
  · simp (disch := omega) only [uI_ne, uI_eq]
  · simp (disch := omega) only [uI_ne, uI_eq]
theorem c_add {S : im_S} {n c R T sT : Nat} {t p : Int32} {v : Int64} (hn : S.1 6 16 = nI n) (hn2 : n < 512) (hc : c < 100) (hR : R < 512) (hT : S.1 27 R = nI T) (hT2 : T < 512) (hs : S.1 28 T = nI sT) : f_X3_add (nI c) t p v (nI R) S = some (nI n, adS S n c t p v R T sT) := by
  unfold f_X3_add
  rw [hn, mI_in (a := n) (n := 512) (by omega) hn2, nI_clamp (show n < 2 ^ 31 by omega), mI_in (a := R) (n := 512) (by omega) hR, nI_clamp (show R < 2 ^ 31 by omega), hT, show nI n + 1 = nI (n + 1) from nI_add n 1]
  simp only [gd_t]
  change ((f_X3_moveTo (nI n) (nI T) (adA S n (nI c) t p v)).bind _) = _
  rw [c_move (c := c) hn2 hT2 (adA_f S n (nI c) t p v).2.1 hc (by rw [adA_ne (by omega)]; exact hs)]
  simp only [Option.bind_some]
  unfold adS
  have e1 : nI c = (1 : Int32) ↔ c = 1 := nI_eq (a := c) (b := 1) (by omega) (by omega)
  have e2 : nI c = (2 : Int32) ↔ c = 2 := nI_eq (a := c) (b := 2) (by omega) (by omega)
  have e8 : nI c = (8 : Int32) ↔ c = 8 := nI_eq (a := c) (b := 8) (by omega) (by omega)
  have e9 : nI c = (9 : Int32) ↔ c = 9 := nI_eq (a := c) (b := 9) (by omega) (by omega)
  by_cases h1 : c = 1
  · rw [if_pos (e1.mpr h1), if_pos (by omega)]
  rw [if_neg (fun z => h1 (e1.mp z))]
  by_cases h2 : c = 2
  · rw [if_pos (e2.mpr h2), if_pos (by omega)]
  rw [if_neg (fun z => h2 (e2.mp z))]
  by_cases h8 : c = 8
  · rw [if_pos (e8.mpr h8), if_pos (by omega)]
  rw [if_neg (fun z => h8 (e8.mp z))]
  by_cases h9 : c = 9
  · rw [if_neg (fun z => z (e9.mpr h9)), if_pos (by omega)]
  rw [if_pos (fun z => h9 (e9.mp z)), if_neg (by omega)]
theorem ad_ne {S : im_S} {n c R T sT : Nat} {t p : Int32} {v : Int64} {a j : Nat} (h : (a ≠ 6 ∨ j ≠ 16) ∧ (j ≠ n ∨ a < 7 ∨ 20 < a) ∧ (a ≠ 26 ∨ j ≠ R) ∧ (a ≠ 28 ∨ j ≠ T)) : (adS S n c t p v R T sT).1 a j = S.1 a j := by
  unfold adS
  by_cases hc : c = 1 ∨ c = 2 ∨ c = 8 ∨ c = 9
  · rw [if_pos hc, uI_ne (by omega), uI_ne (by omega), mv_ne (by omega), adA_ne (by omega)]
  · rw [if_neg hc, mv_ne (by omega), adA_ne (by omega)]
theorem ad_21 {S : im_S} {n c R T sT : Nat} {t p : Int32} {v : Int64} {a j : Nat} : (adS S n c t p v R T sT).2.1 a j = if a = 21 ∧ j = n then v else S.2.1 a j := by
  have e : (adA S n (nI c) t p v).2.1 a j = if a = 21 ∧ j = n then v else S.2.1 a j := by
    unfold adA
    rw [uJ_at]
    by_cases h1 : a = 21
    · by_cases h2 : j = n
      · rw [if_pos h1, if_pos h2, if_pos ⟨h1, h2⟩]
      · rw [if_pos h1, if_neg h2, if_neg (fun z => h2 z.2)]; rfl
    · rw [if_neg h1, if_neg (fun z => h1 z.1)]; rfl
  unfold adS
  by_cases hc : c = 1 ∨ c = 2 ∨ c = 8 ∨ c = 9
  · rw [if_pos hc]; exact e
  · rw [if_neg hc]; exact e
theorem ad_f (S : im_S) (n c : Nat) (t p : Int32) (v : Int64) (R T sT : Nat) : (adS S n c t p v R T sT).1 6 16 = nI (n + 1) ∧ (adS S n c t p v R T sT).1 7 n = nI c ∧ (adS S n c t p v R T sT).1 8 n = t ∧ (adS S n c t p v R T sT).1 9 n = 0 ∧ (adS S n c t p v R T sT).1 10 n = -1 ∧ (adS S n c t p v R T sT).1 11 n = -1 ∧ (adS S n c t p v R T sT).1 12 n = -1 ∧ (adS S n c t p v R T sT).1 13 n = -1 ∧ (adS S n c t p v R T sT).1 14 n = -1 ∧ (adS S n c t p v R T sT).1 15 n = -1 ∧ (adS S n c t p v R T sT).1 19 n = p ∧ (adS S n c t p v R T sT).1 20 n = p ∧ (adS S n c t p v R T sT).1 17 n = nI T ∧ (adS S n c t p v R T sT).1 18 n = nI sT ∧ (adS S n c t p v R T sT).1 28 T = nI (sT + wk c) := by
  obtain ⟨a1, a2, a3, a4, a5, a6, a7, a8, a9, a10, a11, a12, a13⟩ := adA_f S n (nI c) t p v
  obtain ⟨m1, m2, m3⟩ := mv_f (adA S n (nI c) t p v) n T sT (wk c)
  have g : ∀ (a j : Nat), (a ≠ 16 ∨ j ≠ n) ∧ (a ≠ 26 ∨ j ≠ R) → (adS S n c t p v R T sT).1 a j = (mvS (adA S n (nI c) t p v) n T sT (wk c)).1 a j := by
    intro a j h
    unfold adS
    by_cases hc : c = 1 ∨ c = 2 ∨ c = 8 ∨ c = 9
    · rw [if_pos hc, uI_ne (by omega), uI_ne (by omega)]
    · rw [if_neg hc]
  refine ⟨?_, ?_, ?_, ?_, ?_, ?_, ?_, ?_, ?_, ?_, ?_, ?_, ?_, ?_, ?_⟩
  · rw [g _ _ (by omega), mv_ne (by omega)]; exact a1
  · rw [g _ _ (by omega), mv_ne (by omega)]; exact a2
  · rw [g _ _ (by omega), mv_ne (by omega)]; exact a3
  · rw [g _ _ (by omega), mv_ne (by omega)]; exact a4
  · rw [g _ _ (by omega), mv_ne (by omega)]; exact a5
  · rw [g _ _ (by omega), mv_ne (by omega)]; exact a6
  · rw [g _ _ (by omega), mv_ne (by omega)]; exact a7
  · rw [g _ _ (by omega), mv_ne (by omega)]; exact a8
  · rw [g _ _ (by omega), mv_ne (by omega)]; exact a9
  · rw [g _ _ (by omega), mv_ne (by omega)]; exact a10
  · rw [g _ _ (by omega), mv_ne (by omega)]; exact a11
  · rw [g _ _ (by omega), mv_ne (by omega)]; exact a12
  · rw [g _ _ (by omega)]; exact m1
  · rw [g _ _ (by omega)]; exact m2
  · rw [g _ _ (by omega)]; exact m3
/-- a leaf is the first of its region's -/
theorem ad_lf (S : im_S) (n c : Nat) (t p : Int32) (v : Int64) (R T sT : Nat) (hc : c = 1 ∨ c = 2 ∨ c = 8 ∨ c = 9) : (adS S n c t p v R T sT).1 26 R = nI n ∧ (adS S n c t p v R T sT).1 16 n = S.1 26 R := by
  unfold adS
  rw [if_pos hc]
  refine ⟨uI_eq, ?_⟩
  rw [uI_ne (by omega), uI_eq, mv_ne (by omega), adA_ne (by omega)]
theorem ad_nl (S : im_S) (n c : Nat) (t p : Int32) (v : Int64) (R T sT : Nat) (hc : ¬ (c = 1 ∨ c = 2 ∨ c = 8 ∨ c = 9)) : (adS S n c t p v R T sT).1 26 R = S.1 26 R := by
  unfold adS
  rw [if_neg hc, mv_ne (by omega), adA_ne (by omega)]
/-- a value is connected -/
def cnS (S : im_S) (k : Nat) (r p t : Int32) : im_S := uI (uI (uI S 9 k r) 10 k p) 11 k t
theorem c_conn {S : im_S} {k : Nat} (hk : k < 512) (r p t : Int32) : f_X3_connect (nI k) r p t S = some ((), cnS S k r p t) := by
  unfold f_X3_connect cnS
  rw [mI_in (a := k) (n := 512) (by omega) hk, nI_clamp (by omega)]
  rfl
theorem cn_ne {S : im_S} {k : Nat} {r p t : Int32} {a j : Nat} (h : j ≠ k ∨ a < 9 ∨ 11 < a) : (cnS S k r p t).1 a j = S.1 a j := by
  unfold cnS
  rw [uI_ne (by omega), uI_ne (by omega), uI_ne (by omega)]
theorem cn_f (S : im_S) (k : Nat) (r p t : Int32) : (cnS S k r p t).1 9 k = r ∧ (cnS S k r p t).1 10 k = p ∧ (cnS S k r p t).1 11 k = t := by
  unfold cnS
  refine ⟨?_, ?_, uI_eq⟩
  · rw [uI_ne (by omega), uI_ne (by omega), uI_eq]
  · rw [uI_ne (by omega), uI_eq]
/-- a type is checked -/
def ckS (S : im_S) (k : Nat) (w : Int32) : im_S := if (S.1 8 k : Int32) = w then S else ntS S 3 (S.1 20 k)
theorem c_chk {S : im_S} {k : Nat} (hk : k < 512) (w : Int32) : f_X7_checkType (nI k) w S = some ((), ckS S k w) := by
  unfold f_X7_checkType ckS
  rw [mI_in (a := k) (n := 512) (by omega) hk, nI_clamp (by omega)]
  simp only [gd_t]
  by_cases h : (S.1 8 k : Int32) = w
  · rw [if_pos h, if_pos h]
  · rw [if_neg h, if_neg h, c_note]
    rfl
theorem ck_ne {S : im_S} {k : Nat} {w : Int32} {a j : Nat} (h : a ≠ 5) : (ckS S k w).1 a j = S.1 a j := by
  unfold ckS
  by_cases e : (S.1 8 k : Int32) = w
  · rw [if_pos e]
  · rw [if_neg e, nt_ne S _ _ h]
theorem ck_21 (S : im_S) (k : Nat) (w : Int32) : (ckS S k w).2.1 = S.2.1 := by
  unfold ckS
  by_cases e : (S.1 8 k : Int32) = w
  · rw [if_pos e]
  · rw [if_neg e, nt_21]
/-- what a check of an X finds -/
def chk (pl : Nat → Nat) (ty b t : Nat) : Nat := if ty = t then 4000 else 4 * pl b + 3
theorem ck_fs {pl : Nat → Nat} {S : im_S} {f k ty b t : Nat} (h : FSg (S.1 5 0) (S.1 5 1) f) (hty : S.1 8 k = nI ty) (hb : S.1 20 k = nI (pl b)) (hp : pl b ≤ 500) (h1 : ty < 100) (h2 : t < 100) (hf : f ≤ 4000) : FSg ((ckS S k (nI t)).1 5 0) ((ckS S k (nI t)).1 5 1) (min f (chk pl ty b t)) := by
  unfold ckS chk
  rw [hty, hb]
  by_cases e : ty = t
  · rw [if_pos (by rw [e]), if_pos e, Nat.min_eq_left hf]; exact h
  · rw [if_neg (fun z => e ((nI_eq (by omega) (by omega)).mp z)), if_neg e]
    exact nt_fs (k := 3) h (by omega) (by omega) hp
/-- a template, a region -/
def atS (S : im_S) (τ : Nat) (d : Int32) : im_S := uI (uI (uI S 28 τ 0) 29 τ d) 22 9 (nI (τ + 1))
theorem c_addT {S : im_S} {τ : Nat} (h : S.1 22 9 = nI τ) (hτ : τ < 512) (d : Int32) : f_X4_addTemplate d S = some (nI τ, atS S τ d) := by
  unfold f_X4_addTemplate atS
  rw [h, mI_in (a := τ) (n := 512) (by omega) hτ, nI_clamp (by omega), show nI τ + 1 = nI (τ + 1) from nI_add τ 1, show nI (τ + 1) - 1 = nI τ by rw [show (1 : Int32) = nI 1 from rfl, nI_sub (by omega), Nat.add_sub_cancel]]
  rfl
def arS (S : im_S) (ρ : Nat) (t : Int32) : im_S := uI (uI (uI S 26 ρ (-1)) 27 ρ t) 22 6 (nI (ρ + 1))
theorem c_addR {S : im_S} {ρ : Nat} (h : S.1 22 6 = nI ρ) (hρ : ρ < 512) (t : Int32) : f_X4_addRegion t S = some (nI ρ, arS S ρ t) := by
  unfold f_X4_addRegion arS
  rw [h, mI_in (a := ρ) (n := 512) (by omega) hρ, nI_clamp (by omega), show nI ρ + 1 = nI (ρ + 1) from nI_add ρ 1, show nI (ρ + 1) - 1 = nI ρ by rw [show (1 : Int32) = nI 1 from rfl, nI_sub (by omega), Nat.add_sub_cancel]]
  rfl
theorem at_ne {S : im_S} {τ : Nat} {d : Int32} {a j : Nat} (h : (a ≠ 28 ∨ j ≠ τ) ∧ (a ≠ 29 ∨ j ≠ τ) ∧ (a ≠ 22 ∨ j ≠ 9)) : (atS S τ d).1 a j = S.1 a j := by
  unfold atS
  rw [uI_ne (by omega), uI_ne (by omega), uI_ne (by omega)]
theorem at_f (S : im_S) (τ : Nat) (d : Int32) : (atS S τ d).1 28 τ = 0 ∧ (atS S τ d).1 29 τ = d ∧ (atS S τ d).1 22 9 = nI (τ + 1) := by
  unfold atS
  refine ⟨?_, ?_, uI_eq⟩
  · rw [uI_ne (by omega), uI_ne (by omega), uI_eq]
  · rw [uI_ne (by omega), uI_eq]
theorem rg_ne {S : im_S} {ρ : Nat} {t : Int32} {a j : Nat} (h : (a ≠ 26 ∨ j ≠ ρ) ∧ (a ≠ 27 ∨ j ≠ ρ) ∧ (a ≠ 22 ∨ j ≠ 6)) : (arS S ρ t).1 a j = S.1 a j := by
  unfold arS
  rw [uI_ne (by omega), uI_ne (by omega), uI_ne (by omega)]
theorem rg_f (S : im_S) (ρ : Nat) (t : Int32) : (arS S ρ t).1 26 ρ = -1 ∧ (arS S ρ t).1 27 ρ = t ∧ (arS S ρ t).1 22 6 = nI (ρ + 1) := by
  unfold arS
  refine ⟨?_, ?_, uI_eq⟩
  · rw [uI_ne (by omega), uI_ne (by omega), uI_eq]
  · rw [uI_ne (by omega), uI_eq]
