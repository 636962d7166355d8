/-! type: class and reference over one text (mathematics) -/
theorem by_m8 (b : BitVec 64) (n : Nat) (hn : n + 8 ≤ 64) : BitVec.signExtend 32 (b >>> n) &&& 255#32 = BitVec.signExtend 32 (b.sshiftRight n &&& 255#64) := by
  ext i hi
  have h255b : ∀ j (h : j < 32), (255#32)[j] = decide (j < 8) := by decide
  have h255 : ∀ j (h : j < 64), (255#64)[j] = decide (j < 8) := by decide
  have h64 : i < 64 := by omega
  simp only [BitVec.getElem_and, BitVec.getElem_signExtend, h64, dite_true, h255b, h255, BitVec.getElem_sshiftRight, BitVec.getElem_ushiftRight]
  rcases Nat.lt_or_ge i 8 with q | q
  · rw [dif_pos (show n + i < 64 by omega)]
    simp [BitVec.getLsbD_eq_getElem (show n + i < 64 by omega)]
  · simp [show ¬ i < 8 by omega]
theorem by_eq (x : Int64) (k : Nat) (hk : k < 8) : ((((x.toUInt64 >>> ((8 * Int32.ofNat k).toInt64.toUInt64 &&& Int64.toUInt64 63)).toInt64).toInt32) &&& 255) = (((x >>> ((8 * Int32.ofNat k).toInt64 &&& 63)) &&& 255).toInt32) := by
  have h : k = 0 ∨ k = 1 ∨ k = 2 ∨ k = 3 ∨ k = 4 ∨ k = 5 ∨ k = 6 ∨ k = 7 := by omega
  apply Int32.toBitVec_inj.mp
  rcases h with rfl | rfl | rfl | rfl | rfl | rfl | rfl | rfl
  all_goals
    simp only [Int64.toBitVec_shiftRight, Int64.toBitVec_and, Int32.toBitVec_and, Int64.toBitVec_toInt32, UInt64.toBitVec_toInt64, UInt64.toBitVec_shiftRight]
  · exact by_m8 x.toBitVec 0 (by decide)
  · exact by_m8 x.toBitVec 8 (by decide)
  · exact by_m8 x.toBitVec 16 (by decide)
  · exact by_m8 x.toBitVec 24 (by decide)
  · exact by_m8 x.toBitVec 32 (by decide)
  · exact by_m8 x.toBitVec 40 (by decide)
  · exact by_m8 x.toBitVec 48 (by decide)
  · exact by_m8 x.toBitVec 56 (by decide)
theorem mI_le {a b : Nat} (ha : a < 2 ^ 31) (hb : b < 2 ^ 31) : nI a ≤ nI b ↔ a ≤ b := by
  rw [Int32.le_iff_toInt_le, nI_toInt ha, nI_toInt hb]; omega
theorem mI_lt {a b : Nat} (ha : a < 2 ^ 31) (hb : b < 2 ^ 31) : nI a < nI b ↔ a < b := by
  rw [Int32.lt_iff_toInt_lt, nI_toInt ha, nI_toInt hb]; omega
theorem mI_in {a n : Nat} (ha : a < 2 ^ 31) (h : a < n) : in_b (nI a) n = true := by
  unfold in_b; rw [nI_toInt ha]; exact decide_eq_true (by omega)
theorem mI_pred (m : Nat) : nI (m + 1) - 1 = nI m := by
  rw [← nI_add]; show nI m + 1 - 1 = nI m; exact Int32.add_sub_cancel _ _
theorem mI_of {z : Int32} (h : 0 ≤ z.toInt) : ∃ k : Nat, k < 2 ^ 31 ∧ z = nI k := by
  refine ⟨z.toInt.toNat, ?_, ?_⟩
  · have := z.toInt_lt; omega
  · apply Int32.toInt_inj.mp
    rw [nI_toInt (by have := z.toInt_lt; omega)]; omega
/-- the k-th byte of a word, from below -/
def byt (x : Int64) (k : Nat) : Int32 := (((x.toUInt64 >>> ((8 * nI k).toInt64.toUInt64 &&& Int64.toUInt64 63)).toInt64).toInt32) &&& 255
theorem byt_r (x : Int64) {k : Nat} (hk : k < 8) : (((x >>> ((8 * nI k).toInt64 &&& 63)) &&& 255).toInt32) = byt x k := (by_eq x k hk).symm
theorem byt_c {y : Int32} (h1 : ¬ y < 32) (h2 : y ≤ 126) : vp_nar .byte y.toInt8.toInt32 = y := by
  have e1 : (32 : Int32).toInt = 32 := rfl
  have e2 : (126 : Int32).toInt = 126 := rfl
  rw [Int32.lt_iff_toInt_lt, e1] at h1
  rw [Int32.le_iff_toInt_le, e2] at h2
  have h3 : y.toInt8.toInt = y.toInt := by
    rw [Int32.toInt_toInt8]
    exact Int.bmod_eq_of_le (by omega) (by omega)
  have h4 : y.toInt8.toInt32 = y := Int32.toInt_inj.mp (by rw [Int8.toInt_toInt32, h3])
  show (y.toInt8.toInt32).toInt8.toInt32 = y
  rw [h4, h4]
def okb (x : Int64) (n : Nat) : Nat → Bool
  | 0 => true
  | d + 1 => decide (¬ byt x (n - (d + 1)) < 32) && (decide (byt x (n - (d + 1)) ≤ 126) && okb x n d)
theorem okb_all {x : Int64} {n : Nat} : ∀ {d : Nat}, okb x n d = true → ∀ k, n - d ≤ k → k < n → ¬ byt x k < 32 ∧ byt x k ≤ 126 := by
  intro d
  induction d with
  | zero => intro _ k h1 h2; omega
  | succ d ih =>
    intro h k h1 h2
    simp only [okb, Bool.and_eq_true, decide_eq_true_eq] at h
    by_cases q : k = n - (d + 1)
    · subst q; exact ⟨h.1, h.2.1⟩
    · exact ih h.2.2 k (by omega) h2
theorem ty_chk10 (fu : Nat) (x : Int64) {n : Nat} (hn : n ≤ 8) (S : im_S) : ∀ d nf : Nat, d ≤ n → d < nf → f_X10_type_L28 fu nf x (nI n) (nI (n - d)) S = cond (okb x n d) (f_X10_type_L69 fu fu x (nI n) (nI n - 1) S) (some (0, S)) := by
  intro d
  induction d with
  | zero =>
    intro nf _ h
    obtain ⟨nf, rfl⟩ : ∃ z, nf = z + 1 := ⟨nf - 1, by omega⟩
    rw [f_X10_type_L28, if_pos ((mI_le (by omega) (by omega)).mpr (by omega))]
    rfl
  | succ d ih =>
    intro nf hd h
    obtain ⟨nf, rfl⟩ : ∃ z, nf = z + 1 := ⟨nf - 1, by omega⟩
    rw [f_X10_type_L28, if_neg (fun q => by have := (mI_le (by omega) (by omega)).mp q; omega)]
    show (if byt x (n - (d + 1)) < 32 then _ else (if byt x (n - (d + 1)) ≤ 126 then f_X10_type_L28 fu nf x (nI n) (nI (n - (d + 1)) + nI 1) S else _)) = _
    rw [nI_add, show n - (d + 1) + 1 = n - d by omega, ih nf (by omega) (by omega)]
    by_cases h1 : byt x (n - (d + 1)) < 32
    · rw [if_pos h1]; simp [okb, h1]
    · rw [if_neg h1]
      by_cases h2 : byt x (n - (d + 1)) ≤ 126
      · rw [if_pos h2]; simp [okb, h1, h2]
      · rw [if_neg h2]; simp [okb, h1, h2]
theorem ty_chk11 (fu : Nat) (x : Int64) {n : Nat} (hn : n ≤ 8) (S : im_S) : ∀ d nf : Nat, d ≤ n → d < nf → f_X11_type_L33 fu nf x (nI n) (nI (n - d)) S = cond (okb x n d) (f_X11_type_L80 fu fu x (nI n) (nI n - 1) S) (some (0, S)) := by
  intro d
  induction d with
  | zero =>
    intro nf _ h
    obtain ⟨nf, rfl⟩ : ∃ z, nf = z + 1 := ⟨nf - 1, by omega⟩
    rw [f_X11_type_L33, if_pos ((mI_le (by omega) (by omega)).mpr (by omega))]
    rfl
  | succ d ih =>
    intro nf hd h
    obtain ⟨nf, rfl⟩ : ∃ z, nf = z + 1 := ⟨nf - 1, by omega⟩
    rw [f_X11_type_L33, if_neg (fun q => by have := (mI_le (by omega) (by omega)).mp q; omega)]
    rw [byt_r x (show n - (d + 1) < 8 by omega)]
    show (if byt x (n - (d + 1)) < 32 then _ else (if byt x (n - (d + 1)) ≤ 126 then f_X11_type_L33 fu nf x (nI n) (nI (n - (d + 1)) + nI 1) S else _)) = _
    rw [nI_add, show n - (d + 1) + 1 = n - d by omega, ih nf (by omega) (by omega)]
    by_cases h1 : byt x (n - (d + 1)) < 32
    · rw [if_pos h1]; simp [okb, h1]
    · rw [if_neg h1]
      by_cases h2 : byt x (n - (d + 1)) ≤ 126
      · rw [if_pos h2]; simp [okb, h1, h2]
      · rw [if_neg h2]; simp [okb, h1, h2]
/-- what the class's writing leaves: bytes m-1 .. 0 of x behind what was typed -/
def wr10 (x : Int64) : Nat → im_S → im_S
  | 0, S => S
  | m + 1, S => wr10 x m (uI (uI S 1 ((S.1 0 4).toNatClampNeg) (vp_nar .byte (byt x m).toInt8.toInt32)) 0 4 ((S.1 0 4) + 1))
def wr11 (x : Int64) : Nat → im_S → im_S
  | 0, S => S
  | m + 1, S => wr11 x m (uI (uI S 76 ((S.1 75 2).toNatClampNeg) (byt x m)) 75 2 ((S.1 75 2) + 1))
theorem uI_at (S : im_S) (i k : Nat) (v : Int32) (j h : Nat) : (uI S i k v).1 j h = if j = i then (if h = k then v else S.1 j h) else S.1 j h := by
  by_cases q : j = i
  · subst q; simp [uI, va_up, upd]
  · simp [uI, va_up, q]
theorem uI_2 (S : im_S) (i k : Nat) (v : Int32) : (uI S i k v).2 = S.2 := rfl
theorem ty_wr10 (fu : Nat) (x : Int64) (z3 : Int32) : ∀ (m t nf : Nat) (S : im_S), S.1 0 4 = nI t → t + m ≤ 500 → m < nf → f_X10_type_L69 fu nf x z3 (nI m - 1) S = some (1, wr10 x m S) := by
  intro m
  induction m with
  | zero =>
    intro t nf S _ _ h
    obtain ⟨nf, rfl⟩ : ∃ z, nf = z + 1 := ⟨nf - 1, by omega⟩
    rw [f_X10_type_L69, if_pos (by decide)]
    rfl
  | succ m ih =>
    intro t nf S ht hm h
    obtain ⟨nf, rfl⟩ : ∃ z, nf = z + 1 := ⟨nf - 1, by omega⟩
    rw [f_X10_type_L69, mI_pred, if_neg (fun q => by have := (mI_lt (b := 0) (by omega) (by omega)).mp q; omega)]
    show gd (in_b (S.1 0 4) 500) (f_X10_type_L69 fu nf x z3 (nI m + (-1)) (uI (uI S 1 ((S.1 0 4).toNatClampNeg) (vp_nar .byte (byt x m).toInt8.toInt32)) 0 4 ((S.1 0 4) + 1))) = _
    rw [show in_b (S.1 0 4) 500 = true by rw [ht]; exact mI_in (by omega) (by omega)]
    show f_X10_type_L69 fu nf x z3 (nI m + (-1)) _ = _
    rw [← Int32.sub_eq_add_neg]
    exact ih (t + 1) nf _ (by rw [uI_at, if_pos rfl, if_pos rfl, ht]; exact nI_add t 1) (by omega) (by omega)
theorem ty_wr11 (fu : Nat) (x : Int64) (z3 : Int32) : ∀ (m t nf : Nat) (S : im_S), S.1 75 2 = nI t → t + m ≤ 500 → m ≤ 8 → m < nf → f_X11_type_L80 fu nf x z3 (nI m - 1) S = some (1, wr11 x m S) := by
  intro m
  induction m with
  | zero =>
    intro t nf S _ _ _ h
    obtain ⟨nf, rfl⟩ : ∃ z, nf = z + 1 := ⟨nf - 1, by omega⟩
    rw [f_X11_type_L80, if_pos (by decide)]
    rfl
  | succ m ih =>
    intro t nf S ht hm h8 h
    obtain ⟨nf, rfl⟩ : ∃ z, nf = z + 1 := ⟨nf - 1, by omega⟩
    rw [f_X11_type_L80, mI_pred, if_neg (fun q => by have := (mI_lt (b := 0) (by omega) (by omega)).mp q; omega), byt_r x (show m < 8 by omega)]
    rw [show in_b (S.1 75 2) 500 = true by rw [ht]; exact mI_in (by omega) (by omega)]
    show f_X11_type_L80 fu nf x z3 (nI m + (-1)) _ = _
    rw [← Int32.sub_eq_add_neg]
    exact ih (t + 1) nf _ (by rw [uI_at, if_pos rfl, if_pos rfl, ht]; exact nI_add t 1) (by omega) (by omega) (by omega)
theorem wr10_fr (x : Int64) : ∀ (m : Nat) (S : im_S), (wr10 x m S).2 = S.2 ∧ ∀ i k : Nat, i ≠ 1 → (i ≠ 0 ∨ k ≠ 4) → (wr10 x m S).1 i k = S.1 i k := by
  intro m
  induction m with
  | zero => intro S; exact ⟨rfl, fun _ _ _ _ => rfl⟩
  | succ m ih =>
    intro S
    refine ⟨(ih _).1.trans rfl, fun i k h1 h2 => ((ih _).2 i k h1 h2).trans ?_⟩
    rw [uI_at, uI_at]
    by_cases q : i = 0
    · subst q; rw [if_pos rfl, if_neg (by omega), if_neg (by omega)]
    · rw [if_neg q, if_neg h1]
theorem wr11_fr (x : Int64) : ∀ (m : Nat) (S : im_S), (wr11 x m S).2 = S.2 ∧ ∀ i k : Nat, i ≠ 76 → (i ≠ 75 ∨ k ≠ 2) → (wr11 x m S).1 i k = S.1 i k := by
  intro m
  induction m with
  | zero => intro S; exact ⟨rfl, fun _ _ _ _ => rfl⟩
  | succ m ih =>
    intro S
    refine ⟨(ih _).1.trans rfl, fun i k h1 h2 => ((ih _).2 i k h1 h2).trans ?_⟩
    rw [uI_at, uI_at]
    by_cases q : i = 75
    · subst q; rw [if_pos rfl, if_neg (by omega), if_neg (by omega)]
    · rw [if_neg q, if_neg h1]
theorem wr10_to (x : Int64) : ∀ (m t : Nat) (S : im_S), S.1 0 4 = nI t → t + m < 2 ^ 31 → (∀ k, k < m → ¬ byt x k < 32 ∧ byt x k ≤ 126) → (wr10 x m S).1 0 4 = nI (t + m) ∧ (∀ k, k < t → (wr10 x m S).1 1 k = S.1 1 k) ∧ ∀ j, j < m → (wr10 x m S).1 1 (t + j) = byt x (m - 1 - j) := by
  intro m
  induction m with
  | zero => intro t S h _ _; exact ⟨h, fun _ _ => rfl, fun j h => by omega⟩
  | succ m ih =>
    intro t S h hb hk
    have hc : (S.1 0 4).toNatClampNeg = t := by rw [h]; exact nI_clamp (by omega)
    have hv : vp_nar .byte (byt x m).toInt8.toInt32 = byt x m := byt_c (hk m (by omega)).1 (hk m (by omega)).2
    have ha : (uI (uI S 1 ((S.1 0 4).toNatClampNeg) (vp_nar .byte (byt x m).toInt8.toInt32)) 0 4 ((S.1 0 4) + 1)).1 0 4 = nI (t + 1) := by
      rw [uI_at, if_pos rfl, if_pos rfl, h]; exact nI_add t 1
    obtain ⟨e1, e2, e3⟩ := ih (t + 1) _ ha (by omega) (fun k q => hk k (by omega))
    have hat : ∀ k, (uI (uI S 1 ((S.1 0 4).toNatClampNeg) (vp_nar .byte (byt x m).toInt8.toInt32)) 0 4 ((S.1 0 4) + 1)).1 1 k = if k = t then byt x m else S.1 1 k := by
      intro k; rw [uI_at, if_neg (by decide), uI_at, if_pos rfl, hc, hv]
    refine ⟨by rw [show t + (m + 1) = t + 1 + m by omega]; exact e1, fun k q => ?_, fun j q => ?_⟩
    · refine (e2 k (by omega)).trans ?_
      rw [hat, if_neg (by omega)]
    · cases j with
      | zero =>
        refine (e2 t (by omega)).trans ?_
        rw [hat, if_pos rfl]; rfl
      | succ j =>
        rw [show t + (j + 1) = t + 1 + j by omega, show m + 1 - 1 - (j + 1) = m - 1 - j by omega]
        exact e3 j (by omega)
theorem wr11_to (x : Int64) : ∀ (m t : Nat) (S : im_S), S.1 75 2 = nI t → t + m < 2 ^ 31 → (wr11 x m S).1 75 2 = nI (t + m) ∧ (∀ k, k < t → (wr11 x m S).1 76 k = S.1 76 k) ∧ ∀ j, j < m → (wr11 x m S).1 76 (t + j) = byt x (m - 1 - j) := by
  intro m
  induction m with
  | zero => intro t S h _; exact ⟨h, fun _ _ => rfl, fun j h => by omega⟩
  | succ m ih =>
    intro t S h hb
    have hc : (S.1 75 2).toNatClampNeg = t := by rw [h]; exact nI_clamp (by omega)
    have ha : (uI (uI S 76 ((S.1 75 2).toNatClampNeg) (byt x m)) 75 2 ((S.1 75 2) + 1)).1 75 2 = nI (t + 1) := by
      rw [uI_at, if_pos rfl, if_pos rfl, h]; exact nI_add t 1
    obtain ⟨e1, e2, e3⟩ := ih (t + 1) _ ha (by omega)
    have hat : ∀ k, (uI (uI S 76 ((S.1 75 2).toNatClampNeg) (byt x m)) 75 2 ((S.1 75 2) + 1)).1 76 k = if k = t then byt x m else S.1 76 k := by
      intro k; rw [uI_at, if_neg (by decide), uI_at, if_pos rfl, hc]
    refine ⟨by rw [show t + (m + 1) = t + 1 + m by omega]; exact e1, fun k q => ?_, fun j q => ?_⟩
    · refine (e2 k (by omega)).trans ?_
      rw [hat, if_neg (by omega)]
    · cases j with
      | zero =>
        refine (e2 t (by omega)).trans ?_
        rw [hat, if_pos rfl]; rfl
      | succ j =>
        rw [show t + (j + 1) = t + 1 + j by omega, show m + 1 - 1 - (j + 1) = m - 1 - j by omega]
        exact e3 j (by omega)
/-- class and reference hold the same typed text: t characters, each printable -/
def Ty (S : im_S) : Prop := ∃ t : Nat, t ≤ 500 ∧ S.1 0 4 = nI t ∧ S.1 75 2 = nI t ∧ ∀ k, k < t → S.1 1 k = S.1 76 k ∧ ¬ S.1 76 k < 32 ∧ S.1 76 k ≤ 126
/-- what type may change -/
def Tf (S S' : im_S) : Prop := S'.2 = S.2 ∧ ∀ i k : Nat, i ≠ 1 → i ≠ 76 → (i ≠ 0 ∨ k ≠ 4) → (i ≠ 75 ∨ (k ≠ 0 ∧ k ≠ 2)) → S'.1 i k = S.1 i k
theorem ty_zero {S : im_S} (h : Ty S) : Ty (uI S 75 0 0) ∧ Tf S (uI S 75 0 0) := by
  obtain ⟨t, h1, h2, h3, h4⟩ := h
  refine ⟨⟨t, h1, ?_, ?_, fun k hk => ?_⟩, rfl, fun i k a1 a2 a3 a4 => ?_⟩
  · rw [uI_at, if_neg (by decide)]; exact h2
  · rw [uI_at, if_pos rfl, if_neg (by decide)]; exact h3
  · rw [uI_at, uI_at, if_neg (by decide), if_neg (by decide)]; exact h4 k hk
  · rw [uI_at]
    by_cases q : i = 75
    · rw [if_pos q, if_neg (by omega)]
    · rw [if_neg q]
theorem type_good (fu : Nat) (hfu : 10 ≤ fu) (x : Int64) (n : Int32) {S : im_S} (hT : Ty S) : ∃ (r : Int32) (S1 S2 : im_S), f_X10_type fu x n S = some (r, S1) ∧ f_X11_type fu x n S1 = some (r, S2) ∧ Ty S2 ∧ Tf S S2 := by
  obtain ⟨t, ht, h1, h2, h3⟩ := id hT
  have hz := ty_zero hT
  have hno : f_X10_type fu x n S = some (0, S) → f_X11_type fu x n S = some (0, uI S 75 0 0) → ∃ (r : Int32) (S1 S2 : im_S), f_X10_type fu x n S = some (r, S1) ∧ f_X11_type fu x n S1 = some (r, S2) ∧ Ty S2 ∧ Tf S S2 := fun a b => ⟨0, S, uI S 75 0 0, a, b, hz.1, hz.2⟩
  by_cases b1 : n < 1
  · exact hno (by rw [f_X10_type, if_pos b1]) (by rw [f_X11_type, if_pos b1])
  by_cases b2 : (8 : Int32) < n
  · exact hno (by rw [f_X10_type, if_neg b1, if_pos b2]) (by rw [f_X11_type, if_neg b1, if_pos b2])
  by_cases b3 : nI t + n ≤ 500
  · have e1 : (1 : Int32).toInt = 1 := rfl
    have e8 : (8 : Int32).toInt = 8 := rfl
    rw [Int32.lt_iff_toInt_lt, e1] at b1
    rw [Int32.lt_iff_toInt_lt, e8] at b2
    obtain ⟨m, hm, rfl⟩ := mI_of (z := n) (by omega)
    rw [nI_toInt hm] at b1 b2
    rw [nI_add] at b3
    have hs : t + m ≤ 500 := (mI_le (b := 500) (by omega) (by omega)).mp b3
    have c1 : ¬ nI m < 1 := fun q => by have := (mI_lt (b := 1) (by omega) (by omega)).mp q; omega
    have c2 : ¬ (8 : Int32) < nI m := fun q => by have := (mI_lt (a := 8) (by omega) (by omega)).mp q; omega
    have q10 : f_X10_type fu x (nI m) S = cond (okb x m m) (some (1, wr10 x m S)) (some (0, S)) := by
      rw [f_X10_type, if_neg c1, if_neg c2, h1, nI_add, if_pos b3]
      have := ty_chk10 fu x (n := m) (by omega) S m fu (Nat.le_refl _) (by omega)
      rw [Nat.sub_self] at this
      refine this.trans ?_
      rw [ty_wr10 fu x (nI m) m t fu S h1 hs (by omega)]
    have q11 : ∀ A : im_S, A.1 75 2 = nI t → f_X11_type fu x (nI m) A = cond (okb x m m) (some (1, wr11 x m (uI A 75 0 0))) (some (0, uI A 75 0 0)) := by
      intro A hA
      rw [f_X11_type, if_neg c1, if_neg c2, hA, nI_add, if_pos b3]
      have := ty_chk11 fu x (n := m) (by omega) (uI A 75 0 0) m fu (Nat.le_refl _) (by omega)
      rw [Nat.sub_self] at this
      refine this.trans ?_
      rw [ty_wr11 fu x (nI m) m t fu (uI A 75 0 0) (by rw [uI_at, if_pos rfl, if_neg (by decide)]; exact hA) hs (by omega) (by omega)]
    cases ho : okb x m m with
    | false => exact hno (by rw [q10, ho]; rfl) (by rw [q11 S h2, ho]; rfl)
    | true =>
      have hall : ∀ k, k < m → ¬ byt x k < 32 ∧ byt x k ≤ 126 := fun k hk => okb_all ho k (by omega) hk
      obtain ⟨w1, w2, w3⟩ := wr10_to x m t S h1 (by omega) hall
      have f10 := wr10_fr x m S
      have hB : (uI (wr10 x m S) 75 0 0).1 75 2 = nI t := by rw [uI_at, if_pos rfl, if_neg (by decide), f10.2 75 2 (by decide) (by decide)]; exact h2
      obtain ⟨v1, v2, v3⟩ := wr11_to x m t (uI (wr10 x m S) 75 0 0) hB (by omega)
      have f11 := wr11_fr x m (uI (wr10 x m S) 75 0 0)
      have g1 : ∀ k, (wr11 x m (uI (wr10 x m S) 75 0 0)).1 1 k = (wr10 x m S).1 1 k := fun k => by rw [f11.2 1 k (by decide) (by omega), uI_at, if_neg (by decide)]
      have g76 : ∀ k, (uI (wr10 x m S) 75 0 0).1 76 k = S.1 76 k := fun k => by rw [uI_at, if_neg (by decide)]; exact f10.2 76 k (by decide) (by omega)
      refine ⟨1, wr10 x m S, wr11 x m (uI (wr10 x m S) 75 0 0), by rw [q10, ho]; rfl, by rw [q11 _ (by rw [f10.2 75 2 (by decide) (by decide)]; exact h2), ho]; rfl, ⟨t + m, hs, ?_, v1, fun k hk => ?_⟩, ?_, fun i k a1 a2 a3 a4 => ?_⟩
      · rw [f11.2 0 4 (by decide) (by decide), uI_at, if_neg (by decide)]; exact w1
      · rw [g1]
        rcases Nat.lt_or_ge k t with q | q
        · rw [w2 k q, v2 k q, g76]; exact h3 k q
        · obtain ⟨j, rfl⟩ : ∃ j, k = t + j := ⟨k - t, by omega⟩
          rw [w3 j (by omega), v3 j (by omega)]
          exact ⟨rfl, hall _ (by omega)⟩
      · exact f11.1.trans f10.1
      · rw [f11.2 i k a2 (by omega), uI_at]
        by_cases q : i = 75
        · rw [if_pos q, if_neg (by omega)]; exact f10.2 i k a1 (by omega)
        · rw [if_neg q]; exact f10.2 i k a1 (by omega)
  · exact hno (by rw [f_X10_type, if_neg b1, if_neg b2, h1, if_neg b3]) (by rw [f_X11_type, if_neg b1, if_neg b2, h2, if_neg b3])
