/-! the type that a name's first letter tells, both ways -/
def fl : Nat → Nat → Nat
  | 0, N => N
  | d + 1, N => if N ≤ 255 then N else fl d (N / 256)
def tvN (N : Nat) : Nat := if fl 5 N ≤ 114 then 1 else if fl 5 N ≤ 117 then 2 else 3
def tvV (v : Int64) : Nat := tvN v.toInt.toNat
/-- a name's letters -/
def Nam (v : Int64) : Prop := ∃ N : Nat, v = Int64.ofNat N ∧ 97 ≤ N ∧ N < 256 ^ 6
theorem oN_int {N : Nat} (h : N < 256 ^ 6) : (Int64.ofNat N).toInt = N := Int64.toInt_ofNat_of_lt (Nat.lt_of_lt_of_le h (by decide))
theorem tvV_N {N : Nat} (h : N < 256 ^ 6) : tvV (Int64.ofNat N) = tvN N := by
  unfold tvV
  rw [oN_int h]
  rfl
theorem oN_le {N b : Nat} (h : N < 256 ^ 6) (hb : b < 256 ^ 6) : Int64.ofNat N ≤ Int64.ofNat b ↔ N ≤ b := by
  rw [Int64.le_iff_toInt_le, oN_int h, oN_int hb]
  omega
theorem oN_lt {N b : Nat} (h : N < 256 ^ 6) (hb : b < 256 ^ 6) : Int64.ofNat b < Int64.ofNat N ↔ b < N := by
  rw [Int64.lt_iff_toInt_lt, oN_int h, oN_int hb]
  omega
theorem sr8 {N : Nat} (hN : N < 256 ^ 6) : (Int64.ofNat N) >>> ((8 : Int32).toInt64 &&& 63) = Int64.ofNat (N / 256) := by
  have e1 : ((8 : Int32).toInt64 &&& 63) = (8 : Int64) := by decide
  rw [e1]
  apply Int64.toInt_inj.mp
  rw [oN_int (show N / 256 < 256 ^ 6 by omega)]
  have h1 : ((Int64.ofNat N) >>> (8 : Int64)).toBitVec = (Int64.ofNat N).toBitVec.sshiftRight 8 := by
    rw [Int64.toBitVec_shiftRight]
    have t4 : ((8 : Int64).toBitVec.smod 64).toNat = 8 := by decide
    rw [BitVec.sshiftRight_eq', t4]
  show ((Int64.ofNat N) >>> (8 : Int64)).toBitVec.toInt = _
  rw [h1, BitVec.toInt_sshiftRight]
  have h2 : (Int64.ofNat N).toBitVec.toInt = N := oN_int hN
  rw [h2, Int.shiftRight_eq_div_pow]
  norm_cast
theorem c_tyL (fu : Nat) (z0 : Int64) (S : im_S) : ∀ (d nf i N : Nat), i + d = 6 → d < nf → N < 256 ^ 6 → f_X7_typeOf_L5 fu nf z0 (Int64.ofNat N) (nI i) S = some (nI (if fl d N ≤ 114 then 1 else if fl d N ≤ 117 then 2 else 3), S) := by
  have hend : ∀ N : Nat, N < 256 ^ 6 → (if (0 : Int32) < (lg_cmp (Int64.ofNat N) 114) then (if (0 : Int32) < (lg_cmp (Int64.ofNat N) 117) then (some ((3 : Int32), S)) else (some (2, S))) else (some (1, S))) = some (nI (if N ≤ 114 then 1 else if N ≤ 117 then 2 else 3), S) := by
    intro N hN
    have c1 : (0 : Int32) < (lg_cmp (Int64.ofNat N) 114) ↔ ¬ N ≤ 114 := by
      rw [lg_cmp_gt, show (114 : Int64) = Int64.ofNat 114 from rfl, oN_lt hN (by decide)]
      omega
    have c2 : (0 : Int32) < (lg_cmp (Int64.ofNat N) 117) ↔ ¬ N ≤ 117 := by
      rw [lg_cmp_gt, show (117 : Int64) = Int64.ofNat 117 from rfl, oN_lt hN (by decide)]
      omega
    by_cases h1 : N ≤ 114
    · rw [if_neg (fun z => (c1.mp z) h1), if_pos h1]; rfl
    · rw [if_pos (c1.mpr h1), if_neg h1]
      by_cases h2 : N ≤ 117
      · rw [if_neg (fun z => (c2.mp z) h2), if_pos h2]; rfl
      · rw [if_pos (c2.mpr h2), if_neg h2]; rfl
  intro d
  induction d with
  | zero =>
    intro nf i N hi hnf hN
    obtain ⟨nf, rfl⟩ : ∃ z, nf = z + 1 := ⟨nf - 1, by omega⟩
    rw [f_X7_typeOf_L5, if_pos (show (6 : Int32) ≤ nI i by rw [show i = 6 by omega]; decide)]
    exact hend N hN
  | succ d ih =>
    intro nf i N hi hnf hN
    obtain ⟨nf, rfl⟩ : ∃ z, nf = z + 1 := ⟨nf - 1, by omega⟩
    rw [f_X7_typeOf_L5, if_neg (show ¬ (6 : Int32) ≤ nI i from fun z => by have := (mI_le (a := 6) (b := i) (by omega) (by omega)).mp z; omega)]
    have c1 : (lg_cmp (Int64.ofNat N) 255 : Int32) ≤ 0 ↔ N ≤ 255 := by
      rw [lg_cmp_le, show (255 : Int64) = Int64.ofNat 255 from rfl, oN_le hN (by decide)]
    unfold fl
    by_cases h1 : N ≤ 255
    · rw [if_pos (c1.mpr h1), if_pos h1]
      exact hend N hN
    · rw [if_neg (fun z => h1 (c1.mp z)), if_neg h1, sr8 hN, show nI i + 1 = nI (i + 1) from nI_add i 1]
      exact ih nf (i + 1) (N / 256) (by omega) (by omega) (by omega)
theorem c_ty {fu : Nat} (hfu : 7 ≤ fu) {v : Int64} (h : Nam v) (S : im_S) : f_X7_typeOf fu v S = some (nI (tvV v), S) := by
  obtain ⟨N, rfl, h1, h2⟩ := h
  rw [tvV_N h2]
  exact c_tyL fu _ S 5 fu 1 N (by omega) (by omega) h2
theorem fl_le : ∀ (d N : Nat), N < 256 ^ (d + 1) → fl d N ≤ 255 := by
  intro d
  induction d with
  | zero => intro N h; unfold fl; omega
  | succ d ih =>
    intro N h
    unfold fl
    by_cases h1 : N ≤ 255
    · rw [if_pos h1]; exact h1
    · rw [if_neg h1]
      exact ih (N / 256) (Nat.div_lt_of_lt_mul (by rw [Nat.mul_comm, ← Nat.pow_succ]; exact h))
theorem l_i : ∀ N : Nat, N < 256 → (Int64.ofNat N).toInt32 = nI N := by decide +kernel
theorem r_flL (fu : Nat) (z0 : Int64) (S : im_S) : ∀ (d nf N : Nat), d < nf → N < 256 ^ (d + 1) → d ≤ 5 → f_X11_firstLetter_L2 fu nf z0 (Int64.ofNat N) S = some (nI (fl d N), S) := by
  intro d
  induction d with
  | zero =>
    intro nf N hnf hN _
    obtain ⟨nf, rfl⟩ : ∃ z, nf = z + 1 := ⟨nf - 1, by omega⟩
    have c1 : (lg_cmp (Int64.ofNat N) 255 : Int32) ≤ 0 := by
      rw [lg_cmp_le, show (255 : Int64) = Int64.ofNat 255 from rfl, oN_le (Nat.lt_of_lt_of_le hN (by decide)) (by decide)]
      omega
    rw [f_X11_firstLetter_L2, if_pos c1, l_i N (by omega)]
    rfl
  | succ d ih =>
    intro nf N hnf hN hd
    obtain ⟨nf, rfl⟩ : ∃ z, nf = z + 1 := ⟨nf - 1, by omega⟩
    have hN6 : N < 256 ^ 6 := Nat.lt_of_lt_of_le hN (Nat.pow_le_pow_right (by decide) (by omega))
    have c1 : (lg_cmp (Int64.ofNat N) 255 : Int32) ≤ 0 ↔ N ≤ 255 := by
      rw [lg_cmp_le, show (255 : Int64) = Int64.ofNat 255 from rfl, oN_le hN6 (by decide)]
    rw [f_X11_firstLetter_L2]
    unfold fl
    by_cases h1 : N ≤ 255
    · rw [if_pos (c1.mpr h1), if_pos h1, l_i N (by omega)]
    · rw [if_neg (fun z => h1 (c1.mp z)), if_neg h1, sr8 hN6]
      exact ih nf (N / 256) (by omega) (Nat.div_lt_of_lt_mul (by rw [Nat.mul_comm, ← Nat.pow_succ]; exact hN)) (by omega)
theorem r_ty {fu : Nat} (hfu : 7 ≤ fu) {v : Int64} (h : Nam v) (S : im_S) : f_X11_typeOf fu v S = some (nI (tvV v), S) := by
  obtain ⟨N, rfl, h1, h2⟩ := h
  rw [tvV_N h2]
  unfold f_X11_typeOf f_X11_firstLetter
  rw [r_flL fu _ S 5 fu N (by omega) h2 (by omega)]
  have hl := fl_le 5 N h2
  unfold tvN
  have c1 : (115 : Int32) ≤ nI (fl 5 N) ↔ 115 ≤ fl 5 N := mI_le (a := 115) (b := fl 5 N) (by omega) (by omega)
  have c2 : (118 : Int32) ≤ nI (fl 5 N) ↔ 118 ≤ fl 5 N := mI_le (a := 118) (b := fl 5 N) (by omega) (by omega)
  simp only [Option.bind_some]
  by_cases a1 : fl 5 N ≤ 114
  · rw [if_neg (fun z => by have := c1.mp z; omega), if_pos a1]; rfl
  · rw [if_pos (c1.mpr (by omega)), if_neg a1]
    by_cases a2 : fl 5 N ≤ 117
    · rw [if_neg (fun z => by have := c2.mp z; omega), if_pos a2]; rfl
    · rw [if_pos (c2.mpr (by omega)), if_neg a2]; rfl
theorem tvV_r (v : Int64) : 1 ≤ tvV v ∧ tvV v ≤ 3 := by
  unfold tvV tvN
  repeat' split
  all_goals omega
