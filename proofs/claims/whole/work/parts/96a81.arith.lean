/-! numbers in the class's run -/
theorem w_div {w : Nat} (h : w < 2 ^ 31) : nI w / 512 = nI (w / 512) := by
  apply Int32.toInt_inj.mp
  rw [Int32.toInt_div, nI_toInt h, nI_toInt (show w / 512 < 2 ^ 31 by omega)]
  have e : (512 : Int32).toInt = ((512 : Nat) : Int) := by decide
  rw [e, ← Int.ofNat_tdiv]
  exact Int.bmod_eq_of_le (by omega) (by omega)
theorem w_mod {w : Nat} (h : w < 2 ^ 31) : nI w - nI w / 512 * 512 = nI (w % 512) := by
  rw [w_div h, show nI (w / 512) * 512 = nI (w / 512 * 512) from nI_mul _ 512, nI_sub (by omega)]
  congr 1
  omega
/-- who is awake: the frame and the node -/
theorem w_dm {f k : Nat} (hf : f < 32768) (hk : k < 512) : nI (f * 512 + k) / 512 = nI f ∧ nI (f * 512 + k) - nI (f * 512 + k) / 512 * 512 = nI k := by
  refine ⟨?_, ?_⟩
  · rw [w_div (by omega)]
    congr 1
    omega
  · rw [w_mod (by omega)]
    congr 1
    omega
/-- a table's word -/
theorem tb_w {f n : Nat} (hf : f < 2 ^ 24) (hn : n < 32) : ((nI f).toInt64 <<< ((5 : Int32).toInt64 &&& 63)) ||| (nI n).toInt64 = Int64.ofNat (f * 32 + n) := by
  have e1 : ((5 : Int32).toInt64 &&& 63) = (5 : Int64) := by decide
  have e2 : (nI n).toInt64 = Int64.ofNat n := nI_l (by omega)
  have e3 : (nI f).toInt64 = Int64.ofNat f := nI_l (by omega)
  rw [e1, e2, e3]
  apply Int64.toBitVec_inj.mp
  rw [Int64.toBitVec_or, Int64.toBitVec_shiftLeft]
  apply BitVec.eq_of_toNat_eq
  have t1 : (Int64.ofNat f).toBitVec = BitVec.ofNat 64 f := rfl
  have t2 : (Int64.ofNat n).toBitVec = BitVec.ofNat 64 n := rfl
  have t3 : (Int64.ofNat (f * 32 + n)).toBitVec = BitVec.ofNat 64 (f * 32 + n) := rfl
  have t4 : ((5 : Int64).toBitVec.smod 64).toNat = 5 := by decide
  rw [t1, t2, t3]
  have h2 : n < 2 ^ 5 := by omega
  have key : f <<< 5 ||| n = f * 32 + n := by
    rw [← Nat.shiftLeft_add_eq_or_of_lt h2, Nat.shiftLeft_eq]
  have s8 : ((BitVec.ofNat 64 f) <<< ((5 : Int64).toBitVec.smod 64)) = (BitVec.ofNat 64 f) <<< 5 := by
    rw [BitVec.shiftLeft_eq', t4]
  rw [s8, BitVec.toNat_or, BitVec.toNat_shiftLeft, BitVec.toNat_ofNat, BitVec.toNat_ofNat, BitVec.toNat_ofNat]
  have m1 : f % 2 ^ 64 = f := Nat.mod_eq_of_lt (by omega)
  have m2 : n % 2 ^ 64 = n := Nat.mod_eq_of_lt (by omega)
  have m3 : (f * 32 + n) % 2 ^ 64 = f * 32 + n := Nat.mod_eq_of_lt (by omega)
  have m4 : f <<< 5 % 2 ^ 64 = f <<< 5 := Nat.mod_eq_of_lt (by rw [Nat.shiftLeft_eq]; omega)
  rw [m1, m2, m3, m4, key]
theorem tb_f {f n : Nat} (hf : f < 2 ^ 24) (hn : n < 32) : ((Int64.ofNat (f * 32 + n)) >>> ((5 : Int32).toInt64 &&& 63)).toInt32 = nI f := by
  have e1 : ((5 : Int32).toInt64 &&& 63) = (5 : Int64) := by decide
  rw [e1]
  have h0 : (Int64.ofNat (f * 32 + n)) >>> (5 : Int64) = Int64.ofNat f := by
    apply Int64.toInt_inj.mp
    rw [oN_int (show f < 256 ^ 6 by omega)]
    have h1 : ((Int64.ofNat (f * 32 + n)) >>> (5 : Int64)).toBitVec = (Int64.ofNat (f * 32 + n)).toBitVec.sshiftRight 5 := by
      rw [Int64.toBitVec_shiftRight]
      have t4 : ((5 : Int64).toBitVec.smod 64).toNat = 5 := by decide
      rw [BitVec.sshiftRight_eq', t4]
    show ((Int64.ofNat (f * 32 + n)) >>> (5 : Int64)).toBitVec.toInt = _
    rw [h1, BitVec.toInt_sshiftRight]
    have h2 : (Int64.ofNat (f * 32 + n)).toBitVec.toInt = ((f * 32 + n : Nat) : Int) := oN_int (show f * 32 + n < 256 ^ 6 by omega)
    rw [h2, Int.shiftRight_eq_div_pow]
    have h3 : (f * 32 + n) / 2 ^ 5 = f := by omega
    norm_cast
  rw [h0, show Int64.ofNat f = (nI f).toInt64 from (nI_l (show f < 2 ^ 31 by omega)).symm]
  simp
theorem tb_n {f n : Nat} (hf : f < 2 ^ 24) (hn : n < 32) : (Int64.ofNat (f * 32 + n)).toInt32 &&& 31 = nI n := by
  have h0 : (Int64.ofNat (f * 32 + n)).toInt32 = nI (f * 32 + n) := by
    rw [show Int64.ofNat (f * 32 + n) = (nI (f * 32 + n)).toInt64 from (nI_l (show f * 32 + n < 2 ^ 31 by omega)).symm]
    simp
  rw [h0]
  apply Int32.toBitVec_inj.mp
  rw [Int32.toBitVec_and]
  apply BitVec.eq_of_toNat_eq
  have t1 : (nI (f * 32 + n)).toBitVec = BitVec.ofNat 32 (f * 32 + n) := rfl
  have t2 : (nI n).toBitVec = BitVec.ofNat 32 n := rfl
  have t3 : (31 : Int32).toBitVec = BitVec.ofNat 32 31 := rfl
  rw [t1, t2, t3, BitVec.toNat_and, BitVec.toNat_ofNat, BitVec.toNat_ofNat, BitVec.toNat_ofNat]
  have m1 : (f * 32 + n) % 2 ^ 32 = f * 32 + n := Nat.mod_eq_of_lt (by omega)
  have m2 : n % 2 ^ 32 = n := Nat.mod_eq_of_lt (by omega)
  have m3 : 31 % 2 ^ 32 = 2 ^ 5 - 1 := rfl
  rw [m1, m2, m3, Nat.and_two_pow_sub_one_eq_mod]
  omega
theorem l_dm1 (v : Int64) : v / (-1) = -v := by
  apply Int64.toInt_inj.mp
  have e : (-1 : Int64).toInt = -1 := by decide
  rw [Int64.toInt_div, e, Int64.toInt_neg, Int.tdiv_neg, Int.tdiv_one]
theorem l_mm1 (v : Int64) : v - v / (-1) * (-1) = 0 := by
  rw [l_dm1]
  have e : -v * (-1) = v := by
    apply Int64.toInt_inj.mp
    have e1 : (-1 : Int64).toInt = -1 := by decide
    rw [Int64.toInt_mul, e1, Int64.toInt_neg, Int.bmod_mul_bmod, show -v.toInt * -1 = v.toInt by omega]
    exact Int64.toInt_bmod v
  rw [e, Int64.sub_self]
/-- the class's operators -/
theorem k_calc {c : Nat} {v w : Int64} {S : im_S} (hc : 1 ≤ stg c) (hw : c = 37 ∨ c = 47 → w ≠ 0) : f_X5_calculate (nI c) v w S = some ((opV c v w).2.1, S) := by
  have z0 : ∀ {v w : Int64}, (lg_cmp v w : Int32) ≠ 0 ↔ v ≠ w := fun {v w} => not_congr (lg_cmp_eq v w)
  have hnz : w ≠ 0 → nz_J w = true := fun q => by
    unfold nz_J
    simp [q]
  unfold f_X5_calculate opV
  rcases stg_c hc with hc' | hc' | hc' | hc' | hc' | hc' | hc' | hc' | hc'
  · have q := hw (.inl hc')
    subst hc'
    rw [if_neg (by decide), if_neg (by decide), if_neg (by decide), if_neg (by decide), if_neg (by decide), if_neg (by decide), if_neg (by decide), if_neg (by decide), if_pos (z0.mpr q), hnz q, gd_t, if_neg (by decide), if_neg (by decide), if_neg (by decide), if_neg (by decide), if_neg (by decide), if_neg (by decide), if_neg (by decide), if_neg q]
    by_cases q2 : w = -1
    · rw [if_pos q2, if_neg (by decide), q2, l_mm1]; rfl
    · rw [if_neg q2, if_neg (by decide)]; rfl
  · subst hc'
    rw [if_pos (by decide), if_pos (by decide)]; rfl
  · subst hc'
    rw [if_neg (by decide), if_pos (by decide), if_neg (by decide), if_pos (by decide)]; rfl
  · subst hc'
    rw [if_neg (by decide), if_neg (by decide), if_pos (by decide), if_neg (by decide), if_neg (by decide), if_pos (by decide)]; rfl
  · subst hc'
    rw [if_neg (by decide), if_neg (by decide), if_neg (by decide), if_pos (by decide), if_neg (by decide), if_neg (by decide), if_neg (by decide), if_pos (by decide)]; rfl
  · have q := hw (.inr hc')
    subst hc'
    rw [if_neg (by decide), if_neg (by decide), if_neg (by decide), if_neg (by decide), if_pos (by decide), if_pos (z0.mpr q), hnz q, gd_t, if_neg (by decide), if_neg (by decide), if_neg (by decide), if_neg (by decide), if_neg (by decide), if_neg (by decide), if_neg (by decide), if_neg q]
    by_cases q2 : w = -1
    · rw [if_pos q2, if_pos rfl, q2, l_dm1]; rfl
    · rw [if_neg q2, if_pos rfl]; rfl
  · subst hc'
    rw [if_neg (by decide), if_neg (by decide), if_neg (by decide), if_neg (by decide), if_neg (by decide), if_pos (by decide)]
    show _ = some ((if (0 : Int32) ≤ lg_cmp v w then 0 else 1), S)
    by_cases q : (0 : Int32) ≤ lg_cmp v w
    · rw [if_pos q, if_pos q]
    · rw [if_neg q, if_neg q]
  · subst hc'
    rw [if_neg (by decide), if_neg (by decide), if_neg (by decide), if_neg (by decide), if_neg (by decide), if_neg (by decide), if_pos (by decide)]
    show _ = some ((if (lg_cmp v w : Int32) ≠ 0 then 0 else 1), S)
    by_cases q : (lg_cmp v w : Int32) ≠ 0
    · rw [if_pos q, if_pos q]
    · rw [if_neg q, if_neg q]
  · subst hc'
    rw [if_neg (by decide), if_neg (by decide), if_neg (by decide), if_neg (by decide), if_neg (by decide), if_neg (by decide), if_neg (by decide), if_pos (by decide), if_neg (by decide), if_neg (by decide), if_neg (by decide), if_neg (by decide), if_neg (by decide), if_neg (by decide), if_pos (by decide)]; rfl
/-- which event happens -/
theorem k_fm {x : Int64} {n : Nat} {S : im_S} (h0 : 0 < n) (hn : n < 2 ^ 20) : ∃ k, k < n ∧ f_J9_floorMod_f86c9 x (nI n).toInt64 S = some (Int64.ofNat k, S) := by
  have e2 : (nI n).toInt64 = Int64.ofNat n := nI_l (by omega)
  rw [e2]
  have hN : (Int64.ofNat n).toInt = (n : Int) := oN_int (show n < 256 ^ 6 by omega)
  obtain ⟨d, hd⟩ : ∃ d, d = Int64.ofNat n := ⟨_, rfl⟩
  rw [← hd] at hN ⊢
  have hd0 : d ≠ 0 := fun q => by
    rw [q] at hN
    have : (0 : Int64).toInt = 0 := by decide
    omega
  have hnz : nz_J d = true := by
    unfold nz_J
    simp [hd0]
  obtain ⟨r, hr⟩ : ∃ r, r = x - x / d * d := ⟨_, rfl⟩
  have tl := Int.tmod_lt_of_pos x.toInt (show (0 : Int) < n by omega)
  have tg : -(n : Int) < x.toInt.tmod n := by
    have := Int.tmod_lt_of_pos (-x.toInt) (show (0 : Int) < n by omega)
    rw [Int.neg_tmod] at this
    omega
  have hR : r.toInt = x.toInt.tmod n := by
    rw [hr, Int64.toInt_sub, Int64.toInt_mul, Int64.toInt_div, hN, Int.bmod_mul_bmod, Int.sub_bmod_bmod]
    have e3 : x.toInt - x.toInt.tdiv n * n = x.toInt.tmod n := by
      rw [Int.tmod_def, Int.mul_comm]
    rw [e3]
    exact Int.bmod_eq_of_le (by omega) (by omega)
  have fin : ∀ (u : Int64), 0 ≤ u.toInt → u.toInt < n → ∃ k, k < n ∧ u = Int64.ofNat k := fun u q1 q2 => by
    refine ⟨u.toInt.toNat, by omega, ?_⟩
    apply Int64.toInt_inj.mp
    rw [oN_int (show u.toInt.toNat < 256 ^ 6 by omega)]
    omega
  have hx : (x ^^^ d).toInt < 0 ↔ x.toInt < 0 := by
    have a1 : (x ^^^ d).toBitVec.msb = (x.toBitVec.msb ^^ d.toBitVec.msb) := by
      rw [Int64.toBitVec_xor, BitVec.msb_xor]
    rw [BitVec.msb_eq_toInt, BitVec.msb_eq_toInt, BitVec.msb_eq_toInt] at a1
    have a2 : d.toBitVec.toInt = (n : Int) := hN
    rw [a2, show decide ((n : Int) < 0) = false from decide_eq_false (by omega), Bool.xor_false] at a1
    have a3 : decide ((x ^^^ d).toInt < 0) = decide (x.toInt < 0) := a1
    exact decide_eq_decide.mp a3
  have z64 : (0 : Int64).toInt = 0 := by decide
  unfold f_J9_floorMod_f86c9
  rw [hnz, gd_t, ← hr]
  by_cases c1 : (0 : Int32) ≤ lg_cmp (x ^^^ d) 0
  · rw [if_pos c1]
    have c1' : ¬ (x ^^^ d).toInt < 0 := by
      rw [lg_cmp_ge, Int64.le_iff_toInt_le] at c1
      omega
    have hx0 : 0 ≤ x.toInt := by
      have := fun q => c1' (hx.mpr q)
      omega
    have := Int.tmod_nonneg (n : Int) hx0
    obtain ⟨k, k1, k2⟩ := fin r (by omega) (by omega)
    exact ⟨k, k1, by rw [k2]⟩
  · rw [if_neg c1]
    by_cases c2 : (lg_cmp r 0 : Int32) = 0
    · rw [if_pos c2]
      have c2' := (lg_cmp_eq r 0).mp c2
      exact ⟨0, h0, by rw [c2']; rfl⟩
    · rw [if_neg c2]
      have c2' : r.toInt ≠ 0 := fun q => c2 ((lg_cmp_eq r 0).mpr (Int64.toInt_inj.mp (by rw [q, z64])))
      have hx0 : x.toInt < 0 := by
        refine hx.mp ?_
        rw [lg_cmp_ge, Int64.le_iff_toInt_le] at c1
        omega
      have hr0 : r.toInt ≤ 0 := by
        have := Int.tmod_nonneg (n : Int) (show 0 ≤ -x.toInt by omega)
        rw [Int.neg_tmod] at this
        omega
      have hs : (r + d).toInt = r.toInt + n := by
        rw [Int64.toInt_add, hN]
        exact Int.bmod_eq_of_le (by omega) (by omega)
      obtain ⟨k, k1, k2⟩ := fin (r + d) (by omega) (by omega)
      exact ⟨k, k1, by rw [k2]⟩
