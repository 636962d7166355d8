/-! letters as the reference reads them; a token's two forms -/
def lkK (n : Nat) (x : Int64) : Int32 := if n ≤ 5 then (if woR 13 0 x = 0 then 1 else 4) else if n ≤ 6 then 1 else 9
def lkC (n : Nat) (x : Int64) : Int32 := if n ≤ 5 then nI (woR 13 0 x) else 0
theorem rk_endL {S : im_S} {j e f : Nat} (hj : j < 502) (h : S.1 75 5 = nI j) (hf : f ≤ e) (he : e ≤ 500) (z4 : Int64) :
    (if (nI e - nI f : Int32) ≤ 5 then ((f_X11_wordOf z4 S).bind (fun qS20 => if (qS20.1 : Int32) ≤ 0 then (if (nI e - nI f : Int32) ≤ 6 then ((f_X11_token 1 qS20.1 (nI f) z4 qS20.2).bind (fun qS25 => some (nI e, qS25.2))) else ((f_X11_token 9 qS20.1 (nI f) z4 qS20.2).bind (fun qS28 => some (nI e, qS28.2)))) else ((f_X11_token 4 qS20.1 (nI f) z4 qS20.2).bind (fun qS31 => some (nI e, qS31.2))))) else (if (nI e - nI f : Int32) ≤ 6 then ((f_X11_token 1 0 (nI f) z4 S).bind (fun qS36 => some (nI e, qS36.2))) else ((f_X11_token 9 0 (nI f) z4 S).bind (fun qS39 => some (nI e, qS39.2))))) = some (nI e, rk_put S j (lkK (e - f) z4) (lkC (e - f) z4) (nI f) z4) := by
  have c5 : ((nI (e - f) : Int32) ≤ 5) ↔ e - f ≤ 5 := mI_le (a := e - f) (b := 5) (by omega) (by omega)
  have c6 : ((nI (e - f) : Int32) ≤ 6) ↔ e - f ≤ 6 := mI_le (a := e - f) (b := 6) (by omega) (by omega)
  rw [nI_sub hf]
  unfold lkK lkC
  by_cases h5 : e - f ≤ 5
  · rw [if_pos (c5.mpr h5), if_pos h5, if_pos h5, wo_val]
    show (if (nI (woR 13 0 z4) : Int32) ≤ 0 then (if (nI (e - f) : Int32) ≤ 6 then ((f_X11_token 1 (nI (woR 13 0 z4)) (nI f) z4 S).bind (fun qS25 => some (nI e, qS25.2))) else _) else ((f_X11_token 4 (nI (woR 13 0 z4)) (nI f) z4 S).bind (fun qS31 => some (nI e, qS31.2)))) = _
    have hw : woR 13 0 z4 ≤ 13 := by
      rcases wo_nw z4 13 0 (by omega) with q | q
      · omega
      · exact q.2.1
    have c0 : ((nI (woR 13 0 z4) : Int32) ≤ 0) ↔ woR 13 0 z4 ≤ 0 := mI_le (a := woR 13 0 z4) (b := 0) (by omega) (by omega)
    by_cases h0 : woR 13 0 z4 = 0
    · rw [if_pos (c0.mpr (by omega)), if_pos h0, if_pos (c6.mpr (by omega)), rk_add hj h]
      rfl
    · rw [if_neg (fun q => h0 (by have := c0.mp q; omega)), if_neg h0, rk_add hj h]
      rfl
  · rw [if_neg (fun q => h5 (c5.mp q)), if_neg h5, if_neg h5]
    by_cases h6 : e - f ≤ 6
    · rw [if_pos (c6.mpr h6), if_pos h6, rk_add hj h]
      rfl
    · rw [if_neg (fun q => h6 (c6.mp q)), if_neg h6, rk_add hj h]
      rfl
theorem rk_letS (fu : Nat) {S : im_S} {j L f : Nat} {t : Nat → Nat} (hj : j < 502) (h : S.1 75 5 = nI j) (hL : L ≤ 500) (hS : S.1 75 2 = nI L) (ht : ∀ i, i < L → t i < 127 ∧ S.1 76 i = nI (t i)) (z2 : Int32) : ∀ (d nf i : Nat) (z4 : Int64), i + d = L → d < nf → f ≤ i → f_X11_oneToken_L108 fu nf (nI f) z2 (nI i) z4 S = some (nI (ltQ t f d i z4).1, rk_put S j (lkK ((ltQ t f d i z4).1 - f) (ltQ t f d i z4).2) (lkC ((ltQ t f d i z4).1 - f) (ltQ t f d i z4).2) (nI f) (ltQ t f d i z4).2) := by
  intro d
  induction d with
  | zero =>
    intro nf i z4 hi hn hf
    obtain ⟨nf, rfl⟩ : ∃ z, nf = z + 1 := ⟨nf - 1, by omega⟩
    rw [f_X11_oneToken_L108]
    simp only [ch_v hL hS ht (show i ≤ L by omega), if_neg (show ¬ i < L by omega), Option.bind_some, lt0, dg0]
    exact rk_endL hj h hf (by omega) z4
  | succ d ih =>
    intro nf i z4 hi hn hf
    obtain ⟨nf, rfl⟩ : ∃ z, nf = z + 1 := ⟨nf - 1, by omega⟩
    obtain ⟨ht1, ht2⟩ := ht i (by omega)
    have c7 : ((7 : Int32) ≤ nI (i - f)) ↔ 7 ≤ i - f := mI_le (a := 7) (b := i - f) (by omega) (by omega)
    have go : (if (7 : Int32) ≤ (nI i - nI f) then (f_X11_oneToken_L108 fu nf (nI f) z2 (nI i + nI 1) z4 S) else ((f_X11_character (nI i) S).bind (fun qS9 => f_X11_oneToken_L108 fu nf (nI f) z2 (nI i + nI 1) ((z4 <<< ((8 : Int32).toInt64 &&& 63)) ||| qS9.1.toInt64) qS9.2))) = some (nI (ltQ t f d (i + 1) (if i - f < 7 then (z4 <<< ((8 : Int32).toInt64 &&& 63)) ||| (nI (t i)).toInt64 else z4)).1, rk_put S j (lkK ((ltQ t f d (i + 1) (if i - f < 7 then (z4 <<< ((8 : Int32).toInt64 &&& 63)) ||| (nI (t i)).toInt64 else z4)).1 - f) (ltQ t f d (i + 1) (if i - f < 7 then (z4 <<< ((8 : Int32).toInt64 &&& 63)) ||| (nI (t i)).toInt64 else z4)).2) (lkC ((ltQ t f d (i + 1) (if i - f < 7 then (z4 <<< ((8 : Int32).toInt64 &&& 63)) ||| (nI (t i)).toInt64 else z4)).1 - f) (ltQ t f d (i + 1) (if i - f < 7 then (z4 <<< ((8 : Int32).toInt64 &&& 63)) ||| (nI (t i)).toInt64 else z4)).2) (nI f) (ltQ t f d (i + 1) (if i - f < 7 then (z4 <<< ((8 : Int32).toInt64 &&& 63)) ||| (nI (t i)).toInt64 else z4)).2) := by
      rw [nI_sub hf, nI_add]
      by_cases hc : i - f < 7
      · rw [if_neg (fun q => by have := c7.mp q; omega), if_pos hc, ch_v hL hS ht (by omega), if_pos (by omega)]
        exact ih nf (i + 1) _ (by omega) (by omega) (by omega)
      · rw [if_pos (c7.mpr (by omega)), if_neg hc]
        exact ih nf (i + 1) _ (by omega) (by omega) (by omega)
    rw [f_X11_oneToken_L108, ch_v hL hS ht (by omega), if_pos (by omega)]
    show (f_X11_isSmall (nI (t i)) S).bind _ = _
    rw [lt11_v ht1]
    generalize hr : (cond (dA (t i)) (1 : Int32) 0) = r
    unfold ltQ
    cases ha : dA (t i) with
    | true =>
      rw [ha] at hr
      show (if (r : Int32) ≠ 0 then (if (7 : Int32) ≤ (nI i - nI f) then (f_X11_oneToken_L108 fu nf (nI f) z2 (nI i + nI 1) z4 S) else ((f_X11_character (nI i) S).bind (fun qS9 => f_X11_oneToken_L108 fu nf (nI f) z2 (nI i + nI 1) ((z4 <<< ((8 : Int32).toInt64 &&& 63)) ||| qS9.1.toInt64) qS9.2))) else _) = _
      rw [if_pos (by rw [← hr]; decide)]
      exact go
    | false =>
      rw [ha] at hr
      show (if (r : Int32) ≠ 0 then _ else ((f_X11_character (nI i) S).bind _)) = _
      rw [if_neg (by rw [← hr]; decide), ch_v hL hS ht (by omega), if_pos (by omega)]
      show (f_X11_isDigit (nI (t i)) S).bind _ = _
      rw [dg11_v ht1]
      generalize hr2 : (cond (dD (t i)) (1 : Int32) 0) = r2
      cases hd : dD (t i) with
      | false =>
        rw [hd] at hr2
        subst hr2
        exact rk_endL hj h hf (by omega) z4
      | true =>
        rw [hd] at hr2
        show (if (r2 : Int32) = 0 then _ else (if (7 : Int32) ≤ (nI i - nI f) then (f_X11_oneToken_L108 fu nf (nI f) z2 (nI i + nI 1) z4 S) else ((f_X11_character (nI i) S).bind (fun qS9 => f_X11_oneToken_L108 fu nf (nI f) z2 (nI i + nI 1) ((z4 <<< ((8 : Int32).toInt64 &&& 63)) ||| qS9.1.toInt64) qS9.2)))) = _
        rw [if_neg (by rw [← hr2]; decide)]
        exact go
/-! six letters are no word -/
theorem sh8 {N c : Nat} (hN : N < 2 ^ 48) (hc : c < 127) : ((Int64.ofNat N) <<< ((8 : Int32).toInt64 &&& 63)) ||| (nI c).toInt64 = Int64.ofNat (N * 256 + c) := by
  have e1 : ((8 : Int32).toInt64 &&& 63) = (8 : Int64) := by decide
  have e2 : (nI c).toInt64 = Int64.ofNat c := nI_l (by omega)
  rw [e1, e2]
  apply Int64.toBitVec_inj.mp
  rw [Int64.toBitVec_or, Int64.toBitVec_shiftLeft]
  apply BitVec.eq_of_toNat_eq
  have t1 : (Int64.ofNat N).toBitVec = BitVec.ofNat 64 N := rfl
  have t2 : (Int64.ofNat c).toBitVec = BitVec.ofNat 64 c := rfl
  have t3 : (Int64.ofNat (N * 256 + c)).toBitVec = BitVec.ofNat 64 (N * 256 + c) := rfl
  have t4 : ((8 : Int64).toBitVec.smod 64).toNat = 8 := by decide
  rw [t1, t2, t3]
  have h2 : c < 2 ^ 8 := by omega
  have key : N <<< 8 ||| c = N * 256 + c := by
    rw [← Nat.shiftLeft_add_eq_or_of_lt h2, Nat.shiftLeft_eq]
  have s8 : ((BitVec.ofNat 64 N) <<< ((8 : Int64).toBitVec.smod 64)) = (BitVec.ofNat 64 N) <<< 8 := by
    rw [BitVec.shiftLeft_eq', t4]
  rw [s8, BitVec.toNat_or, BitVec.toNat_shiftLeft, BitVec.toNat_ofNat, BitVec.toNat_ofNat, BitVec.toNat_ofNat]
  have m1 : N % 2 ^ 64 = N := Nat.mod_eq_of_lt (by omega)
  have m2 : c % 2 ^ 64 = c := Nat.mod_eq_of_lt (by omega)
  have m3 : (N * 256 + c) % 2 ^ 64 = N * 256 + c := Nat.mod_eq_of_lt (by omega)
  have m4 : N <<< 8 % 2 ^ 64 = N <<< 8 := Nat.mod_eq_of_lt (by rw [Nat.shiftLeft_eq]; omega)
  rw [m1, m2, m3, m4, key]
theorem lt_big (t : Nat → Nat) (L : Nat) (ht : ∀ i, i < L → t i < 127) : ∀ (d i N : Nat), i + d = L → ∀ k, N < 256 ^ k → (ltR t d i (Int64.ofNat N)).1 - i + k ≤ 6 → ∃ N', (ltR t d i (Int64.ofNat N)).2 = Int64.ofNat N' ∧ N * 256 ^ ((ltR t d i (Int64.ofNat N)).1 - i) ≤ N' ∧ N' < 256 ^ (k + ((ltR t d i (Int64.ofNat N)).1 - i)) := by
  intro d
  induction d with
  | zero =>
    intro i N _ k hk _
    refine ⟨N, rfl, ?_, ?_⟩
    · show N * 256 ^ (i - i) ≤ N
      rw [Nat.sub_self, Nat.pow_zero, Nat.mul_one]
      exact Nat.le_refl _
    · show N < 256 ^ (k + (i - i))
      rw [Nat.sub_self]
      exact hk
  | succ d ih =>
    intro i N hi k hk he
    unfold ltR at he ⊢
    cases hc : dA (t i) || dD (t i) with
    | false =>
      refine ⟨N, rfl, ?_, ?_⟩
      · show N * 256 ^ (i - i) ≤ N
        rw [Nat.sub_self, Nat.pow_zero, Nat.mul_one]
        exact Nat.le_refl _
      · show N < 256 ^ (k + (i - i))
        rw [Nat.sub_self]
        exact hk
    | true =>
      rw [hc] at he
      have hl := (ltR_le t d (i + 1) ((Int64.ofNat N <<< ((8 : Int32).toInt64 &&& 63)) ||| (nI (t i)).toInt64)).1
      have he' : (ltR t d (i + 1) ((Int64.ofNat N <<< ((8 : Int32).toInt64 &&& 63)) ||| (nI (t i)).toInt64)).1 - i + k ≤ 6 := he
      have hk6 : 256 ^ k ≤ 256 ^ 5 := Nat.pow_le_pow_right (by omega) (by omega)
      have hN : N < 2 ^ 48 := Nat.lt_of_lt_of_le hk (Nat.le_trans hk6 (by decide))
      have hti := ht i (by omega)
      show ∃ N', (ltR t d (i + 1) ((Int64.ofNat N <<< ((8 : Int32).toInt64 &&& 63)) ||| (nI (t i)).toInt64)).2 = Int64.ofNat N' ∧ N * 256 ^ ((ltR t d (i + 1) ((Int64.ofNat N <<< ((8 : Int32).toInt64 &&& 63)) ||| (nI (t i)).toInt64)).1 - i) ≤ N' ∧ N' < 256 ^ (k + ((ltR t d (i + 1) ((Int64.ofNat N <<< ((8 : Int32).toInt64 &&& 63)) ||| (nI (t i)).toInt64)).1 - i))
      rw [sh8 hN hti] at he' hl ⊢
      have hk2 : N * 256 + t i < 256 ^ (k + 1) := by
        rw [Nat.pow_succ]
        omega
      obtain ⟨N', q1, q2, q3⟩ := ih (i + 1) (N * 256 + t i) (by omega) (k + 1) hk2 (by omega)
      refine ⟨N', q1, ?_, ?_⟩
      · have e : (ltR t d (i + 1) (Int64.ofNat (N * 256 + t i))).1 - i = ((ltR t d (i + 1) (Int64.ofNat (N * 256 + t i))).1 - (i + 1)) + 1 := by omega
        rw [e, Nat.pow_succ, Nat.mul_comm (256 ^ _) 256, ← Nat.mul_assoc]
        exact Nat.le_trans (Nat.mul_le_mul_right _ (by omega)) q2
      · have e : k + ((ltR t d (i + 1) (Int64.ofNat (N * 256 + t i))).1 - i) = k + 1 + ((ltR t d (i + 1) (Int64.ofNat (N * 256 + t i))).1 - (i + 1)) := by omega
        rw [e]
        exact q3
theorem nwR_one (x : Int64) : ∀ (d i : Nat), i + d = 13 → (∀ k, k < 13 → wdA k ≠ x) → nwR d i x = 1 := by
  intro d
  induction d with
  | zero => intro i _ _; rfl
  | succ d ih =>
    intro i hi h
    unfold nwR
    rw [if_neg (h i (by omega))]
    exact ih (i + 1) (by omega) h
theorem wd_small : ∀ k, k < 13 → (wdA k).toInt < 2 ^ 40 := by decide +kernel
