/-! a token as the class writes it, and as the reference does -/
theorem tk_endS {S : im_S} {j : Nat} (hj : j < 501) (h : S.1 30 3 = nI j) (z6 z3 : Int32) (z4 : Int64) : (if (z6 - z3 : Int32) ≤ 10 then ((f_X9_add 2 z3 z4 S).bind (fun qS3 => some (z6, qS3.2))) else ((f_X9_add 3 z3 z4 S).bind (fun qS6 => some (z6, qS6.2)))) = some (z6, tk_put S j (if (z6 - z3 : Int32) ≤ 10 then 2 else 3) z3 z4) := by
  by_cases hc : (z6 - z3 : Int32) ≤ 10
  · rw [if_pos hc, if_pos hc, tk_add hj h]; rfl
  · rw [if_neg hc, if_neg hc, tk_add hj h]; rfl
theorem tk_numS (fu : Nat) {S : im_S} {j L : Nat} {t : Nat → Nat} (hj : j < 501) (h : S.1 30 3 = nI j) (hL : L ≤ 500) (ht : ∀ i, i < L → t i < 127 ∧ S.1 1 i = nI (t i)) (z3 : Int32) : ∀ (d nf i : Nat) (z4 : Int64), i + d = L → d < nf → f_X9_readNumeral_L6 fu nf (nI L) z3 z4 (nI i) S = some (nI (nmR t d i z4).1, tk_put S j (if (nI (nmR t d i z4).1 - z3 : Int32) ≤ 10 then 2 else 3) z3 (nmR t d i z4).2) := by
  intro d
  induction d with
  | zero =>
    intro nf i z4 hi hn
    obtain ⟨nf, rfl⟩ : ∃ z, nf = z + 1 := ⟨nf - 1, by omega⟩
    have hle : nI L ≤ nI i := (mI_le (a := L) (b := i) (by omega) (by omega)).mpr (by omega)
    rw [f_X9_readNumeral_L6, if_pos hle]
    exact tk_endS hj h (nI i) z3 z4
  | succ d ih =>
    intro nf i z4 hi hn
    obtain ⟨nf, rfl⟩ : ∃ z, nf = z + 1 := ⟨nf - 1, by omega⟩
    have hlt : ¬ nI L ≤ nI i := fun q => by have := (mI_le (a := L) (b := i) (by omega) (by omega)).mp q; omega
    obtain ⟨ht1, ht2⟩ := ht i (by omega)
    have hcl : (nI i).toNatClampNeg = i := nI_clamp (by omega)
    rw [f_X9_readNumeral_L6, if_neg hlt, mI_in (a := i) (n := 500) (by omega) (by omega), hcl, ht2, dg9_v ht1]
    generalize hr : (cond (dD (t i)) (1 : Int32) 0) = r
    show (if (r : Int32) = 0 then _ else (gd true (f_X9_readNumeral_L6 fu nf (nI L) z3 ((z4 * 10) + ((((S.1 1) i) - 48).toInt64)) (nI i + nI 1) S))) = _
    unfold nmR
    cases hd : dD (t i) with
    | false =>
      rw [hd] at hr
      rw [if_pos (show r = 0 from hr.symm)]
      exact tk_endS hj h (nI i) z3 z4
    | true =>
      rw [hd] at hr
      rw [if_neg (by rw [← hr]; decide), nI_add, ht2]
      exact ih nf (i + 1) _ (by omega) (by omega)
theorem tk_endLS {S : im_S} {j : Nat} (hj : j < 501) (h : S.1 30 3 = nI j) (z6 z3 : Int32) (z4 : Int64) : (if (z6 - z3 : Int32) ≤ 6 then ((f_X9_nameOrWord z4 S).bind (fun qS3 => (f_X9_add qS3.1 z3 z4 qS3.2).bind (fun qS6 => some (z6, qS6.2)))) else ((f_X9_add 3 z3 z4 S).bind (fun qS9 => some (z6, qS9.2)))) = some (z6, tk_put S j (if (z6 - z3 : Int32) ≤ 6 then nwR 13 0 z4 else 3) z3 z4) := by
  by_cases hc : (z6 - z3 : Int32) ≤ 6
  · rw [if_pos hc, if_pos hc, nw_val]
    show (f_X9_add (nwR 13 0 z4) z3 z4 S).bind (fun qS6 => some (z6, qS6.2)) = _
    rw [tk_add hj h]
    rfl
  · rw [if_neg hc, if_neg hc, tk_add hj h]; rfl
theorem tk_letS (fu : Nat) {S : im_S} {j L : Nat} {t : Nat → Nat} (hj : j < 501) (h : S.1 30 3 = nI j) (hL : L ≤ 500) (ht : ∀ i, i < L → t i < 127 ∧ S.1 1 i = nI (t i)) (z3 : Int32) : ∀ (d nf i : Nat) (z4 : Int64), i + d = L → d < nf → f_X9_readLetters_L6 fu nf (nI L) z3 z4 (nI i) S = some (nI (ltR t d i z4).1, tk_put S j (if (nI (ltR t d i z4).1 - z3 : Int32) ≤ 6 then nwR 13 0 (ltR t d i z4).2 else 3) z3 (ltR t d i z4).2) := by
  intro d
  induction d with
  | zero =>
    intro nf i z4 hi hn
    obtain ⟨nf, rfl⟩ : ∃ z, nf = z + 1 := ⟨nf - 1, by omega⟩
    have hle : nI L ≤ nI i := (mI_le (a := L) (b := i) (by omega) (by omega)).mpr (by omega)
    rw [f_X9_readLetters_L6, if_pos hle]
    exact tk_endLS hj h (nI i) z3 z4
  | succ d ih =>
    intro nf i z4 hi hn
    obtain ⟨nf, rfl⟩ : ∃ z, nf = z + 1 := ⟨nf - 1, by omega⟩
    have hlt : ¬ nI L ≤ nI i := fun q => by have := (mI_le (a := L) (b := i) (by omega) (by omega)).mp q; omega
    obtain ⟨ht1, ht2⟩ := ht i (by omega)
    have hcl : (nI i).toNatClampNeg = i := nI_clamp (by omega)
    have hgo := ih nf (i + 1) ((z4 <<< ((8 : Int32).toInt64 &&& 63)) ||| (nI (t i)).toInt64) (by omega) (by omega)
    rw [f_X9_readLetters_L6, if_neg hlt, mI_in (a := i) (n := 500) (by omega) (by omega), hcl, ht2, lt9_v ht1]
    generalize hr : (cond (dA (t i)) (1 : Int32) 0) = r
    show (if (r : Int32) ≠ 0 then (gd true (f_X9_readLetters_L6 fu nf (nI L) z3 ((z4 <<< ((8 : Int32).toInt64 &&& 63)) ||| (((S.1 1) i).toInt64)) (nI i + nI 1) S)) else (gd true ((f_X9_isDigit ((S.1 1) i) S).bind _))) = _
    unfold ltR
    cases ha : dA (t i) with
    | true =>
      rw [ha] at hr
      rw [if_pos (by rw [← hr]; decide), nI_add, ht2]
      exact hgo
    | false =>
      rw [ha] at hr
      rw [if_neg (by rw [← hr]; decide), ht2, dg9_v ht1]
      generalize hr2 : (cond (dD (t i)) (1 : Int32) 0) = r2
      show (if (r2 : Int32) = 0 then _ else (gd true (f_X9_readLetters_L6 fu nf (nI L) z3 ((z4 <<< ((8 : Int32).toInt64 &&& 63)) ||| (((S.1 1) i).toInt64)) (nI i + nI 1) S))) = _
      cases hd : dD (t i) with
      | false =>
        rw [hd] at hr2
        rw [if_pos (show r2 = 0 from hr2.symm)]
        exact tk_endLS hj h (nI i) z3 z4
      | true =>
        rw [hd] at hr2
        rw [if_neg (by rw [← hr2]; decide), nI_add, ht2]
        exact hgo
/-! the reference -/
def rk_put (S : im_S) (j : Nat) (k c p : Int32) (n : Int64) : im_S := uI (uJ (uI (uI (uI S 77 j k) 78 j c) 79 j p) 80 j n) 75 5 (nI (j + 1))
theorem rk_add {S : im_S} {j : Nat} (hj : j < 502) (h : S.1 75 5 = nI j) (k c p : Int32) (n : Int64) : f_X11_token k c p n S = some ((), rk_put S j k c p n) := by
  unfold f_X11_token
  rw [h, mI_in (a := j) (n := 502) (by omega) hj, nI_clamp (by omega)]
  show some ((), uI (uJ (uI (uI (uI S 77 j k) 78 j c) 79 j p) 80 j n) 75 5 (nI j + nI 1)) = _
  rw [nI_add]
  rfl
theorem ch_v {S : im_S} {L i : Nat} {t : Nat → Nat} (hL : L ≤ 500) (hS : S.1 75 2 = nI L) (ht : ∀ i, i < L → t i < 127 ∧ S.1 76 i = nI (t i)) (hi : i ≤ L) : f_X11_character (nI i) S = some (if i < L then nI (t i) else 0, S) := by
  unfold f_X11_character
  rw [hS]
  by_cases h : i < L
  · rw [if_neg (fun q => by have := (mI_le (a := L) (b := i) (by omega) (by omega)).mp q; omega), mI_in (a := i) (n := 500) (by omega) (by omega), nI_clamp (by omega), (ht i h).2, if_pos h]
    rfl
  · rw [if_pos ((mI_le (a := L) (b := i) (by omega) (by omega)).mpr (by omega)), if_neg h]
theorem rk_endN {S : im_S} {j : Nat} (hj : j < 502) (h : S.1 75 5 = nI j) (z3 z1 : Int32) (z4 : Int64) : (if (z3 - z1 : Int32) ≤ 10 then ((f_X11_token 2 0 z1 z4 S).bind (fun qS9 => some (z3, qS9.2))) else ((f_X11_token 9 0 z1 z4 S).bind (fun qS12 => some (z3, qS12.2)))) = some (z3, rk_put S j (if (z3 - z1 : Int32) ≤ 10 then 2 else 9) 0 z1 z4) := by
  by_cases hc : (z3 - z1 : Int32) ≤ 10
  · rw [if_pos hc, if_pos hc, rk_add hj h]; rfl
  · rw [if_neg hc, if_neg hc, rk_add hj h]; rfl
theorem dg0 (S : im_S) : f_X11_isDigit 0 S = some (0, S) := by
  unfold f_X11_isDigit
  rw [if_pos (by decide)]
theorem lt0 (S : im_S) : f_X11_isSmall 0 S = some (0, S) := by
  unfold f_X11_isSmall
  rw [if_pos (by decide)]
theorem rk_numS (fu : Nat) {S : im_S} {j L f : Nat} {t : Nat → Nat} (hj : j < 502) (h : S.1 75 5 = nI j) (hL : L ≤ 500) (hS : S.1 75 2 = nI L) (ht : ∀ i, i < L → t i < 127 ∧ S.1 76 i = nI (t i)) (z2 : Int32) : ∀ (d nf i : Nat) (z4 : Int64), i + d = L → d < nf → f ≤ i → f_X11_oneToken_L24 fu nf (nI f) z2 (nI i) z4 S = some (nI (nmQ t f d i z4).1, rk_put S j (if (nI (nmQ t f d i z4).1 - nI f : Int32) ≤ 10 then 2 else 9) 0 (nI f) (nmQ t f d i z4).2) := by
  intro d
  induction d with
  | zero =>
    intro nf i z4 hi hn hf
    obtain ⟨nf, rfl⟩ : ∃ z, nf = z + 1 := ⟨nf - 1, by omega⟩
    rw [f_X11_oneToken_L24, ch_v hL hS ht (by omega), if_neg (by omega)]
    show (f_X11_isDigit 0 S).bind _ = _
    rw [dg0]
    exact rk_endN hj h (nI i) (nI f) z4
  | succ d ih =>
    intro nf i z4 hi hn hf
    obtain ⟨nf, rfl⟩ : ∃ z, nf = z + 1 := ⟨nf - 1, by omega⟩
    obtain ⟨ht1, ht2⟩ := ht i (by omega)
    rw [f_X11_oneToken_L24, ch_v hL hS ht (by omega), if_pos (by omega)]
    show (f_X11_isDigit (nI (t i)) S).bind _ = _
    rw [dg11_v ht1]
    generalize hr : (cond (dD (t i)) (1 : Int32) 0) = r
    unfold nmQ
    cases hd : dD (t i) with
    | false =>
      rw [hd] at hr
      subst hr
      exact rk_endN hj h (nI i) (nI f) z4
    | true =>
      rw [hd] at hr
      show (if (r : Int32) = 0 then _ else (if (12 : Int32) ≤ (nI i - nI f) then (f_X11_oneToken_L24 fu nf (nI f) z2 (nI i + nI 1) z4 S) else ((f_X11_character (nI i) S).bind (fun qS16 => f_X11_oneToken_L24 fu nf (nI f) z2 (nI i + nI 1) (((10 * z4) + qS16.1.toInt64) - 48) qS16.2)))) = _
      rw [if_neg (by rw [← hr]; decide), nI_sub hf, nI_add]
      by_cases hc : i - f < 12
      · rw [if_neg (fun q => by have := (mI_le (a := 12) (b := i - f) (by omega) (by omega)).mp q; omega), ch_v hL hS ht (by omega), if_pos (by omega)]
        show f_X11_oneToken_L24 fu nf (nI f) z2 (nI (i + 1)) (((10 * z4) + (nI (t i)).toInt64) - 48) S = some (nI (nmQ t f d (i + 1) (if i - f < 12 then 10 * z4 + (nI (t i)).toInt64 - 48 else z4)).1, _)
        rw [ih nf (i + 1) _ (by omega) (by omega) (by omega)]
        show _ = some (nI (nmQ t f d (i + 1) (if i - f < 12 then 10 * z4 + (nI (t i)).toInt64 - 48 else z4)).1, rk_put S j (if (nI (nmQ t f d (i + 1) (if i - f < 12 then 10 * z4 + (nI (t i)).toInt64 - 48 else z4)).1 - nI f : Int32) ≤ 10 then 2 else 9) 0 (nI f) (nmQ t f d (i + 1) (if i - f < 12 then 10 * z4 + (nI (t i)).toInt64 - 48 else z4)).2)
        rw [if_pos hc]
      · rw [if_pos (show (12 : Int32) ≤ nI (i - f) from (mI_le (a := 12) (b := i - f) (by omega) (by omega)).mpr (by omega)), ih nf (i + 1) _ (by omega) (by omega) (by omega)]
        show _ = some (nI (nmQ t f d (i + 1) (if i - f < 12 then 10 * z4 + (nI (t i)).toInt64 - 48 else z4)).1, rk_put S j (if (nI (nmQ t f d (i + 1) (if i - f < 12 then 10 * z4 + (nI (t i)).toInt64 - 48 else z4)).1 - nI f : Int32) ≤ 10 then 2 else 9) 0 (nI f) (nmQ t f d (i + 1) (if i - f < 12 then 10 * z4 + (nI (t i)).toInt64 - 48 else z4)).2)
        rw [if_neg hc]
