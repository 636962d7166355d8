/-! one token: the class's and the reference's are the same (begun by wip/whole/mk89.py, now by hand) -/
def tkK (n : Nat) : Nat := if n = 0 then 0 else if n = 1 then 1 else if n = 2 then 2 else if n = 3 then 9 else if n ≤ 16 then 4 else 3
def tkC (n : Nat) : Nat := if n ≤ 16 then n - 3 else n
def TkN (n : Nat) : Bool := Nat.ble n 16 || sg_is n
theorem sgch {α : Type} (c : Int32) (X Y : α) : (if c = 40 then X else (if c = 41 then X else (if c = 91 then X else (if c = 93 then X else (if c = 44 then X else (if c = 59 then X else (if c = 61 then X else (if c = 60 then X else (if c = 43 then X else (if c = 45 then X else (if c = 42 then X else (if c = 47 then X else (if c = 37 then X else (if c = 38 then X else (if c = 124 then X else (if c ≠ 33 then Y else X)))))))))))))))) = if (c = 40 ∨ c = 41 ∨ c = 91 ∨ c = 93 ∨ c = 44 ∨ c = 59 ∨ c = 61 ∨ c = 60 ∨ c = 43 ∨ c = 45 ∨ c = 42 ∨ c = 47 ∨ c = 37 ∨ c = 38 ∨ c = 124 ∨ c = 33) then X else Y := by
  by_cases h0 : c = 40
  · rw [if_pos h0, if_pos (Or.inl h0)]
  rw [if_neg h0]
  by_cases h1 : c = 41
  · rw [if_pos h1, if_pos (Or.inr (Or.inl h1))]
  rw [if_neg h1]
  by_cases h2 : c = 91
  · rw [if_pos h2, if_pos (Or.inr (Or.inr (Or.inl h2)))]
  rw [if_neg h2]
  by_cases h3 : c = 93
  · rw [if_pos h3, if_pos (Or.inr (Or.inr (Or.inr (Or.inl h3))))]
  rw [if_neg h3]
  by_cases h4 : c = 44
  · rw [if_pos h4, if_pos (Or.inr (Or.inr (Or.inr (Or.inr (Or.inl h4)))))]
  rw [if_neg h4]
  by_cases h5 : c = 59
  · rw [if_pos h5, if_pos (Or.inr (Or.inr (Or.inr (Or.inr (Or.inr (Or.inl h5))))))]
  rw [if_neg h5]
  by_cases h6 : c = 61
  · rw [if_pos h6, if_pos (Or.inr (Or.inr (Or.inr (Or.inr (Or.inr (Or.inr (Or.inl h6)))))))]
  rw [if_neg h6]
  by_cases h7 : c = 60
  · rw [if_pos h7, if_pos (Or.inr (Or.inr (Or.inr (Or.inr (Or.inr (Or.inr (Or.inr (Or.inl h7))))))))]
  rw [if_neg h7]
  by_cases h8 : c = 43
  · rw [if_pos h8, if_pos (Or.inr (Or.inr (Or.inr (Or.inr (Or.inr (Or.inr (Or.inr (Or.inr (Or.inl h8)))))))))]
  rw [if_neg h8]
  by_cases h9 : c = 45
  · rw [if_pos h9, if_pos (Or.inr (Or.inr (Or.inr (Or.inr (Or.inr (Or.inr (Or.inr (Or.inr (Or.inr (Or.inl h9))))))))))]
  rw [if_neg h9]
  by_cases h10 : c = 42
  · rw [if_pos h10, if_pos (Or.inr (Or.inr (Or.inr (Or.inr (Or.inr (Or.inr (Or.inr (Or.inr (Or.inr (Or.inr (Or.inl h10)))))))))))]
  rw [if_neg h10]
  by_cases h11 : c = 47
  · rw [if_pos h11, if_pos (Or.inr (Or.inr (Or.inr (Or.inr (Or.inr (Or.inr (Or.inr (Or.inr (Or.inr (Or.inr (Or.inr (Or.inl h11))))))))))))]
  rw [if_neg h11]
  by_cases h12 : c = 37
  · rw [if_pos h12, if_pos (Or.inr (Or.inr (Or.inr (Or.inr (Or.inr (Or.inr (Or.inr (Or.inr (Or.inr (Or.inr (Or.inr (Or.inr (Or.inl h12)))))))))))))]
  rw [if_neg h12]
  by_cases h13 : c = 38
  · rw [if_pos h13, if_pos (Or.inr (Or.inr (Or.inr (Or.inr (Or.inr (Or.inr (Or.inr (Or.inr (Or.inr (Or.inr (Or.inr (Or.inr (Or.inr (Or.inl h13))))))))))))))]
  rw [if_neg h13]
  by_cases h14 : c = 124
  · rw [if_pos h14, if_pos (Or.inr (Or.inr (Or.inr (Or.inr (Or.inr (Or.inr (Or.inr (Or.inr (Or.inr (Or.inr (Or.inr (Or.inr (Or.inr (Or.inr (Or.inl h14)))))))))))))))]
  rw [if_neg h14]
  by_cases h15 : c = 33
  · rw [if_neg (fun q => q h15), if_pos (Or.inr (Or.inr (Or.inr (Or.inr (Or.inr (Or.inr (Or.inr (Or.inr (Or.inr (Or.inr (Or.inr (Or.inr (Or.inr (Or.inr (Or.inr (h15))))))))))))))))]
  rw [if_pos h15, if_neg (fun q => by rcases q with q | q | q | q | q | q | q | q | q | q | q | q | q | q | q | q <;> contradiction)]
theorem sg_or {n : Nat} (h : n < 127) : (nI n = 40 ∨ nI n = 41 ∨ nI n = 91 ∨ nI n = 93 ∨ nI n = 44 ∨ nI n = 59 ∨ nI n = 61 ∨ nI n = 60 ∨ nI n = 43 ∨ nI n = 45 ∨ nI n = 42 ∨ nI n = 47 ∨ nI n = 37 ∨ nI n = 38 ∨ nI n = 124 ∨ nI n = 33) ↔ sg_is n = true := by
  have hA : ∀ n, n < 127 → decide (nI n = 40 ∨ nI n = 41 ∨ nI n = 91 ∨ nI n = 93 ∨ nI n = 44 ∨ nI n = 59 ∨ nI n = 61 ∨ nI n = 60 ∨ nI n = 43 ∨ nI n = 45 ∨ nI n = 42 ∨ nI n = 47 ∨ nI n = 37 ∨ nI n = 38 ∨ nI n = 124 ∨ nI n = 33) = sg_is n := by decide +kernel
  rw [← hA n h]
  exact (decide_eq_true_iff).symm
theorem sg_cls {n : Nat} (h : n < 127) (hs : sg_is n = true) : dD n = false ∧ dA n = false ∧ 17 ≤ n := by
  have hA : ∀ n, n < 127 → sg_is n = true → dD n = false ∧ dA n = false ∧ 17 ≤ n := by decide +kernel
  exact hA n h hs
theorem dD_ge {n : Nat} (h : dA n = true) : 97 ≤ n ∧ n ≤ 122 := by
  unfold dA at h
  have := Bool.and_eq_true_iff.mp h
  exact ⟨Nat.le_of_ble_eq_true this.1, Nat.le_of_ble_eq_true this.2⟩
theorem tkK_sg {n : Nat} (h : 17 ≤ n) : tkK n = 3 ∧ tkC n = n := by
  unfold tkK tkC
  rw [if_neg (by omega), if_neg (by omega), if_neg (by omega), if_neg (by omega), if_neg (by omega), if_neg (by omega)]
  exact ⟨rfl, rfl⟩
theorem tkK_wd {w : Nat} (h : 1 ≤ w) (h2 : w ≤ 13) : tkK (3 + w) = 4 ∧ tkC (3 + w) = w ∧ TkN (3 + w) = true := by
  unfold tkK tkC TkN
  rw [if_neg (by omega), if_neg (by omega), if_neg (by omega), if_neg (by omega), if_pos (by omega), if_pos (by omega)]
  refine ⟨rfl, by omega, ?_⟩
  rw [Nat.ble_eq_true_of_le (by omega)]
  rfl
/-- at least so many characters has a token -/
def wl (n : Nat) : Nat := if n = 6 then 2 else if n = 9 then 4 else if n = 12 then 4 else if n = 13 then 3 else if n = 10 then 5 else if n = 11 then 4 else 1
theorem wl_1 {n : Nat} (h : n ≤ 5 ∨ 14 ≤ n) : wl n = 1 := by
  unfold wl
  rw [if_neg (by omega), if_neg (by omega), if_neg (by omega), if_neg (by omega), if_neg (by omega), if_neg (by omega)]
theorem woR_wd (x : Int64) : ∀ (d i : Nat), i + d = 13 → 1 ≤ woR d i x → wdA (woR d i x - 1) = x := by
  intro d
  induction d with
  | zero => intro i _ h; exact absurd h (by show ¬ 1 ≤ 0; omega)
  | succ d ih =>
    intro i hi h
    unfold woR at h ⊢
    by_cases e : wdA i = x
    · rw [if_pos e, Nat.add_sub_cancel]; exact e
    · rw [if_neg e] at h ⊢
      exact ih (i + 1) (by omega) h
theorem wl_wd : ∀ w, w < 14 → 1 ≤ w → ((256 ^ (wl (3 + w) - 1) : Nat) : Int) ≤ (wdA (w - 1)).toInt := by decide +kernel
theorem tok_one {fu : Nat} (hfu : 501 ≤ fu) {C D : im_S} {i j L : Nat} {t : Nat → Nat} (hL : L ≤ 500) (hi : i < L) (hj : j < 501) (hC : C.1 30 3 = nI j) (hD : D.1 75 5 = nI j) (hD2 : D.1 75 2 = nI L) (htC : ∀ i, i < L → t i < 127 ∧ C.1 1 i = nI (t i)) (htD : ∀ i, i < L → t i < 127 ∧ D.1 76 i = nI (t i)) :
    ∃ (n e : Nat) (rc : Int32) (v rv : Int64), i < e ∧ e ≤ L ∧ TkN n = true ∧ n ≠ 0 ∧ f_X9_readAt fu (nI L) (nI i) C = some (nI e, tk_put C j (nI n) (nI i) v) ∧ f_X11_oneToken fu (nI i) D = some (nI e, rk_put D j (nI (tkK n)) rc (nI i) rv) ∧ (4 ≤ n → rc = nI (tkC n)) ∧ ((n = 1 ∨ n = 2) → v = rv) ∧ (n = 1 → ∃ N : Nat, v = Int64.ofNat N ∧ 97 ≤ N ∧ N < 256 ^ 6) ∧ i + wl n ≤ e := by
  have hcl : (nI i).toNatClampNeg = i := nI_clamp (by omega)
  obtain ⟨hn, hc⟩ := htC i hi
  obtain ⟨d, hd⟩ : ∃ d, L = i + (d + 1) := ⟨L - i - 1, by omega⟩
  have eC : f_X9_readAt fu (nI L) (nI i) C = (if (cond (dD (t i)) 1 0 : Int32) = 0 then (if (cond (dA (t i)) 1 0 : Int32) = 0 then ((f_sg_indexOf (nI (t i)) C).bind (fun qS9 => if (qS9.1 : Int32) < 0 then ((f_X9_add 3 (nI i) 0 qS9.2).bind (fun qS13 => some (nI i + 1, qS13.2))) else ((f_X9_add (nI (t i)) (nI i) 0 qS9.2).bind (fun qS16 => some (nI i + 1, qS16.2))))) else ((f_X9_readLetters fu (nI L) (nI i) C).bind (fun qS19 => some (qS19.1, qS19.2)))) else ((f_X9_readNumeral fu (nI L) (nI i) C).bind (fun qS22 => some (qS22.1, qS22.2)))) := by
    unfold f_X9_readAt
    rw [mI_in (a := i) (n := 500) (by omega) (by omega), hcl, hc, ch_at hn, dg9_v hn]
    generalize hr : (cond (dD (t i)) (1 : Int32) 0) = r
    show (if (r : Int32) = 0 then ((f_X9_isLetter (nI (t i)) C).bind _) else _) = _
    rw [lt9_v hn]
    rfl
  have eD : f_X11_oneToken fu (nI i) D = (if (cond (dD (t i)) 1 0 : Int32) = 0 then (if (cond (dA (t i)) 1 0 : Int32) = 0 then (if (nI (t i) : Int32) = 40 then ((f_X11_token 3 (nI (t i)) (nI i) 0 D).bind (fun q => some (nI i + 1, q.2))) else (if (nI (t i) : Int32) = 41 then ((f_X11_token 3 (nI (t i)) (nI i) 0 D).bind (fun q => some (nI i + 1, q.2))) else (if (nI (t i) : Int32) = 91 then ((f_X11_token 3 (nI (t i)) (nI i) 0 D).bind (fun q => some (nI i + 1, q.2))) else (if (nI (t i) : Int32) = 93 then ((f_X11_token 3 (nI (t i)) (nI i) 0 D).bind (fun q => some (nI i + 1, q.2))) else (if (nI (t i) : Int32) = 44 then ((f_X11_token 3 (nI (t i)) (nI i) 0 D).bind (fun q => some (nI i + 1, q.2))) else (if (nI (t i) : Int32) = 59 then ((f_X11_token 3 (nI (t i)) (nI i) 0 D).bind (fun q => some (nI i + 1, q.2))) else (if (nI (t i) : Int32) = 61 then ((f_X11_token 3 (nI (t i)) (nI i) 0 D).bind (fun q => some (nI i + 1, q.2))) else (if (nI (t i) : Int32) = 60 then ((f_X11_token 3 (nI (t i)) (nI i) 0 D).bind (fun q => some (nI i + 1, q.2))) else (if (nI (t i) : Int32) = 43 then ((f_X11_token 3 (nI (t i)) (nI i) 0 D).bind (fun q => some (nI i + 1, q.2))) else (if (nI (t i) : Int32) = 45 then ((f_X11_token 3 (nI (t i)) (nI i) 0 D).bind (fun q => some (nI i + 1, q.2))) else (if (nI (t i) : Int32) = 42 then ((f_X11_token 3 (nI (t i)) (nI i) 0 D).bind (fun q => some (nI i + 1, q.2))) else (if (nI (t i) : Int32) = 47 then ((f_X11_token 3 (nI (t i)) (nI i) 0 D).bind (fun q => some (nI i + 1, q.2))) else (if (nI (t i) : Int32) = 37 then ((f_X11_token 3 (nI (t i)) (nI i) 0 D).bind (fun q => some (nI i + 1, q.2))) else (if (nI (t i) : Int32) = 38 then ((f_X11_token 3 (nI (t i)) (nI i) 0 D).bind (fun q => some (nI i + 1, q.2))) else (if (nI (t i) : Int32) = 124 then ((f_X11_token 3 (nI (t i)) (nI i) 0 D).bind (fun q => some (nI i + 1, q.2))) else (if (nI (t i) : Int32) ≠ 33 then ((f_X11_token 9 (nI (t i)) (nI i) 0 D).bind (fun q => some (nI i + 1, q.2))) else ((f_X11_token 3 (nI (t i)) (nI i) 0 D).bind (fun q => some (nI i + 1, q.2))))))))))))))))))) else (f_X11_oneToken_L108 fu fu (nI i) (nI (t i)) (nI i + 1) (nI (t i)).toInt64 D)) else (f_X11_oneToken_L24 fu fu (nI i) (nI (t i)) (nI i + 1) ((nI (t i) - 48).toInt64) D)) := by
    unfold f_X11_oneToken
    rw [ch_v hL hD2 htD (by omega), if_pos hi]
    show (f_X11_isDigit (nI (t i)) D).bind _ = _
    rw [dg11_v hn]
    generalize hr : (cond (dD (t i)) (1 : Int32) 0) = r
    show (if (r : Int32) = 0 then ((f_X11_isSmall (nI (t i)) D).bind _) else _) = _
    rw [lt11_v hn]
    rfl
  have n1 : nI i + 1 = nI (i + 1) := nI_add i 1
  cases hdd : dD (t i) with
  | true =>
    rw [hdd] at eC eD
    -- a row of digits
    have c1 := tk_numS fu hj hC hL htC (nI i) (d + 1) fu i 0 (by omega) (by omega)
    have r1 := rk_numS fu (j := j) (f := i) (by omega) hD hL hD2 htD (nI (t i)) d fu (i + 1) ((nI (t i) - 48).toInt64) (by omega) (by omega) (by omega)
    have hs : nmR t (d + 1) i 0 = nmR t d (i + 1) ((nI (t i) - 48).toInt64) := by
      show cond (dD (t i)) (nmR t d (i + 1) (0 * 10 + (nI (t i) - 48).toInt64)) (i, 0) = _
      rw [hdd, Int64.zero_mul, Int64.zero_add]
      rfl
    rw [hs] at c1
    have he := nq_e t i d (i + 1) ((nI (t i) - 48).toInt64) ((nI (t i) - 48).toInt64)
    have hle := nmR_le t d (i + 1) ((nI (t i) - 48).toInt64)
    generalize hE : nmR t d (i + 1) ((nI (t i) - 48).toInt64) = E at *
    rw [he] at r1
    have hsub : nI E.1 - nI i = nI (E.1 - i) := nI_sub (by omega)
    have c10 : ((nI (E.1 - i) : Int32) ≤ 10) ↔ E.1 - i ≤ 10 := mI_le (a := E.1 - i) (b := 10) (by omega) (by omega)
    rw [hsub] at c1 r1
    have fC : f_X9_readAt fu (nI L) (nI i) C = some (nI E.1, tk_put C j (if (nI (E.1 - i) : Int32) ≤ 10 then 2 else 3) (nI i) E.2) := by
      rw [eC]
      show ((f_X9_readNumeral_L6 fu fu (nI L) (nI i) 0 (nI i) C).bind (fun qS22 => some (qS22.1, qS22.2))) = _
      rw [c1]
      rfl
    have fD : f_X11_oneToken fu (nI i) D = some (nI E.1, rk_put D j (if (nI (E.1 - i) : Int32) ≤ 10 then 2 else 9) 0 (nI i) (nmQ t i d (i + 1) ((nI (t i) - 48).toInt64)).2) := by
      rw [eD]
      show f_X11_oneToken_L24 fu fu (nI i) (nI (t i)) (nI i + 1) ((nI (t i) - 48).toInt64) D = _
      rw [n1]
      exact r1
    by_cases h10 : E.1 - i ≤ 10
    · rw [if_pos (c10.mpr h10)] at fC fD
      refine ⟨2, E.1, 0, E.2, _, by omega, by omega, rfl, by decide, fC, fD, fun q => by omega, fun _ => ?_, fun q => by omega, by show i + 1 ≤ E.1; omega⟩
      rw [nq_v t i d (i + 1) _ (by omega) (by rw [hE]; omega), hE]
    · rw [if_neg (fun q => h10 (c10.mp q))] at fC fD
      exact ⟨3, E.1, 0, E.2, _, by omega, by omega, rfl, by decide, fC, fD, fun q => by omega, fun q => by omega, fun q => by omega, by show i + 1 ≤ E.1; omega⟩
  | false =>
    rw [hdd] at eC eD
    cases hda : dA (t i) with
    | true =>
      rw [hda] at eC eD
      obtain ⟨g1, g2⟩ := dD_ge hda
      have hv0 : (nI (t i)).toInt64 = Int64.ofNat (t i) := nI_l (by omega)
      have c1 := tk_letS fu hj hC hL htC (nI i) (d + 1) fu i 0 (by omega) (by omega)
      have r1 := rk_letS fu (j := j) (f := i) (by omega) hD hL hD2 htD (nI (t i)) d fu (i + 1) ((nI (t i)).toInt64) (by omega) (by omega) (by omega)
      have hs : ltR t (d + 1) i 0 = ltR t d (i + 1) (Int64.ofNat (t i)) := by
        show cond (dA (t i) || dD (t i)) (ltR t d (i + 1) (((0 : Int64) <<< ((8 : Int32).toInt64 &&& 63)) ||| (nI (t i)).toInt64)) (i, 0) = _
        have z0 : (0 : Int64) = Int64.ofNat 0 := rfl
        rw [hda, z0, sh8 (by decide) hn, Nat.zero_mul, Nat.zero_add]
        rfl
      rw [hs] at c1
      rw [hv0] at r1 eD
      have he := lq_e t i d (i + 1) (Int64.ofNat (t i)) (Int64.ofNat (t i))
      have hle := ltR_le t d (i + 1) (Int64.ofNat (t i))
      have hbig := lt_big t L (fun k hk => (htC k hk).1) d (i + 1) (t i) (by omega) 1 (by rw [Nat.pow_one]; omega)
      have hval := lq_v t i d (i + 1) (Int64.ofNat (t i)) (by omega)
      generalize hE : ltR t d (i + 1) (Int64.ofNat (t i)) = E at *
      generalize hQ : ltQ t i d (i + 1) (Int64.ofNat (t i)) = Q at *
      rw [he] at r1
      have hsub : nI E.1 - nI i = nI (E.1 - i) := nI_sub (by omega)
      have c6 : ((nI (E.1 - i) : Int32) ≤ 6) ↔ E.1 - i ≤ 6 := mI_le (a := E.1 - i) (b := 6) (by omega) (by omega)
      rw [hsub] at c1
      have fC : f_X9_readAt fu (nI L) (nI i) C = some (nI E.1, tk_put C j (if (nI (E.1 - i) : Int32) ≤ 6 then nwR 13 0 E.2 else 3) (nI i) E.2) := by
        rw [eC]
        show ((f_X9_readLetters_L6 fu fu (nI L) (nI i) 0 (nI i) C).bind (fun qS22 => some (qS22.1, qS22.2))) = _
        rw [c1]
        rfl
      have fD : f_X11_oneToken fu (nI i) D = some (nI E.1, rk_put D j (lkK (E.1 - i) Q.2) (lkC (E.1 - i) Q.2) (nI i) Q.2) := by
        rw [eD]
        show f_X11_oneToken_L108 fu fu (nI i) (nI (t i)) (nI i + 1) (Int64.ofNat (t i)) D = _
        rw [n1]
        exact r1
      by_cases h6 : E.1 - i ≤ 6
      · obtain ⟨N0, b1, b2, b3⟩ := hbig (by omega)
        have b4 : 97 ≤ N0 := Nat.le_trans g1 (Nat.le_trans (Nat.le_mul_of_pos_right _ (Nat.pow_pos (by decide))) b2)
        have b5 : N0 < 256 ^ 6 := Nat.lt_of_lt_of_le b3 (Nat.pow_le_pow_right (by decide) (by omega))
        rw [if_pos (c6.mpr h6)] at fC
        have hvv := hval (by omega)
        rw [hvv] at fD
        by_cases h5 : E.1 - i ≤ 5
        · have k1 : lkK (E.1 - i) E.2 = if woR 13 0 E.2 = 0 then 1 else 4 := by unfold lkK; rw [if_pos h5]
          have k2 : lkC (E.1 - i) E.2 = nI (woR 13 0 E.2) := by unfold lkC; rw [if_pos h5]
          rw [k1, k2] at fD
          rcases wo_nw E.2 13 0 (by omega) with ⟨w1, w2⟩ | ⟨w1, w2, w3⟩
          · rw [w2] at fC
            rw [if_pos w1] at fD
            exact ⟨1, E.1, _, E.2, E.2, by omega, by omega, rfl, by decide, fC, fD, fun q => by omega, fun _ => rfl, fun _ => ⟨N0, b1, b4, b5⟩, by show i + 1 ≤ E.1; omega⟩
          · rw [w3] at fC
            rw [if_neg (by omega)] at fD
            obtain ⟨a1, a2, a3⟩ := tkK_wd w1 w2
            refine ⟨3 + woR 13 0 E.2, E.1, _, E.2, E.2, by omega, by omega, a3, by omega, fC, ?_, fun _ => by rw [a2], fun _ => rfl, fun q => by omega, ?_⟩
            · rw [a1]
              exact fD
            · have u1 := woR_wd E.2 13 0 (by omega) w1
              have u2 := wl_wd (woR 13 0 E.2) (by omega) w1
              rw [u1, b1, Int64.toInt_ofNat_of_lt (Nat.lt_of_lt_of_le b5 (by decide))] at u2
              have u3 : 256 ^ (wl (3 + woR 13 0 (Int64.ofNat N0)) - 1) ≤ N0 := by exact_mod_cast u2
              rw [← b1] at u3
              rcases Nat.lt_or_ge E.1 (i + wl (3 + woR 13 0 E.2)) with z | z
              · have u4 : 256 ^ (1 + (E.1 - (i + 1))) ≤ 256 ^ (wl (3 + woR 13 0 E.2) - 1) := Nat.pow_le_pow_right (by decide) (by omega)
                omega
              · exact z
        · have h6' : E.1 - i = 6 := by omega
          have k1 : lkK (E.1 - i) E.2 = 1 := by unfold lkK; rw [if_neg h5, if_pos h6]
          rw [k1] at fD
          obtain ⟨N', q1, q2, q3⟩ := hbig (by omega)
          have q5 : E.1 - (i + 1) = 5 := by omega
          rw [q5] at q2 q3
          have hw : nwR 13 0 E.2 = 1 := by
            refine nwR_one E.2 13 0 (by omega) (fun k hk z => ?_)
            have s1 := wd_small k hk
            rw [z, q1, Int64.toInt_ofNat_of_lt (Nat.lt_of_lt_of_le q3 (by decide))] at s1
            have s2 : 97 * 256 ^ 5 ≤ N' := Nat.le_trans (Nat.mul_le_mul_right _ g1) q2
            have s3 : (2 : Nat) ^ 40 ≤ 97 * 256 ^ 5 := by decide
            have s4 : ((2 ^ 40 : Nat) : Int) = 2 ^ 40 := by decide
            omega
          rw [hw] at fC
          exact ⟨1, E.1, _, E.2, E.2, by omega, by omega, rfl, by decide, fC, fD, fun q => by omega, fun _ => rfl, fun _ => ⟨N0, b1, b4, b5⟩, by show i + 1 ≤ E.1; omega⟩
      · rw [if_neg (fun q => h6 (c6.mp q))] at fC
        have k1 : lkK (E.1 - i) Q.2 = 9 := by unfold lkK; rw [if_neg (by omega), if_neg h6]
        rw [k1] at fD
        exact ⟨3, E.1, _, E.2, Q.2, by omega, by omega, rfl, by decide, fC, fD, fun q => by omega, fun q => by omega, fun q => by omega, by show i + 1 ≤ E.1; omega⟩
    | false =>
      rw [hda] at eC eD
      obtain ⟨r1, hr1, hr2⟩ := sg_ix_at hn C
      have fC0 : f_X9_readAt fu (nI L) (nI i) C = (if (r1 : Int32) < 0 then ((f_X9_add 3 (nI i) 0 C).bind (fun qS13 => some (nI i + 1, qS13.2))) else ((f_X9_add (nI (t i)) (nI i) 0 C).bind (fun qS16 => some (nI i + 1, qS16.2)))) := by
        rw [eC]
        show ((f_sg_indexOf (nI (t i)) C).bind (fun qS9 => if (qS9.1 : Int32) < 0 then ((f_X9_add 3 (nI i) 0 qS9.2).bind (fun qS13 => some (nI i + 1, qS13.2))) else ((f_X9_add (nI (t i)) (nI i) 0 qS9.2).bind (fun qS16 => some (nI i + 1, qS16.2))))) = _
        rw [hr1]
        rfl
      have fD0 : f_X11_oneToken fu (nI i) D = (if (nI (t i) = 40 ∨ nI (t i) = 41 ∨ nI (t i) = 91 ∨ nI (t i) = 93 ∨ nI (t i) = 44 ∨ nI (t i) = 59 ∨ nI (t i) = 61 ∨ nI (t i) = 60 ∨ nI (t i) = 43 ∨ nI (t i) = 45 ∨ nI (t i) = 42 ∨ nI (t i) = 47 ∨ nI (t i) = 37 ∨ nI (t i) = 38 ∨ nI (t i) = 124 ∨ nI (t i) = 33) then ((f_X11_token 3 (nI (t i)) (nI i) 0 D).bind (fun q => some (nI i + 1, q.2))) else ((f_X11_token 9 (nI (t i)) (nI i) 0 D).bind (fun q => some (nI i + 1, q.2)))) := by
        rw [eD]
        exact sgch (nI (t i)) _ _
      cases hsg : sg_is (t i) with
      | true =>
        rw [if_neg (fun q => by have := hr2.mp q; rw [hsg] at this; cases this), tk_add hj hC, n1] at fC0
        rw [if_pos ((sg_or hn).mpr hsg), rk_add (by omega) hD, n1] at fD0
        obtain ⟨-, -, g3⟩ := sg_cls hn hsg
        obtain ⟨a1, a2⟩ := tkK_sg g3
        refine ⟨t i, i + 1, nI (t i), 0, 0, by omega, by omega, ?_, by omega, fC0, ?_, fun _ => by rw [a2], fun _ => rfl, fun q => by omega, by rw [wl_1 (by omega)]; omega⟩
        · unfold TkN; rw [hsg, Bool.or_true]
        · rw [a1]; exact fD0
      | false =>
        rw [if_pos (hr2.mpr hsg), tk_add hj hC, n1] at fC0
        rw [if_neg (fun q => by have := (sg_or hn).mp q; rw [hsg] at this; cases this), rk_add (by omega) hD, n1] at fD0
        exact ⟨3, i + 1, nI (t i), 0, 0, by omega, by omega, rfl, by decide, fC0, fD0, fun q => by omega, fun q => by omega, fun q => by omega, by show i + 1 ≤ i + 1; omega⟩
