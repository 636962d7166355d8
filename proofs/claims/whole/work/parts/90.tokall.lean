/-! the whole text: class and reference read the same tokens, up to the first that is none -/
theorem tk_31 (S : im_S) (j : Nat) (k p : Int32) (n : Int64) (h : Nat) : (tk_put S j k p n).1 31 h = if h = j then k else S.1 31 h := by
  unfold tk_put
  simp [uI_at, uJ_1]
theorem tk_32 (S : im_S) (j : Nat) (k p : Int32) (n : Int64) (h : Nat) : (tk_put S j k p n).1 32 h = if h = j then p else S.1 32 h := by
  unfold tk_put
  simp [uI_at, uJ_1]
theorem uJ_at (S : im_S) (i k : Nat) (v : Int64) (j h : Nat) : (uJ S i k v).2.1 j h = if j = i then (if h = k then v else S.2.1 j h) else S.2.1 j h := by
  show va_up S.2.1 i (vp_updL (S.2.1 i) k v) j h = _
  by_cases e : j = i
  · subst e
    rw [va_up_self, if_pos rfl]
    rfl
  · rw [va_up_ne _ _ e, if_neg e]
theorem uI_21 (S : im_S) (i k : Nat) (v : Int32) : (uI S i k v).2.1 = S.2.1 := rfl
theorem tk_33 (S : im_S) (j : Nat) (k p : Int32) (n : Int64) (h : Nat) : (tk_put S j k p n).2.1 33 h = if h = j then n else S.2.1 33 h := by
  unfold tk_put
  rw [uI_21, uJ_at, if_pos rfl, uI_21, uI_21]
theorem rk_77 (S : im_S) (j : Nat) (k c p : Int32) (n : Int64) (h : Nat) : (rk_put S j k c p n).1 77 h = if h = j then k else S.1 77 h := by
  unfold rk_put
  simp [uI_at, uJ_1]
theorem rk_78 (S : im_S) (j : Nat) (k c p : Int32) (n : Int64) (h : Nat) : (rk_put S j k c p n).1 78 h = if h = j then c else S.1 78 h := by
  unfold rk_put
  simp [uI_at, uJ_1]
theorem rk_79 (S : im_S) (j : Nat) (k c p : Int32) (n : Int64) (h : Nat) : (rk_put S j k c p n).1 79 h = if h = j then p else S.1 79 h := by
  unfold rk_put
  simp [uI_at, uJ_1]
theorem rk_80 (S : im_S) (j : Nat) (k c p : Int32) (n : Int64) (h : Nat) : (rk_put S j k c p n).2.1 80 h = if h = j then n else S.2.1 80 h := by
  unfold rk_put
  rw [uI_21, uJ_at, if_pos rfl, uI_21, uI_21, uI_21]
theorem rk_size (S : im_S) (j : Nat) (k c p : Int32) (n : Int64) : (rk_put S j k c p n).1 75 5 = nI (j + 1) := by
  unfold rk_put
  rw [uI_at, if_pos rfl, if_pos rfl]
theorem rk_keep (S : im_S) (j : Nat) (k c p : Int32) (n : Int64) (i h : Nat) (h1 : i ≠ 77) (h2 : i ≠ 78) (h3 : i ≠ 79) (h4 : i ≠ 75 ∨ h ≠ 5) : (rk_put S j k c p n).1 i h = S.1 i h := by
  unfold rk_put
  rw [uI_at]
  by_cases e : i = 75
  · rw [if_pos e, if_neg (by omega), uJ_1, uI_at, if_neg h3, uI_at, if_neg h2, uI_at, if_neg h1]
  · rw [if_neg e, uJ_1, uI_at, if_neg h3, uI_at, if_neg h2, uI_at, if_neg h1]
/-- the class's reading keeps the tokens that it has -/
theorem tk_read2 {fu L : Nat} (hfu : 501 ≤ fu) (hL : L ≤ 500) : ∀ (d nf c f j : Nat) (S : im_S), c + d = L → d < nf → f ≤ L → j ≤ c → S.1 30 3 = nI j → (∀ i, i < L → ∃ n, n < 127 ∧ S.1 1 i = nI n) →
    ∃ S' : im_S, f_X9_read_L10 fu nf (nI L) (nI f) (nI c) S = some ((), S') ∧ ∀ h : Nat, h < j → S'.1 31 h = S.1 31 h ∧ S'.1 32 h = S.1 32 h ∧ S'.2.1 33 h = S.2.1 33 h := by
  intro d
  induction d with
  | zero =>
    intro nf c f j S hc hn hf hj hs ht
    obtain ⟨nf, rfl⟩ : ∃ z, nf = z + 1 := ⟨nf - 1, by omega⟩
    have hle : nI L ≤ nI c := (mI_le (a := L) (b := c) (by omega) (by omega)).mpr (by omega)
    refine ⟨tk_put S j 0 (nI L) 0, ?_, fun h hh => ?_⟩
    · rw [f_X9_read_L10, if_pos hle, tk_add (by omega) hs]
      rfl
    · rw [tk_31, tk_32, tk_33, if_neg (by omega), if_neg (by omega), if_neg (by omega)]
      exact ⟨rfl, rfl, rfl⟩
  | succ d ih =>
    intro nf c f j S hc hn hf hj hs ht
    obtain ⟨nf, rfl⟩ : ∃ z, nf = z + 1 := ⟨nf - 1, by omega⟩
    have hlt : ¬ nI L ≤ nI c := fun q => by have := (mI_le (a := L) (b := c) (by omega) (by omega)).mp q; omega
    by_cases hfl : f = L
    · have hle : nI L ≤ nI f := (mI_le (a := L) (b := f) (by omega) (by omega)).mpr (by omega)
      refine ⟨tk_put S j 0 (nI L) 0, ?_, fun h hh => ?_⟩
      · rw [f_X9_read_L10, if_neg hlt, if_pos hle, tk_add (by omega) hs]
        rfl
      · rw [tk_31, tk_32, tk_33, if_neg (by omega), if_neg (by omega), if_neg (by omega)]
        exact ⟨rfl, rfl, rfl⟩
    · have hnl : ¬ nI L ≤ nI f := fun q => by have := (mI_le (a := L) (b := f) (by omega) (by omega)).mp q; omega
      by_cases hsp : (S.1 1 (nI f).toNatClampNeg : Int32) ≠ 32
      · obtain ⟨n, hn1, hn2⟩ := ht f (by omega)
        obtain ⟨e, k, v, e1, e2, e3⟩ := tk_at hfu (by omega) hs hL (show f < L by omega) hn1 hn2
        obtain ⟨S', g1, g2⟩ := ih nf (c + 1) e (j + 1) (tk_put S j k (nI f) v) (by omega) (by omega) e2 (by omega) (tk_size S j k (nI f) v) (fun i hi => by rw [tk_keep S j k (nI f) v 1 i (by decide) (by decide) (by decide)]; exact ht i hi)
        refine ⟨S', ?_, fun h hh => ?_⟩
        · rw [f_X9_read_L10, if_neg hlt, if_neg hnl, mI_in (a := f) (n := 500) (by omega) (by omega), if_pos hsp, e3]
          show f_X9_read_L10 fu nf (nI L) (nI e) (nI c + nI 1) (tk_put S j k (nI f) v) = _
          rw [nI_add]
          exact g1
        · have := g2 h (by omega)
          rw [tk_31, tk_32, tk_33, if_neg (by omega), if_neg (by omega), if_neg (by omega)] at this
          exact this
      · obtain ⟨S', g1, g2⟩ := ih nf (c + 1) (f + 1) j S (by omega) (by omega) (by omega) (by omega) hs ht
        refine ⟨S', ?_, g2⟩
        rw [f_X9_read_L10, if_neg hlt, if_neg hnl, mI_in (a := f) (n := 500) (by omega) (by omega), if_neg hsp]
        show f_X9_read_L10 fu nf (nI L) (nI f + nI 1) (nI c + nI 1) S = _
        rw [nI_add, nI_add]
        exact g1
/-- token h is the same in class and reference: its kind n (in the class's numbers) and its place p -/
def RelAt (C D : im_S) (h n p : Nat) : Prop := TkN n = true ∧ C.1 31 h = nI n ∧ D.1 77 h = nI (tkK n) ∧ (4 ≤ n → D.1 78 h = nI (tkC n)) ∧ ((n = 1 ∨ n = 2) → C.2.1 33 h = D.2.1 80 h) ∧ C.1 32 h = nI p ∧ D.1 79 h = nI p
/-- the tokens from number j on, of the text from f on: the last is m -/
def TokR (C D : im_S) (L f j m : Nat) : Prop := j ≤ m ∧ ∃ tn pl : Nat → Nat, (∀ h, j ≤ h → h ≤ m → RelAt C D h (tn h) (pl h) ∧ f ≤ pl h ∧ pl h ≤ L) ∧ (∀ h, j ≤ h → h < m → tn h ≠ 0 ∧ tn h ≠ 3 ∧ pl h + wl (tn h) ≤ pl (h + 1) ∧ (tn h = 1 → ∃ N : Nat, C.2.1 33 h = Int64.ofNat N ∧ 97 ≤ N ∧ N < 256 ^ 6)) ∧ ((tn m = 0 ∧ pl m = L) ∨ tn m = 3)
theorem tkK_9 {n : Nat} (h : tkK n = 9) : n = 3 := by
  unfold tkK at h
  by_cases h0 : n = 0
  · rw [if_pos h0] at h; omega
  rw [if_neg h0] at h
  by_cases h1 : n = 1
  · rw [if_pos h1] at h; omega
  rw [if_neg h1] at h
  by_cases h2 : n = 2
  · rw [if_pos h2] at h; omega
  rw [if_neg h2] at h
  by_cases h3 : n = 3
  · exact h3
  rw [if_neg h3] at h
  by_cases h4 : n ≤ 16
  · rw [if_pos h4] at h; omega
  rw [if_neg h4] at h
  omega
theorem tkK_lt (n : Nat) : tkK n < 10 := by
  unfold tkK
  by_cases h0 : n = 0
  · rw [if_pos h0]; omega
  rw [if_neg h0]
  by_cases h1 : n = 1
  · rw [if_pos h1]; omega
  rw [if_neg h1]
  by_cases h2 : n = 2
  · rw [if_pos h2]; omega
  rw [if_neg h2]
  by_cases h3 : n = 3
  · rw [if_pos h3]; omega
  rw [if_neg h3]
  by_cases h4 : n ≤ 16
  · rw [if_pos h4]; omega
  rw [if_neg h4]
  omega
theorem tok_all {fu L : Nat} (hfu : 501 ≤ fu) (hL : L ≤ 500) {t : Nat → Nat} : ∀ (d nf nf' c f j : Nat) (C D : im_S), f + d = L → L < nf + c → d + 1 < nf' → c ≤ f → j ≤ c → C.1 30 3 = nI j → D.1 75 5 = nI j → D.1 75 2 = nI L → (∀ i, i < L → t i < 127 ∧ C.1 1 i = nI (t i)) → (∀ i, i < L → t i < 127 ∧ D.1 76 i = nI (t i)) →
    ∃ (C' D' : im_S) (m : Nat), f_X9_read_L10 fu nf (nI L) (nI f) (nI c) C = some ((), C') ∧ f_X11_tokenize_L9 fu nf' (nI f) 1 D = some ((), D') ∧ TokR C' D' L f j m ∧ m ≤ j + d ∧ (∀ h, h < j → C'.1 31 h = C.1 31 h ∧ C'.1 32 h = C.1 32 h ∧ C'.2.1 33 h = C.2.1 33 h) ∧ (∀ h, h < j → D'.1 77 h = D.1 77 h ∧ D'.1 78 h = D.1 78 h ∧ D'.1 79 h = D.1 79 h ∧ D'.2.1 80 h = D.2.1 80 h) := by
  intro d
  induction d using Nat.strongRecOn with
  | _ d ih =>
    intro nf nf' c f j C D hd hnf hnf' hcf hj hC hD hD2 htC htD
    obtain ⟨nf, rfl⟩ : ∃ z, nf = z + 1 := ⟨nf - 1, by omega⟩
    obtain ⟨nf', rfl⟩ : ∃ z, nf' = z + 1 := ⟨nf' - 1, by omega⟩
    by_cases hz : d = 0
    · have hle : nI L ≤ nI f := (mI_le (a := L) (b := f) (by omega) (by omega)).mpr (by omega)
      refine ⟨tk_put C j 0 (nI L) 0, rk_put D j 0 0 (nI L) 0, j, ?_, ?_, ?_, by omega, fun h hh => ?_, fun h hh => ?_⟩
      · rw [f_X9_read_L10]
        by_cases hc : nI L ≤ nI c
        · rw [if_pos hc, tk_add (by omega) hC]; rfl
        · rw [if_neg hc, if_pos hle, tk_add (by omega) hC]; rfl
      · rw [f_X11_tokenize_L9, if_neg (by decide), hD2, if_pos hle, rk_add (by omega) hD]
        rfl
      · refine ⟨Nat.le_refl _, fun _ => 0, fun _ => L, fun h h1 h2 => ?_, fun h h1 h2 => by omega, .inl ⟨rfl, rfl⟩⟩
        have e : h = j := by omega
        subst e
        have hr : RelAt (tk_put C h 0 (nI L) 0) (rk_put D h 0 0 (nI L) 0) h 0 L := by
          refine ⟨rfl, ?_, ?_, fun q => absurd q (by decide), fun q => absurd q (by decide), ?_, ?_⟩
          · rw [tk_31, if_pos rfl]; rfl
          · rw [rk_77, if_pos rfl]; rfl
          · rw [tk_32, if_pos rfl]
          · rw [rk_79, if_pos rfl]
        exact ⟨hr, by show f ≤ L; omega, Nat.le_refl _⟩
      · rw [tk_31, tk_32, tk_33, if_neg (by omega), if_neg (by omega), if_neg (by omega)]
        exact ⟨rfl, rfl, rfl⟩
      · rw [rk_77, rk_78, rk_79, rk_80, if_neg (by omega), if_neg (by omega), if_neg (by omega), if_neg (by omega)]
        exact ⟨rfl, rfl, rfl, rfl⟩
    · have hfL : f < L := by omega
      have h1 : ¬ nI L ≤ nI c := fun q => by have := (mI_le (a := L) (b := c) (by omega) (by omega)).mp q; omega
      have h2 : ¬ nI L ≤ nI f := fun q => by have := (mI_le (a := L) (b := f) (by omega) (by omega)).mp q; omega
      have hcl : (nI f).toNatClampNeg = f := nI_clamp (by omega)
      obtain ⟨hn, hc⟩ := htC f hfL
      have n1 : nI f + 1 = nI (f + 1) := nI_add f 1
      have n2 : nI c + 1 = nI (c + 1) := nI_add c 1
      by_cases hb : (nI (t f) : Int32) ≠ 32
      · obtain ⟨n, e, rc, v, rv, e1, e2, e3, e4, eC, eD, e5, e6, e7, e8⟩ := tok_one hfu hL hfL (by omega) hC hD hD2 htC htD
        have sC : f_X9_read_L10 fu (nf + 1) (nI L) (nI f) (nI c) C = f_X9_read_L10 fu nf (nI L) (nI e) (nI (c + 1)) (tk_put C j (nI n) (nI f) v) := by
          rw [f_X9_read_L10, if_neg h1, if_neg h2, mI_in (a := f) (n := 500) (by omega) (by omega), hcl, hc]
          show (if (nI (t f) : Int32) ≠ 32 then ((f_X9_readAt fu (nI L) (nI f) C).bind (fun qS10 => f_X9_read_L10 fu nf (nI L) qS10.1 (nI c + 1) qS10.2)) else _) = _
          rw [if_pos hb, eC, n2]
          rfl
        have sD : f_X11_tokenize_L9 fu (nf' + 1) (nI f) 1 D = f_X11_tokenize_L9 fu nf' (nI e) (if n = 3 then 0 else 1) (rk_put D j (nI (tkK n)) rc (nI f) rv) := by
          rw [f_X11_tokenize_L9, if_neg (by decide), hD2, if_neg h2, ch_v hL hD2 htD (by omega), if_pos hfL]
          show (if (nI (t f) : Int32) ≠ 32 then ((f_X11_oneToken fu (nI f) D).bind (fun qS13 => gd (in_b ((qS13.2.1 75 5) - 1) 502) (if ((qS13.2.1 77) (((qS13.2.1 75 5) - 1).toNatClampNeg) : Int32) = 9 then (f_X11_tokenize_L9 fu nf' qS13.1 0 qS13.2) else (f_X11_tokenize_L9 fu nf' qS13.1 1 qS13.2)))) else _) = _
          rw [if_pos hb, eD]
          show gd (in_b (((rk_put D j (nI (tkK n)) rc (nI f) rv).1 75 5) - 1) 502) (if (((rk_put D j (nI (tkK n)) rc (nI f) rv).1 77) ((((rk_put D j (nI (tkK n)) rc (nI f) rv).1 75 5) - 1).toNatClampNeg) : Int32) = 9 then (f_X11_tokenize_L9 fu nf' (nI e) 0 (rk_put D j (nI (tkK n)) rc (nI f) rv)) else (f_X11_tokenize_L9 fu nf' (nI e) 1 (rk_put D j (nI (tkK n)) rc (nI f) rv))) = _
          rw [rk_size, nI_pred, mI_in (a := j) (n := 502) (by omega) (by omega), nI_clamp (by omega), rk_77, if_pos rfl]
          show (if (nI (tkK n) : Int32) = 9 then _ else _) = _
          by_cases h3 : n = 3
          · subst h3
            rw [if_pos (by decide), if_pos rfl]
          · have : ¬ (nI (tkK n) : Int32) = 9 := fun q => h3 (tkK_9 ((nI_eq (a := tkK n) (b := 9) (by have := tkK_lt n; omega) (by decide)).mp q))
            rw [if_neg this, if_neg h3]
        by_cases h3 : n = 3
        · -- no token: the reference stops
          obtain ⟨C', g1, g2⟩ := tk_read2 hfu hL (L - (c + 1)) nf (c + 1) e (j + 1) (tk_put C j (nI n) (nI f) v) (by omega) (by omega) e2 (by omega) (tk_size C j (nI n) (nI f) v) (fun i hi => ⟨t i, (htC i hi).1, by rw [tk_keep C j (nI n) (nI f) v 1 i (by decide) (by decide) (by decide)]; exact (htC i hi).2⟩)
          obtain ⟨nf', rfl⟩ : ∃ z, nf' = z + 1 := ⟨nf' - 1, by omega⟩
          refine ⟨C', rk_put (rk_put D j (nI (tkK n)) rc (nI f) rv) (j + 1) 0 0 (nI L) 0, j, ?_, ?_, ?_, by omega, fun h hh => ?_, fun h hh => ?_⟩
          · rw [sC]; exact g1
          · rw [sD, if_pos h3, f_X11_tokenize_L9, if_pos rfl, rk_keep _ _ _ _ _ _ 75 2 (by decide) (by decide) (by decide) (Or.inr (by decide)), hD2, rk_add (by omega) (rk_size D j _ rc _ rv)]
            rfl
          · refine ⟨Nat.le_refl _, fun _ => 3, fun _ => f, fun h k1 k2 => ?_, fun h k1 k2 => by omega, .inr rfl⟩
            have e : h = j := by omega
            subst e
            have q := g2 h (by omega)
            rw [tk_31, tk_32, if_pos rfl, if_pos rfl] at q
            have hr : RelAt C' (rk_put (rk_put D h (nI (tkK n)) rc (nI f) rv) (h + 1) 0 0 (nI L) 0) h 3 f := by
              refine ⟨rfl, ?_, ?_, fun q => absurd q (by decide), fun q => absurd q (by decide), ?_, ?_⟩
              · rw [q.1, h3]
              · rw [rk_77, if_neg (by omega), rk_77, if_pos rfl, h3]
              · exact q.2.1
              · rw [rk_79, if_neg (by omega), rk_79, if_pos rfl]
            exact ⟨hr, Nat.le_refl _, by show f ≤ L; omega⟩
          · have q := g2 h (by omega)
            rw [tk_31, tk_32, tk_33, if_neg (by omega), if_neg (by omega), if_neg (by omega)] at q
            exact q
          · rw [rk_77, rk_78, rk_79, rk_80, rk_77, rk_78, rk_79, rk_80, if_neg (by omega), if_neg (by omega), if_neg (by omega), if_neg (by omega), if_neg (by omega), if_neg (by omega), if_neg (by omega), if_neg (by omega)]
            exact ⟨rfl, rfl, rfl, rfl⟩
        · obtain ⟨C', D', m, g1, g2, g3, g4, g5, g6⟩ := ih (L - e) (by omega) nf nf' (c + 1) e (j + 1) (tk_put C j (nI n) (nI f) v) (rk_put D j (nI (tkK n)) rc (nI f) rv) (by omega) (by omega) (by omega) (by omega) (by omega) (tk_size C j (nI n) (nI f) v) (rk_size D j _ rc _ rv) (by rw [rk_keep _ _ _ _ _ _ 75 2 (by decide) (by decide) (by decide) (Or.inr (by decide))]; exact hD2) (fun i hi => ⟨(htC i hi).1, by rw [tk_keep C j (nI n) (nI f) v 1 i (by decide) (by decide) (by decide)]; exact (htC i hi).2⟩) (fun i hi => ⟨(htD i hi).1, by rw [rk_keep _ _ _ _ _ _ 76 i (by decide) (by decide) (by decide) (Or.inl (by decide))]; exact (htD i hi).2⟩)
          obtain ⟨k1, tn, pl, k2, k3, k4⟩ := g3
          have qC := g5 j (by omega)
          have qD := g6 j (by omega)
          rw [tk_31, tk_32, tk_33, if_pos rfl, if_pos rfl, if_pos rfl] at qC
          rw [rk_77, rk_78, rk_79, rk_80, if_pos rfl, if_pos rfl, if_pos rfl, if_pos rfl] at qD
          refine ⟨C', D', m, ?_, ?_, ?_, by omega, fun h hh => ?_, fun h hh => ?_⟩
          · rw [sC]; exact g1
          · rw [sD, if_neg h3]; exact g2
          · refine ⟨by omega, fun h => if h = j then n else tn h, fun h => if h = j then f else pl h, fun h p1 p2 => ?_, fun h p1 p2 => ?_, ?_⟩
            · by_cases hh : h = j
              · subst hh
                simp only [if_pos]
                exact ⟨⟨e3, qC.1, qD.1, fun q => by rw [qD.2.1]; exact e5 q, fun q => by rw [qC.2.2, qD.2.2.2]; exact e6 q, qC.2.1, qD.2.2.1⟩, Nat.le_refl _, by omega⟩
              · simp only [if_neg hh]
                have := k2 h (by omega) p2
                exact ⟨this.1, by omega, this.2.2⟩
            · by_cases hh : h = j
              · subst hh
                simp only [if_pos]
                rw [if_neg (by omega)]
                have := (k2 (h + 1) (by omega) (by omega)).2.1
                exact ⟨e4, h3, by omega, fun q => by rw [qC.2.2]; exact e7 q⟩
              · simp only [if_neg hh, if_neg (show ¬ h + 1 = j by omega)]
                exact k3 h (by omega) p2
            · simp only [if_neg (show ¬ m = j by omega)]
              exact k4
          · have q := g5 h (by omega)
            rw [tk_31, tk_32, tk_33, if_neg (by omega), if_neg (by omega), if_neg (by omega)] at q
            exact q
          · have q := g6 h (by omega)
            rw [rk_77, rk_78, rk_79, rk_80, if_neg (by omega), if_neg (by omega), if_neg (by omega), if_neg (by omega)] at q
            exact q
      · obtain ⟨C', D', m, g1, g2, g3, g4, g5, g6⟩ := ih (d - 1) (by omega) nf nf' (c + 1) (f + 1) j C D (by omega) (by omega) (by omega) (by omega) (by omega) hC hD hD2 htC htD
        obtain ⟨k1, tn, pl, k2, k3, k4⟩ := g3
        refine ⟨C', D', m, ?_, ?_, ⟨k1, tn, pl, fun h p1 p2 => ⟨(k2 h p1 p2).1, by have := (k2 h p1 p2).2.1; omega, (k2 h p1 p2).2.2⟩, k3, k4⟩, by omega, g5, g6⟩
        · rw [f_X9_read_L10, if_neg h1, if_neg h2, mI_in (a := f) (n := 500) (by omega) (by omega), hcl, hc]
          show (if (nI (t f) : Int32) ≠ 32 then _ else (f_X9_read_L10 fu nf (nI L) (nI f + 1) (nI c + 1) C)) = _
          rw [if_neg hb, n1, n2]
          exact g1
        · rw [f_X11_tokenize_L9, if_neg (by decide), hD2, if_neg h2, ch_v hL hD2 htD (by omega), if_pos hfL]
          show (if (nI (t f) : Int32) ≠ 32 then _ else (f_X11_tokenize_L9 fu nf' (nI f + 1) 1 D)) = _
          rw [if_neg hb, n1]
          exact g2
/-- the class's reading and the reference's, from the beginning -/
theorem tok_rel {fu L : Nat} (hfu : 503 ≤ fu) (hL : L ≤ 500) {t : Nat → Nat} {C D : im_S} (hD2 : D.1 75 2 = nI L) (htC : ∀ i, i < L → t i < 127 ∧ C.1 1 i = nI (t i)) (htD : ∀ i, i < L → t i < 127 ∧ D.1 76 i = nI (t i)) : ∃ (C' D' : im_S) (m : Nat), f_X9_read fu (nI L) C = some ((), C') ∧ f_X11_tokenize fu D = some ((), D') ∧ TokR C' D' L 0 0 m ∧ m ≤ L := by
  obtain ⟨C', D', m, g1, g2, g3, g4, -, -⟩ := tok_all (fu := fu) (by omega) hL (t := t) L fu fu 0 0 0 (uI C 30 3 0) (uI D 75 5 0) (by omega) (by omega) (by omega) (by omega) (by omega) (by rw [uI_at, if_pos rfl, if_pos rfl]; rfl) (by rw [uI_at, if_pos rfl, if_pos rfl]; rfl) (by rw [uI_at, if_pos rfl, if_neg (by decide)]; exact hD2) (fun i hi => by rw [uI_at, if_neg (by decide)]; exact htC i hi) (fun i hi => by rw [uI_at, if_neg (by decide)]; exact htD i hi)
  exact ⟨C', D', m, g1, g2, g3, by omega⟩
