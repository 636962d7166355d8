/-! the class's tokens: a whole text is read -/
theorem uJ_1 (S : im_S) (i k : Nat) (v : Int64) : (uJ S i k v).1 = S.1 := rfl
theorem tk_size (S : im_S) (j : Nat) (k p : Int32) (n : Int64) : (tk_put S j k p n).1 30 3 = nI (j + 1) := by
  unfold tk_put
  rw [uI_at, if_pos rfl, if_pos rfl]
theorem tk_keep (S : im_S) (j : Nat) (k p : Int32) (n : Int64) (i h : Nat) (h1 : i ≠ 30) (h2 : i ≠ 31) (h3 : i ≠ 32) : (tk_put S j k p n).1 i h = S.1 i h := by
  unfold tk_put
  rw [uI_at, if_neg h1, uJ_1, uI_at, if_neg h3, uI_at, if_neg h2]
theorem tk_read {fu L : Nat} (hfu : 501 ≤ fu) (hL : L ≤ 500) : ∀ (d nf c f j : Nat) (S : im_S), c + d = L → d < nf → f ≤ L → j ≤ c → S.1 30 3 = nI j → (∀ i, i < L → ∃ n, n < 127 ∧ S.1 1 i = nI n) →
    ∃ S' : im_S, f_X9_read_L10 fu nf (nI L) (nI f) (nI c) S = some ((), S') ∧ ∀ i h : Nat, i ≠ 30 → i ≠ 31 → i ≠ 32 → S'.1 i h = S.1 i h := by
  intro d
  induction d with
  | zero =>
    intro nf c f j S hc hn hf hj hs ht
    obtain ⟨nf, rfl⟩ : ∃ z, nf = z + 1 := ⟨nf - 1, by omega⟩
    have hle : nI L ≤ nI c := (mI_le (a := L) (b := c) (by omega) (by omega)).mpr (by omega)
    refine ⟨tk_put S j 0 (nI L) 0, ?_, fun i h a b e => tk_keep S j 0 (nI L) 0 i h a b e⟩
    rw [f_X9_read_L10, if_pos hle, tk_add (by omega) hs]
    rfl
  | succ d ih =>
    intro nf c f j S hc hn hf hj hs ht
    obtain ⟨nf, rfl⟩ : ∃ z, nf = z + 1 := ⟨nf - 1, by omega⟩
    have hlt : ¬ nI L ≤ nI c := fun q => by have := (mI_le (a := L) (b := c) (by omega) (by omega)).mp q; omega
    by_cases hfl : f = L
    · have hle : nI L ≤ nI f := (mI_le (a := L) (b := f) (by omega) (by omega)).mpr (by omega)
      refine ⟨tk_put S j 0 (nI L) 0, ?_, fun i h a b e => tk_keep S j 0 (nI L) 0 i h a b e⟩
      rw [f_X9_read_L10, if_neg hlt, if_pos hle, tk_add (by omega) hs]
      rfl
    · have hnl : ¬ nI L ≤ nI f := fun q => by have := (mI_le (a := L) (b := f) (by omega) (by omega)).mp q; omega
      by_cases hsp : (S.1 1 (nI f).toNatClampNeg : Int32) ≠ 32
      · obtain ⟨n, hn1, hn2⟩ := ht f (by omega)
        obtain ⟨e, k, v, e1, e2, e3⟩ := tk_at hfu (by omega) hs hL (show f < L by omega) hn1 hn2
        obtain ⟨S', g1, g2⟩ := ih nf (c + 1) e (j + 1) (tk_put S j k (nI f) v) (by omega) (by omega) e2 (by omega) (tk_size S j k (nI f) v) (fun i hi => by rw [tk_keep S j k (nI f) v 1 i (by decide) (by decide) (by decide)]; exact ht i hi)
        refine ⟨S', ?_, fun i h a b z => (g2 i h a b z).trans (tk_keep S j k (nI f) v i h a b z)⟩
        rw [f_X9_read_L10, if_neg hlt, if_neg hnl, mI_in (a := f) (n := 500) (by omega) (by omega), if_pos hsp, e3]
        show f_X9_read_L10 fu nf (nI L) (nI e) (nI c + nI 1) (tk_put S j k (nI f) v) = _
        rw [nI_add]
        exact g1
      · obtain ⟨S', g1, g2⟩ := ih nf (c + 1) (f + 1) j S (by omega) (by omega) (by omega) (by omega) hs ht
        refine ⟨S', ?_, g2⟩
        rw [f_X9_read_L10, if_neg hlt, if_neg hnl, mI_in (a := f) (n := 500) (by omega) (by omega), if_neg hsp]
        show f_X9_read_L10 fu nf (nI L) (nI f + nI 1) (nI c + nI 1) S = _
        rw [nI_add, nI_add]
        exact g1
