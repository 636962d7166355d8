/-! whether a function takes numbers -/
section TKN
variable {K pl : Nat → Nat} {V : Nat → Int64} {y : TR} {e : Nat} {N M L : Nat → Nat} {n ρ τ : Nat} {G : im_S} {q0 cnt ii : Nat} {xf : TR} {S : im_S} {fu : Nat}
theorem tkn_L (hc4 : cnt ≤ 4) (hA : CAg G S) (hty : ∀ z, z < cnt → G.1 8 (N (q0 + 2 + 2 * z)) = nI (tvV (V (q0 + 2 + 2 * z)))) {z1 : Int32} : ∀ (d u nf : Nat) (w : Int32), d + u = cnt → d < nf → Chn G w ((pms (q0 + 2 + 2 * u) d).map N) → ((∀ z, u ≤ z → z < cnt → tvV (V (q0 + 2 + 2 * z)) = 1) → f_X3_takesNumbers_L12 fu nf z1 w (nI u) S = some (1, S)) ∧ (¬ (∀ z, u ≤ z → z < cnt → tvV (V (q0 + 2 + 2 * z)) = 1) → f_X3_takesNumbers_L12 fu nf z1 w (nI u) S = some (0, S)) := by
  intro d
  induction d with
  | zero =>
    intro u nf w hd hnf hch
    obtain ⟨nf, rfl⟩ : ∃ q, nf = q + 1 := ⟨nf - 1, by omega⟩
    have hw : w = -1 := hch
    refine ⟨fun _ => ?_, fun q => absurd (fun z q1 q2 => by omega) q⟩
    rw [f_X3_takesNumbers_L12]
    by_cases c4 : (4 : Int32) ≤ nI u
    · rw [if_pos c4, if_neg (fun q => q hw)]
    · rw [if_neg c4, if_pos hw, if_neg (fun q => q hw)]
  | succ d ih =>
    intro u nf w hd hnf hch
    obtain ⟨nf, rfl⟩ : ∃ q, nf = q + 1 := ⟨nf - 1, by omega⟩
    obtain ⟨hw, hN, hch⟩ := hch
    have hw : w = nI (N (q0 + 2 + 2 * u)) := hw
    have hN : N (q0 + 2 + 2 * u) < 512 := hN
    have hch : Chn G (G.1 14 (N (q0 + 2 + 2 * u))) ((pms (q0 + 2 + 2 * u + 2) d).map N) := hch
    have n4 : ¬ (4 : Int32) ≤ nI u := fun q => by
      have := (mI_le (a := 4) (b := u) (by omega) (by omega)).mp q
      omega
    have hm1 := nI_m1 (show N (q0 + 2 + 2 * u) < 2 ^ 31 by omega)
    have e42 : S.1 42 (N (q0 + 2 + 2 * u)) = nI (tvV (V (q0 + 2 + 2 * u))) := (hA 8 _ (by omega) (by omega)).1.trans (hty u (by omega))
    have e48 : S.1 48 (N (q0 + 2 + 2 * u)) = G.1 14 (N (q0 + 2 + 2 * u)) := (hA 14 _ (by omega) (by omega)).1
    have htv := tvV_r (V (q0 + 2 + 2 * u))
    have e1 : nI (tvV (V (q0 + 2 + 2 * u))) = 1 ↔ tvV (V (q0 + 2 + 2 * u)) = 1 := nI_eq (a := tvV (V (q0 + 2 + 2 * u))) (b := 1) (by omega) (by omega)
    have step : f_X3_takesNumbers_L12 fu (nf + 1) z1 w (nI u) S = (if nI (tvV (V (q0 + 2 + 2 * u))) ≠ 1 then some (0, S) else f_X3_takesNumbers_L12 fu nf z1 (G.1 14 (N (q0 + 2 + 2 * u))) (nI (u + 1)) S) := by
      rw [hw, f_X3_takesNumbers_L12, if_neg n4, if_neg hm1, mI_in (a := N (q0 + 2 + 2 * u)) (n := 512) (by omega) hN, nI_clamp (show N (q0 + 2 + 2 * u) < 2 ^ 31 by omega), e42, e48, if_pos hm1, show nI u + 1 = nI (u + 1) from nI_add u 1]
      simp only [gd_t]
    obtain ⟨i1, i2⟩ := ih (u + 1) nf (G.1 14 (N (q0 + 2 + 2 * u))) (by omega) (by omega) (by rw [show q0 + 2 + 2 * (u + 1) = q0 + 2 + 2 * u + 2 by omega]; exact hch)
    rw [step]
    refine ⟨fun q => ?_, fun q => ?_⟩
    · rw [if_neg (fun q' => q' (e1.mpr (q u (Nat.le_refl _) (by omega))))]
      exact i1 (fun z q1 q2 => q z (by omega) q2)
    · by_cases c : tvV (V (q0 + 2 + 2 * u)) = 1
      · rw [if_neg (fun q' => q' (e1.mpr c))]
        refine i2 (fun q' => q (fun z q1 q2 => ?_))
        rcases Nat.lt_or_ge u z with q3 | q3
        · exact q' z q3 q2
        · rw [show z = u by omega]
          exact c
      · rw [if_pos (fun q' => c (e1.mp q'))]
theorem tkn (C : CGd K pl V y e N M L n ρ τ G) (hA : CAg G S) (hfu : 1000 ≤ fu) (hi : (fuP y)[ii]? = some (q0, cnt, xf)) (hii : ii < 8) : ((∀ z, z < cnt → tvV (V (q0 + 2 + 2 * z)) = 1) → f_X3_takesNumbers fu (nI ii) S = some (1, S)) ∧ (¬ (∀ z, z < cnt → tvV (V (q0 + 2 + 2 * z)) = 1) → f_X3_takesNumbers fu (nI ii) S = some (0, S)) := by
  obtain ⟨y1, y2, y3, y4, y5, y6, y7, y8, y9, y10, y11, y12⟩ := cf_P C hi
  obtain ⟨h1, h2⟩ := tkn_L (fu := fu) (z1 := nI ii) (V := V) y7 hA (fun z hz => (y9 _ (pms_of cnt (q0 + 2) z hz)).1.2.2.1) cnt 0 fu (G.1 25 ii) rfl (by omega) (by rw [show q0 + 2 + 2 * 0 = q0 + 2 by omega]; exact y8)
  have e1 : f_X3_takesNumbers fu (nI ii) S = f_X3_takesNumbers_L12 fu fu (nI ii) (G.1 25 ii) (nI 0) S := by
    unfold f_X3_takesNumbers
    rw [mI_in (a := ii) (n := 8) (by omega) hii, nI_clamp (show ii < 2 ^ 31 by omega), (hA 25 ii (by omega) (by omega)).1]
    rfl
  rw [e1]
  exact ⟨fun q => h1 (fun z _ q2 => q z q2), fun q => h2 (fun q' => q (fun z q2 => q' z (Nat.zero_le _) q2))⟩
end TKN
