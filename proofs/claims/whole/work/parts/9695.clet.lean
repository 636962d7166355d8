/-! the class's parser: let -/
section CLT
variable {K pl : Nat → Nat} {V : Nat → Int64} {m fu : Nat} {Q : Int32 → im_S → Prop} {S : im_S} {N M L : Nat → Nat} {pos dep sz n ρ τ f k R : Nat} {γ : List Nat}
theorem due0 (fu : Nat) (S : im_S) : dueF fu 0 S = f_X7_operand fu S := rfl
theorem pfc_let (j : Nat) (x y : TR) : pfc K pl V (aLet j x y) γ 0 [] [] = min (kb pl V γ (j + 1)) (min (pfc K pl V x γ 0 [] []) (min (ckX K pl V x (tvV (V (j + 1)))) (pfc K pl V y ((j + 1) :: γ) 0 [] []))) := rfl
theorem G_let (S : im_S) (N M L : Nat → Nat) (j : Nat) (x y : TR) : G K pl V S N M L (aLet j x y) γ R 0 0 .nil [] = (nd pl S N 11 (tyk K (fun i => tvV (V i)) y) 0 j R ∧ vr V S N (j + 1) ∧ S.1 17 (N (j + 1)) = S.1 27 R ∧ S.1 12 (N j) = nI (N (j + 1)) ∧ rl S N (rtk x) 4 j ∧ S.1 11 (N (rtk x)) = nI (N (j + 1)) ∧ rl S N (rtk y) 3 j ∧ G K pl V S N M L x γ R 0 0 .nil [] ∧ G K pl V S N M L y ((j + 1) :: γ) R 0 0 .nil []) := rfl
set_option maxHeartbeats 8000000 in
theorem k_let (T : TH K pl V m) (hfu : 600 ≤ fu) {Rr : Nat → PR} {p0 : Nat} (hRr : HXc K pl V m fu Rr dep p0) (hW : WR K Rr) (hB : Bg K pl V m S N M L pos dep sz γ n ρ τ f k R) (hd : S.1 3 7 = 0) (hdep : dep < 20) (hk10 : 10 ≤ k) (hk4 : K pos = 4) (hp0 : p0 ≤ pos + 1) :
    (∀ e, pLet K Rr pos = (e, none) → Rf pl e Q → Lp m fu pos S Q) ∧ ∀ e x, pLet K Rr pos = (e, some x) → Kx K pl V m S N M L pos dep sz γ n ρ τ f R e x (fun S' => FZ K m fu e sz S' Q) → Lp m fu pos S Q := by
  obtain ⟨C, hTp, hR, hpos⟩ := hB
  have hm := T.m_
  have hbd := C.1.bd
  have hpm := C.1.pm
  have hp := K_lt T.end_ hpm hk4 (by decide) (by decide)
  have hst := T.lt_ hp
  have hf := C.2.2.2.2.1
  obtain ⟨A1, a0, CA1, ndA, fz, rd, rd2, -, nl, fx⟩ := c_here T C hTp hR (Or.inl rfl) (Nat.le_refl _) (pl_B T hpm) hp 11 (by omega) 0 0
  have nl := nl (by omega)
  have hTp1 : Tp A1 sz k R := Tp_Fr CA1.2.2.2.2.2 hTp
  have en : ex N pos (n + 1) pos = n := by rw [ex_le (Nat.le_refl _)]; exact C.2.1.1
  have en1 : ex N pos (n + 1) (pos + 1) = n + 1 := ex_gt (by omega)
  have hk1l : K (pos + 1) < 127 := by have := (tkK_c _ (T.2.1 (pos + 1) (by omega)).2).2.2.2.2.2; omega
  have e1n : nI (K (pos + 1)) = (1 : Int32) ↔ K (pos + 1) = 1 := nI_eq (a := K (pos + 1)) (b := 1) (by omega) (by omega)
  have hop0 : dueF fu 0 S = ((if K (pos + 1) = 1 then ((f_X7_bindHere fu A1).bind (fun qS8 => ((f_X7_take 61 (uI qS8.2 12 n qS8.1)).bind (fun qS11 => if (qS11.1 : Int32) = 0 then (some (0, qS11.2)) else ((f_X6_topRegion qS11.2).bind (fun qS15 => (f_X7_open 14 (nI n) qS15.1 qS15.2).bind (fun qS18 => if (qS18.1 : Int32) = 0 then (some (0, qS18.2)) else (some (1, qS18.2))))))))) else some (0, rcS A1 (pl (pos + 1)))).bind (fun q => gd (z_b q.1) (some (q.1, q.2)))) := by
    rw [due0, op_4 T C.1 hd hdep hk4]
    unfold f_X7_openLet
    have b0 : f_X7_addHere 11 0 0 S = some (nI n, A1) := a0
    rw [b0]
    simp only [Option.bind_some]
    rw [c_kind T CA1.1]
    simp only [Option.bind_some, mI_in (a := n) (n := 512) (by omega) (by omega), nI_clamp (show n < 2 ^ 31 by omega), gd_t]
    by_cases h1 : K (pos + 1) = 1
    · rw [if_pos (e1n.mpr h1), if_pos h1]
    · rw [if_neg (fun z => h1 (e1n.mp z)), if_neg h1, c_refuse T CA1.1]
      rfl
  unfold pLet pw
  by_cases h1 : ¬ K (pos + 1) = 1
  · rw [if_neg h1]
    rw [if_neg h1] at hop0
    refine ⟨fun e he hRf => ?_, (fun e y he => by cases he)⟩
    cases he
    exact Lp_rf (d := 0) hd (by omega) hop0 (by omega) (Rf_rc hRf)
  have h1 : K (pos + 1) = 1 := Decidable.not_not.mp h1
  rw [if_pos h1]
  rw [if_pos h1] at hop0
  have hp1 : pos + 1 < m := K_lt T.end_ (by omega) h1 (by decide) (by decide)
  have hst1 : pl (pos + 1) + 1 ≤ pl (pos + 2) := T.lt_ hp1
  have B1 : pl pos + wk 11 = pl pos + 1 := rfl
  obtain ⟨A2, a2, CA2, ndV, fzV, rdV, rdV2, fxV⟩ := c_bind T CA1 hTp1 hR (Or.inl rfl) (by omega) (by rw [B1]; have := T.pl_ hpm; omega) hfu hp1 h1
  rw [a2] at hop0
  simp only [Option.bind_some] at hop0
  obtain ⟨N2, hN2⟩ : ∃ N2, N2 = ex (ex N pos (n + 1)) (pos + 1) (n + 1 + 1) := ⟨_, rfl⟩
  obtain ⟨M2, hM2⟩ : ∃ M2, M2 = ex (ex M pos ρ) (pos + 1) ρ := ⟨_, rfl⟩
  obtain ⟨L2, hL2⟩ : ∃ L2, L2 = ex (ex L pos τ) (pos + 1) τ := ⟨_, rfl⟩
  rw [← hN2] at ndV
  have hAg2 : Ag N M L N2 M2 L2 pos := by
    rw [hN2, hM2, hL2]
    exact Ag_tr (Ag_ex N M L pos (n + 1) ρ τ) (Ag_ex _ _ _ (pos + 1) (n + 1 + 1) ρ τ) (by omega)
  have eN2 : N2 pos = n := by rw [hN2, ex_le (by omega)]; exact en
  have eN2' : N2 (pos + 1) = n + 1 := by rw [hN2, ex_le (by omega)]; exact en1
  have eN2'' : N2 (pos + 2) = n + 2 := by rw [hN2, ex_gt (by omega)]
  have CA3 : Cz K pl V m S n ρ τ sz γ.length R (uI A2 12 n (nI (n + 1))) N2 M2 L2 (pos + 2) dep sz γ (n + 2) ρ τ (pl (pos + 2)) (min f (kb pl V γ (pos + 1))) := by
    rw [hN2, hM2, hL2]
    exact Cz_nd (Cz_B CA2 (show pl pos + wk 11 + 1 ≤ pl (pos + 2) by rw [B1]; omega)) (by omega) (by omega)
  rw [show (61 : Int32) = nI 61 from rfl, c_take T CA3.1 61 (by omega)] at hop0
  by_cases h61 : ¬ K (pos + 2) = 61
  · rw [if_neg h61]
    rw [if_neg h61] at hop0
    refine ⟨fun e he hRf => ?_, (fun e y he => by cases he)⟩
    cases he
    exact Lp_rf (d := 0) hd (by omega) hop0 (by omega) (Rf_rc hRf)
  have h61 : K (pos + 2) = 61 := Decidable.not_not.mp h61
  rw [if_pos h61]
  rw [if_pos h61] at hop0
  simp only [Option.bind_some] at hop0
  rw [if_neg (show ¬ (1 : Int32) = 0 by decide)] at hop0
  have hp2 : pos + 2 < m := K_lt T.end_ (by omega) h61 (by decide) (by decide)
  have hst2 : pl (pos + 2) + 1 ≤ pl (pos + 3) := T.lt_ hp2
  obtain ⟨sz', hsz'⟩ : ∃ z, sz = z + 1 := ⟨sz - 1, by have := hTp.1; omega⟩
  obtain ⟨A, hA⟩ : ∃ A, A = uI (psS (ad6 (uI A2 12 n (nI (n + 1))) (pos + 3)) sz 14 (nI n) (nI R)) 3 7 0 := ⟨_, rfl⟩
  obtain ⟨N3, hN3⟩ : ∃ N3, N3 = ex N2 (pos + 2) (n + 2) := ⟨_, rfl⟩
  obtain ⟨M3, hM3⟩ : ∃ M3, M3 = ex M2 (pos + 2) ρ := ⟨_, rfl⟩
  obtain ⟨L3, hL3⟩ : ∃ L3, L3 = ex L2 (pos + 2) τ := ⟨_, rfl⟩
  have hAg3 : Ag N2 M2 L2 N3 M3 L3 (pos + 2) := by rw [hN3, hM3, hL3]; exact Ag_ex N2 M2 L2 (pos + 2) (n + 2) ρ τ
  have CA : Cz K pl V m S n ρ τ sz γ.length R A N3 M3 L3 (pos + 3) dep (sz + 1) γ (n + 2) ρ τ (pl (pos + 3)) (min f (kb pl V γ (pos + 1))) := by
    rw [hA, hN3, hM3, hL3]
    exact Cz_3 (Cz_push (Cz_B (Cz_ad T CA3 hp2) (show pl (pos + 2) ≤ pl (pos + 3) by omega)) 14 (nI n) (nI R) (by omega) (Nat.le_refl _)) (by omega)
  have T34 : (ad6 (uI A2 12 n (nI (n + 1))) (pos + 3)).1 34 3 = nI sz := by unfold ad6; rw [uI_ne (by omega)]; exact CA3.1.sz_
  have T37 : (ad6 (uI A2 12 n (nI (n + 1))) (pos + 3)).1 37 sz' = nI R := by
    unfold ad6
    rw [uI_ne (by omega), uI_ne (by omega), rdV 37 sz' (by omega) (by omega) (by omega) (by omega) (by omega)]
    have := hTp1.2.2.2
    rw [hsz', Nat.add_sub_cancel] at this
    exact this
  have hop : dueF fu 0 S = some (1, A) := by
    rw [hop0, c_topR (sz := sz') (by rw [← hsz']; exact T34) (by omega), T37]
    simp only [Option.bind_some]
    unfold f_X7_open
    rw [c_push T34 (by omega)]
    simp only [Option.bind_some]
    rw [if_neg (show ¬ (1 : Int32) = 0 by decide), hA]
    rfl
  have rdA : ∀ a j : Nat, a ≠ 3 → (a < 34 ∨ 37 < a) → (a ≠ 12 ∨ j ≠ n) → A.1 a j = A2.1 a j := fun a j u1 u2 u3 => by
    rw [hA]; unfold ad6; rw [uI_ne (by omega), ps_ne (by omega), uI_ne (by omega), uI_ne (by omega)]
  have A7 : A.1 3 7 = 0 := by rw [hA, uI_eq]
  obtain ⟨p35, p36, p37, p34⟩ := ps_f (ad6 (uI A2 12 n (nI (n + 1))) (pos + 3)) sz 14 (nI n) (nI R)
  have A35 : A.1 35 sz = nI 14 := by rw [hA, uI_ne (by omega)]; exact p35
  have A36 : A.1 36 sz = nI n := by rw [hA, uI_ne (by omega)]; exact p36
  have A37 : A.1 37 sz = nI R := by rw [hA, uI_ne (by omega)]; exact p37
  have A12 : A.1 12 n = nI (n + 1) := by rw [hA]; unfold ad6; rw [uI_ne (by omega), ps_ne (by omega), uI_ne (by omega), uI_eq]
  -- the let's node and the variable's, as A has them
  have An : ∀ a : Nat, 7 ≤ a → a ≤ 20 → a ≠ 12 → A.1 a n = A1.1 a n := fun a u1 u2 u3 => by rw [rdA a n (by omega) (by omega) (by omega), rdV a n (by omega) (by omega) (by omega) (by omega) (by omega)]
  have Av : ∀ a : Nat, 7 ≤ a → a ≤ 20 → A.1 a (n + 1) = A2.1 a (n + 1) := fun a u1 u2 => rdA a (n + 1) (by omega) (by omega) (by omega)
  have A27 : A.1 27 R = A1.1 27 R := by rw [rdA 27 R (by omega) (by omega) (by omega), rdV 27 R (by omega) (by omega) (by omega) (by omega) (by omega)]
  have A26 : A.1 26 R = S.1 26 R := by rw [rdA 26 R (by omega) (by omega) (by omega), rdV 26 R (by omega) (by omega) (by omega) (by omega) (by omega)]; exact nl
  obtain ⟨v0, v1, v2, v3, v4, v5⟩ := ndV
  rw [eN2'] at v1 v2 v3 v4 v5
  obtain ⟨b0, b1, b2, b3, b4, b5⟩ := ndA
  rw [en] at b1 b2 b3 b4 b5
  have hBg : Bg K pl V m A N3 M3 L3 (pos + 3) dep (sz + 1) γ (n + 2) ρ τ (min f (kb pl V γ (pos + 1))) 14 R := ⟨Cz_base CA, ⟨by omega, by rw [Nat.add_sub_cancel]; exact A35, by omega, by rw [Nat.add_sub_cancel]; exact A37⟩, hR, by omega⟩
  have gA := CA.2.1
  have eN3 : N3 pos = n := by rw [(hAg3 pos (by omega)).1]; exact eN2
  have eN3' : N3 (pos + 1) = n + 1 := by rw [(hAg3 (pos + 1) (by omega)).1]; exact eN2'
  have eN3'' : N3 (pos + 2) = n + 2 := by rw [(hAg3 (pos + 2) (by omega)).1]; exact eN2''
  obtain ⟨hN, hS⟩ := hRr A N3 M3 L3 (pos + 3) (sz + 1) γ (n + 2) ρ τ (min f (kb pl V γ (pos + 1))) 14 R Q (by omega) hBg A7 (by omega)
  have hgo : Lp m fu (pos + 3) A Q → Lp m fu pos S Q := fun h => Lp_op (d := 0) hd (by omega) hop (by omega) (by omega) h
  rcases hr : Rr (pos + 3) with ⟨b, _ | x⟩
  · rw [pbd_none rfl]
    refine ⟨fun e he hRf => ?_, (fun e y he => by cases he)⟩
    cases he
    exact hgo (hN b hr hRf)
  rw [pbd_some rfl]
  obtain ⟨wx, -⟩ := hW _ _ _ hr
  have hxp := Wt_lt wx
  have hxr := Wt_rt wx
  have htx := tyx_lt K V x
  by_cases h5 : ¬ K b = 5
  · rw [if_neg h5]
    refine ⟨fun e he hRf => ?_, (fun e y he => by cases he)⟩
    cases he
    refine hgo (hS b x hr (fun S' N' M' L' n' ρ' τ' P' => ?_))
    have C' := P'.1
    have b35 : S'.1 35 sz = nI 14 := by rw [C'.2.2.2.2.2.2.2.2.2.1 35 sz (by omega) (by omega) (by omega)]; exact A35
    have hb2 := C'.1.bd
    have hpm2 := C'.1.pm
    refine FZ_cl hfu C'.1.sz_ (by omega) b35 (by omega) (by omega) (by omega) (r := 0) (S1 := rcS S' (pl b)) ?_ hpm2 (Or.inl ⟨rfl, Rf_rc hRf⟩) (pos1 := 0)
    rw [cl_14 C'.1.sz_ (by omega) b35, show (5 : Int32) = nI 5 from rfl, c_take T C'.1 5 (by omega), if_neg h5]
    rfl
  have h5 : K b = 5 := Decidable.not_not.mp h5
  rw [if_pos h5]
  -- the value is bound
  have key : (∀ (S' : im_S) (N' M' L' : Nat → Nat) (n' ρ' τ' kx : Nat) (D : im_S), b < m → PX K pl V m A N3 M3 L3 (pos + 3) dep (sz + 1) γ (n + 2) ρ τ (min f (kb pl V γ (pos + 1))) R S' N' M' L' n' ρ' τ' b x → N' (rtk x) = kx → n + 2 ≤ kx → kx < n' → ρ ≤ ρ' → τ ≤ τ' → Cz K pl V m S n ρ τ sz γ.length R D (ex N' b n') (ex M' b ρ') (ex L' b τ') (b + 1) dep (sz + 1) ((pos + 1) :: γ) n' ρ' τ' (pl (b + 1)) (min (min (min f (kb pl V γ (pos + 1))) (pfc K pl V x γ 0 [] [])) (ckX K pl V x (tvV (V (pos + 1))))) → D.1 3 7 = 0 → Fx S' D (n + 2) n' ρ' τ' R kx → (∀ a j : Nat, 7 ≤ a → a ≤ 20 → j < n + 2 → D.1 a j = A.1 a j) → (∀ j : Nat, j < n + 2 → D.2.1 21 j = A.2.1 21 j) → D.1 9 kx = 4 → D.1 10 kx = nI n → D.1 11 kx = nI (n + 1) → D.1 26 R = S'.1 26 R → D.1 27 R = A.1 27 R → D.1 35 sz = nI 15 → D.1 36 sz = nI n → D.1 37 sz = nI R → Lp m fu (b + 1) D Q) → Lp m fu pos S Q := by
    intro hc
    refine hgo (hS b x hr (fun S' N' M' L' n' ρ' τ' P' => ?_))
    have C' := P'.1
    have F' := C'.2.2.2.2.2
    have Fn := F'.1
    have hb2 := C'.1.bd
    have hpm2 := C'.1.pm
    have hbm := K_lt T.end_ hpm2 h5 (by decide) (by decide)
    have hstb := T.lt_ hbm
    obtain ⟨-, -, nz1, nz2, nz3, nz4, hn', hρ', hτ', -⟩ := PX_keep P' wx gA hR (by omega) (Fx_refl S' (n + 2) n' ρ' τ' R _) (fun j _ => ⟨rfl, rfl, rfl⟩)
    obtain ⟨zt0, zt8, ztT, ztB, ztS⟩ := P'.2.2.1
    obtain ⟨kx, hkx⟩ : ∃ kx, N' (rtk x) = kx := ⟨_, rfl⟩
    rw [hkx] at nz2 nz3 nz4 zt8 ztT ztB ztS
    have hkx5 : kx < 512 := by omega
    have b35 : S'.1 35 sz = nI 14 := by rw [F'.2.2.2.2.1 35 sz (by omega) (by omega) (by omega)]; exact A35
    have b36 : S'.1 36 sz = nI n := by rw [F'.2.2.2.2.1 36 sz (by omega) (by omega) (by omega)]; exact A36
    have t3 := tvV_r (V (pos + 1))
    obtain ⟨D1, hD1⟩ : ∃ D1, D1 = ckS (cnS (uI (ad6 S' (b + 1)) 34 3 (nI sz)) kx 4 (nI n) (nI (n + 1))) kx (nI (tvV (V (pos + 1)))) := ⟨_, rfl⟩
    have rD1 : ∀ a j : Nat, a ≠ 3 → (a ≠ 34 ∨ j ≠ 3) → a ≠ 5 → (j ≠ kx ∨ a < 9 ∨ 11 < a) → D1.1 a j = S'.1 a j := fun a j u1 u2 u3 u4 => by
      rw [hD1]; unfold ad6; rw [ck_ne (by omega), cn_ne (by omega), uI_ne (by omega), uI_ne (by omega)]
    have rD1l : D1.2.1 = S'.2.1 := by rw [hD1, ck_21]; rfl
    have C2 : Cz K pl V m S n ρ τ sz γ.length R S' N' M' L' b dep (sz + 1) γ n' ρ' τ' (pl b) (min (min f (kb pl V γ (pos + 1))) (pfc K pl V x γ 0 [] [])) := Cz_tr CA.2.2.2.2.2 C' (by omega) (by omega) (by omega) (by omega) (Nat.le_refl _) (Or.inl rfl)
    have CD1 : Cz K pl V m S n ρ τ sz γ.length R D1 (ex N' b n') (ex M' b ρ') (ex L' b τ') (b + 1) dep sz γ n' ρ' τ' (pl (b + 1)) (min (min (min f (kb pl V γ (pos + 1))) (pfc K pl V x γ 0 [] [])) (ckX K pl V x (tvV (V (pos + 1))))) := by
      rw [hD1]
      refine Cz_ck (b := bgk x) (ty := tyk K (tv V) x) (Cz_cn (Cz_pop (Cz_B (Cz_ad T C2 hbm) (show pl b ≤ pl (b + 1) by omega))) 4 (nI n) (nI (n + 1)) (by omega)) ?_ ?_ (T.pl_ (by omega)) htx (by omega)
      · unfold ad6; rw [cn_ne (by omega), uI_ne (by omega), uI_ne (by omega)]; exact ztT
      · unfold ad6; rw [cn_ne (by omega), uI_ne (by omega), uI_ne (by omega)]; exact ztB
    have D12 : S'.1 12 n = nI (n + 1) := by rw [Fn 12 n (by omega) (by omega) (by omega)]; exact A12
    have D8 : S'.1 8 (n + 1) = nI (tvV (V (pos + 1))) := by rw [Fn 8 (n + 1) (by omega) (by omega) (by omega), Av 8 (by omega) (by omega)]; exact v2
    have eNb : ex N' b n' (pos + 1) = n + 1 := by rw [ex_le (by omega), (P'.2.1 (pos + 1) (by omega)).1]; exact eN3'
    have D21 : D1.2.1 21 (ex N' b n' (pos + 1)) = V (pos + 1) := by rw [eNb, rD1l, F'.2.1 (n + 1) (by omega), hA]; exact v3
    have CD2 : Cz K pl V m S n ρ τ sz γ.length R (uI (uI D1 4 γ.length (nI (n + 1))) 3 5 (nI (γ.length + 1))) (ex N' b n') (ex M' b ρ') (ex L' b τ') (b + 1) dep sz ((pos + 1) :: γ) n' ρ' τ' (pl (b + 1)) (min (min (min f (kb pl V γ (pos + 1))) (pfc K pl V x γ 0 [] [])) (ckX K pl V x (tvV (V (pos + 1))))) := by
      have := Cz_know CD1 (b := pos + 1) (by omega) (by rw [eNb]; omega) D21 (by omega) (Nat.le_refl _) (by omega)
      rw [eNb] at this
      exact this
    obtain ⟨D, hD⟩ : ∃ D, D = uI (psS (uI (uI D1 4 γ.length (nI (n + 1))) 3 5 (nI (γ.length + 1))) sz 15 (nI n) (nI R)) 3 7 0 := ⟨_, rfl⟩
    have rD : ∀ a j : Nat, a ≠ 3 → a ≠ 4 → (a < 34 ∨ 37 < a) → D.1 a j = D1.1 a j := fun a j u1 u2 u3 => by
      rw [hD, uI_ne (by omega), ps_ne (by omega), uI_ne (by omega), uI_ne (by omega)]
    have CD : Cz K pl V m S n ρ τ sz γ.length R D (ex N' b n') (ex M' b ρ') (ex L' b τ') (b + 1) dep (sz + 1) ((pos + 1) :: γ) n' ρ' τ' (pl (b + 1)) (min (min (min f (kb pl V γ (pos + 1))) (pfc K pl V x γ 0 [] [])) (ckX K pl V x (tvV (V (pos + 1))))) := by
      rw [hD]
      exact Cz_3 (Cz_push CD2 15 (nI n) (nI R) (by omega) (Nat.le_refl _)) (by omega)
    have hcl : f_X7_close fu (nI (K b)) S' = some (1, D) := by
      rw [cl_14 C'.1.sz_ (by omega) b35, show (5 : Int32) = nI 5 from rfl, c_take T C'.1 5 (by omega), if_pos h5]
      simp only [Option.bind_some]
      rw [if_neg (show ¬ (1 : Int32) = 0 by decide)]
      unfold f_X7_endLetValue
      have c34 : (ad6 S' (b + 1)).1 34 3 = nI (sz + 1) := by unfold ad6; rw [uI_ne (by omega)]; exact C'.1.sz_
      have c36 : (ad6 S' (b + 1)).1 36 sz = nI n := by unfold ad6; rw [uI_ne (by omega)]; exact b36
      rw [c_pop c34 (by omega), c36]
      have c38 : (uI (ad6 S' (b + 1)) 34 3 (nI sz)).1 3 8 = nI kx := by unfold ad6; rw [uI_ne (by omega), uI_ne (by omega)]; exact zt8
      have c12 : (uI (ad6 S' (b + 1)) 34 3 (nI sz)).1 12 n = nI (n + 1) := by unfold ad6; rw [uI_ne (by omega), uI_ne (by omega)]; exact D12
      simp only [Option.bind_some, mI_in (a := n) (n := 512) (by omega) (by omega), nI_clamp (show n < 2 ^ 31 by omega), gd_t, c38, c12]
      rw [c_conn hkx5]
      have c38' : (cnS (uI (ad6 S' (b + 1)) 34 3 (nI sz)) kx 4 (nI n) (nI (n + 1))).1 3 8 = nI kx := by rw [cn_ne (by omega)]; exact c38
      have c8 : (cnS (uI (ad6 S' (b + 1)) 34 3 (nI sz)) kx 4 (nI n) (nI (n + 1))).1 8 (n + 1) = nI (tvV (V (pos + 1))) := by unfold ad6; rw [cn_ne (by omega), uI_ne (by omega), uI_ne (by omega)]; exact D8
      simp only [Option.bind_some, mI_in (a := n + 1) (n := 512) (by omega) (by omega), nI_clamp (show n + 1 < 2 ^ 31 by omega), gd_t, c38', c8]
      rw [c_chk hkx5]
      simp only [Option.bind_some]
      rw [← hD1, c_know CD1.1.kn (by omega)]
      simp only [Option.bind_some]
      have q34 := CD2.1.sz_
      have q37 : (uI (uI D1 4 γ.length (nI (n + 1))) 3 5 (nI (γ.length + 1))).1 37 sz' = nI R := by
        rw [uI_ne (by omega), uI_ne (by omega), rD1 37 sz' (by omega) (by omega) (by omega) (by omega), F'.2.2.2.2.1 37 sz' (by omega) (by omega) (by omega), hA]
        unfold ad6
        rw [uI_ne (by omega), ps_ne (by omega)]
        exact T37
      rw [c_topR (sz := sz') (by rw [← hsz']; exact q34) (by omega), q37]
      simp only [Option.bind_some]
      unfold f_X7_open
      rw [c_push q34 (by omega)]
      simp only [Option.bind_some, show z_b 1 = true from rfl, gd_t]
      rw [if_neg (show ¬ (1 : Int32) = 0 by decide), hD]
    refine FZ_cl hfu C'.1.sz_ (by omega) b35 (by omega) (by omega) (by omega) (pos1 := b + 1) hcl hpm2 (Or.inr ⟨rfl, by omega, by omega, ?_⟩)
    obtain ⟨g35, g36, g37, -⟩ := ps_f (uI (uI D1 4 γ.length (nI (n + 1))) 3 5 (nI (γ.length + 1))) sz 15 (nI n) (nI R)
    have fxD : Fx S' D (n + 2) n' ρ' τ' R kx := by
      rw [hD, hD1]
      unfold ad6
      exact Fx_uI (Fx_ps (Fx_uI (Fx_uI (Fx_ck (Fx_cn (Fx_uI (Fx_uI (Fx_refl S' (n + 2) n' ρ' τ' R kx) (by omega)) (by omega)) (Or.inl rfl))) (by omega)) (by omega))) (by omega)
    have k9 : D1.1 9 kx = 4 ∧ D1.1 10 kx = nI n ∧ D1.1 11 kx = nI (n + 1) := by
      obtain ⟨c9, c10, c11⟩ := cn_f (uI (ad6 S' (b + 1)) 34 3 (nI sz)) kx 4 (nI n) (nI (n + 1))
      rw [hD1, ck_ne (by omega), ck_ne (by omega), ck_ne (by omega)]
      exact ⟨c9, c10, c11⟩
    refine hc S' N' M' L' n' ρ' τ' kx D hbm P' hkx nz3 nz4 hρ' hτ' CD (by rw [hD, uI_eq]) fxD (fun a j u1 u2 u3 => ?_) (fun j u3 => ?_) ?_ ?_ ?_ ?_ ?_ ?_ ?_ ?_
    · rw [rD a j (by omega) (by omega) (by omega), rD1 a j (by omega) (by omega) (by omega) (by omega), Fn a j u1 u2 u3]
    · rw [hD]
      show D1.2.1 21 j = _
      rw [rD1l]
      exact F'.2.1 j u3
    · rw [rD 9 kx (by omega) (by omega) (by omega)]; exact k9.1
    · rw [rD 10 kx (by omega) (by omega) (by omega)]; exact k9.2.1
    · rw [rD 11 kx (by omega) (by omega) (by omega)]; exact k9.2.2
    · rw [rD 26 R (by omega) (by omega) (by omega), rD1 26 R (by omega) (by omega) (by omega) (by omega)]
    · rw [rD 27 R (by omega) (by omega) (by omega), rD1 27 R (by omega) (by omega) (by omega) (by omega)]; exact (F'.2.2.1 R (by omega)).1
    · rw [hD, uI_ne (by omega)]; exact g35
    · rw [hD, uI_ne (by omega)]; exact g36
    · rw [hD, uI_ne (by omega)]; exact g37
  -- the body
  have body := fun (S' : im_S) (N' M' L' : Nat → Nat) (n' ρ' τ' : Nat) (D : im_S) (hbm : b < m) (hρ' : ρ ≤ ρ') (CD : Cz K pl V m S n ρ τ sz γ.length R D (ex N' b n') (ex M' b ρ') (ex L' b τ') (b + 1) dep (sz + 1) ((pos + 1) :: γ) n' ρ' τ' (pl (b + 1)) (min (min (min f (kb pl V γ (pos + 1))) (pfc K pl V x γ 0 [] [])) (ckX K pl V x (tvV (V (pos + 1)))))) (D7 : D.1 3 7 = 0) (q35 : D.1 35 sz = nI 15) (q37 : D.1 37 sz = nI R) => hRr D (ex N' b n') (ex M' b ρ') (ex L' b τ') (b + 1) (sz + 1) ((pos + 1) :: γ) n' ρ' τ' _ 15 R Q (by omega) ⟨Cz_base CD, ⟨by omega, by rw [Nat.add_sub_cancel]; exact q35, by omega, by rw [Nat.add_sub_cancel]; exact q37⟩, by omega, by omega⟩ D7 (by omega)
  rcases hr2 : Rr (b + 1) with ⟨e2, _ | y⟩
  · rw [pbd_none rfl]
    refine ⟨fun e he hRf => ?_, (fun e y he => by cases he)⟩
    cases he
    exact key (fun S' N' M' L' n' ρ' τ' kx D hbm P' hkx u1 u2 hρ' hτ' CD D7 fxD rn rn2 d9 d10 d11 d26 d27 q35 q36 q37 => (body S' N' M' L' n' ρ' τ' D hbm hρ' CD D7 q35 q37).1 e2 hr2 hRf)
  rw [pbd_some rfl]
  refine ⟨(fun e he => by cases he), fun e z he hK => ?_⟩
  cases he
  refine key (fun S' N' M' L' n' ρ' τ' kx D hbm P' hkx u1 u2 hρ' hτ' CD D7 fxD rn rn2 d9 d10 d11 d26 d27 q35 q36 q37 => (body S' N' M' L' n' ρ' τ' D hbm hρ' CD D7 q35 q37).2 e2 y hr2 (fun S'' N'' M'' L'' n'' ρ'' τ'' P'' => ?_))
  obtain ⟨wy, -⟩ := hW _ _ _ hr2
  have hyp := Wt_lt wy
  have hyr := Wt_rt wy
  have hty := tyx_lt K V y
  have C'' := P''.1
  have F'' := C''.2.2.2.2.2
  have Fn := F''.1
  have hb3 := C''.1.bd
  have hpm3 := C''.1.pm
  have gD := CD.2.1
  obtain ⟨-, -, ny1, ny2, ny3, ny4, hn'', hρ'', hτ'', -⟩ := PX_keep P'' wy gD (show R < ρ' by omega) (by omega) (Fx_refl S'' n' n'' ρ'' τ'' R _) (fun j _ => ⟨rfl, rfl, rfl⟩)
  obtain ⟨yt0, yt8, ytT, ytB, ytS⟩ := P''.2.2.1
  obtain ⟨ky, hky⟩ : ∃ ky, N'' (rtk y) = ky := ⟨_, rfl⟩
  rw [hky] at ny2 ny3 ny4 yt8 ytT ytB ytS
  have hky5 : ky < 512 := by omega
  have s35 : S''.1 35 sz = nI 15 := by rw [F''.2.2.2.2.1 35 sz (by omega) (by omega) (by omega)]; exact q35
  have s36 : S''.1 36 sz = nI n := by rw [F''.2.2.2.2.1 36 sz (by omega) (by omega) (by omega)]; exact q36
  obtain ⟨E, hE⟩ : ∃ E, E = uI (uI (uI (cnS (uI S'' 34 3 (nI sz)) ky 3 (nI n) (-1)) 8 n (nI (tyk K (tv V) y))) 3 5 (nI γ.length)) 3 8 (nI n) := ⟨_, rfl⟩
  have rE : ∀ a j : Nat, a ≠ 3 → (a ≠ 34 ∨ j ≠ 3) → (a ≠ 8 ∨ j ≠ n) → (j ≠ ky ∨ a < 9 ∨ 11 < a) → E.1 a j = S''.1 a j := fun a j w1 w2 w3 w4 => by
    rw [hE, uI_ne (by omega), uI_ne (by omega), uI_ne (by omega), cn_ne (by omega), uI_ne (by omega)]
  have C3 : Cz K pl V m S n ρ τ sz γ.length R S'' N'' M'' L'' e2 dep (sz + 1) ((pos + 1) :: γ) n'' ρ'' τ'' (pl e2) (min (min (min (min f (kb pl V γ (pos + 1))) (pfc K pl V x γ 0 [] [])) (ckX K pl V x (tvV (V (pos + 1))))) (pfc K pl V y ((pos + 1) :: γ) 0 [] [])) := Cz_tr CD.2.2.2.2.2 C'' (by omega) (by omega) (by omega) (by omega) (by rw [List.length_cons]; omega) (Or.inl rfl)
  have CE : Cz K pl V m S n ρ τ sz γ.length R E N'' M'' L'' e2 dep sz γ n'' ρ'' τ'' (pl e2) (min (min (min (min f (kb pl V γ (pos + 1))) (pfc K pl V x γ 0 [] [])) (ckX K pl V x (tvV (V (pos + 1))))) (pfc K pl V y ((pos + 1) :: γ) 0 [] [])) := by
    rw [hE]
    exact Cz_3 (Cz_fgt (δ := [pos + 1]) (Cz_nd (Cz_cn (Cz_pop C3) 3 (nI n) (-1) (by omega)) (by omega) (Nat.le_refl _))) (by omega)
  have heb : f_X7_endByItself fu S'' = some ((), E) := by
    unfold f_X7_endByItself
    rw [c_topK C''.1.sz_ (by omega), s35]
    simp only [Option.bind_some]
    rw [c_pop C''.1.sz_ (by omega), s36]
    simp only [Option.bind_some]
    rw [if_pos (show nI 15 = (15 : Int32) from rfl)]
    have c38 : (uI S'' 34 3 (nI sz)).1 3 8 = nI ky := by rw [uI_ne (by omega)]; exact yt8
    rw [c38, c_conn hky5]
    have c38' : (cnS (uI S'' 34 3 (nI sz)) ky 3 (nI n) (-1)).1 3 8 = nI ky := by rw [cn_ne (by omega)]; exact c38
    have c8 : (cnS (uI S'' 34 3 (nI sz)) ky 3 (nI n) (-1)).1 8 ky = nI (tyk K (tv V) y) := by rw [cn_ne (by omega), uI_ne (by omega)]; exact ytT
    simp only [Option.bind_some, c38', mI_in (a := n) (n := 512) (by omega) (by omega), nI_clamp (show n < 2 ^ 31 by omega), mI_in (a := ky) (n := 512) (by omega) hky5, nI_clamp (show ky < 2 ^ 31 by omega), gd_t, c8]
    unfold f_X7_forget
    have c35 : (uI (cnS (uI S'' 34 3 (nI sz)) ky 3 (nI n) (-1)) 8 n (nI (tyk K (tv V) y))).1 3 5 = nI (γ.length + 1) := by
      rw [uI_ne (by omega), cn_ne (by omega), uI_ne (by omega)]
      exact C''.1.kn
    simp only [Option.bind_some, c35]
    rw [show nI (γ.length + 1) - 1 = nI γ.length by rw [show (1 : Int32) = nI 1 from rfl, nI_sub (by omega), Nat.add_sub_cancel], hE]
  refine FZ_end hfu C''.1.sz_ (by omega) s35 (by omega) heb (by omega) ?_
  have E34 := CE.1.sz_
  have hTpE := Tp_Fr CE.2.2.2.2.2 hTp
  have hA12 : Ag N M L N'' M'' L'' pos := Ag_tr (Ag_tr hAg2 hAg3 (by omega)) (Ag_tr (Ag_tr P'.2.1 (Ag_ex N' M' L' b n' ρ' τ') (by omega)) P''.2.1 (by omega)) (by omega)
  have hA3 : Ag N3 M3 L3 N'' M'' L'' (pos + 3) := Ag_tr P'.2.1 (Ag_tr (Ag_ex N' M' L' b n' ρ' τ') P''.2.1 (by omega)) (by omega)
  have eE : N'' pos = n := by rw [(hA3 pos (by omega)).1]; exact eN3
  have eE' : N'' (pos + 1) = n + 1 := by rw [(hA3 (pos + 1) (by omega)).1]; exact eN3'
  have eE'' : N'' (pos + 2) = n + 2 := by rw [(hA3 (pos + 2) (by omega)).1]; exact eN3''
  have fxE : Fx S' E (n + 2) n' ρ' τ' R kx := by
    have f1 := Fx_Fr fxD F'' (by omega) (Nat.le_refl _) (Nat.le_refl _) (Or.inl rfl)
    rw [hE]
    exact Fx_uI (Fx_uI (Fx_uI (Fx_cn (Fx_uI f1 (by omega)) (by omega)) (by omega)) (by omega)) (by omega)
  obtain ⟨Gx, Sx, nx1', nx2', -⟩ := PX_keep P' wx gA hR (by omega) (by rw [hkx]; exact fxE) (Ag_tr (Ag_ex N' M' L' b n' ρ' τ') P''.2.1 (by omega))
  rw [hkx] at nx2'
  have fyE : Fx S'' E n' n'' ρ'' τ'' R ky := by
    rw [hE]
    exact Fx_uI (Fx_uI (Fx_uI (Fx_cn (Fx_uI (Fx_refl S'' n' n'' ρ'' τ'' R ky) (by omega)) (Or.inl rfl)) (by omega)) (by omega)) (by omega)
  obtain ⟨Gy, Sy, ny1', ny2', -⟩ := PX_keep P'' wy gD (show R < ρ' by omega) (by omega) (by rw [hky]; exact fyE) (fun j _ => ⟨rfl, rfl, rfl⟩)
  have rn' : ∀ a j : Nat, 7 ≤ a → a ≤ 20 → (a ≠ 8 ∨ j ≠ n) → j < n + 2 → E.1 a j = A.1 a j := fun a j w1 w2 w3 w4 => by
    rw [rE a j (by omega) (by omega) (by omega) (by omega), Fn a j w1 w2 (by omega)]
    exact rn a j w1 w2 w4
  have e21 : ∀ j : Nat, j < n + 2 → E.2.1 21 j = A.2.1 21 j := fun j w => by
    rw [hE]
    show S''.2.1 21 j = _
    rw [F''.2.1 j (by omega)]
    exact rn2 j w
  have e27 : E.1 27 R = A.1 27 R := by rw [rE 27 R (by omega) (by omega) (by omega) (by omega), (F''.2.2.1 R (by omega)).1]; exact d27
  have e8 : E.1 8 n = nI (tyk K (tv V) y) := by rw [hE, uI_ne (by omega), uI_ne (by omega), uI_eq]
  have ky9 : E.1 9 ky = 3 ∧ E.1 10 ky = nI n := by
    obtain ⟨c9, c10, -⟩ := cn_f (uI S'' 34 3 (nI sz)) ky 3 (nI n) (-1)
    rw [hE, uI_ne (by omega), uI_ne (by omega), uI_ne (by omega), uI_ne (by omega), uI_ne (by omega), uI_ne (by omega)]
    exact ⟨c9, c10⟩
  have kxE : ∀ a : Nat, 9 ≤ a → a ≤ 11 → E.1 a kx = D.1 a kx := fun a w1 w2 => by
    rw [rE a kx (by omega) (by omega) (by omega) (by omega), Fn a kx (by omega) (by omega) (by omega)]
  have PE : PX K pl V m S N M L pos dep sz γ n ρ τ f R E N'' M'' L'' n'' ρ'' τ'' e2 (aLet pos x y) := by
    refine ⟨?_, hA12, ⟨?_, ?_, ?_, ?_, ?_⟩, fun hz => ?_, ?_, ?_⟩
    · have hmin : min (min (min (min f (kb pl V γ (pos + 1))) (pfc K pl V x γ 0 [] [])) (ckX K pl V x (tvV (V (pos + 1))))) (pfc K pl V y ((pos + 1) :: γ) 0 [] []) = min f (pfc K pl V (aLet pos x y) γ 0 [] []) := by rw [pfc_let]; omega
      rw [← hmin]
      exact CE
    · show N'' pos < N'' (pos + 1); omega
    · show E.1 3 8 = nI (N'' pos); rw [eE, hE, uI_eq]
    · show E.1 8 (N'' pos) = nI (tyk K (tv V) y); rw [eE]; exact e8
    · show E.1 20 (N'' pos) = nI (pl pos); rw [eE, rn' 20 n (by omega) (by omega) (by omega) (by omega), An 20 (by omega) (by omega) (by omega)]; exact fz.2.2.2.2.2.2.2
    · show E.1 14 (N'' pos) = -1; rw [eE, rn' 14 n (by omega) (by omega) (by omega) (by omega), An 14 (by omega) (by omega) (by omega)]; exact fz.2.2.2.2.2.1
    · rw [pfc_let] at hz
      rw [G_let]
      refine ⟨⟨by omega, ?_, ?_, ?_, ?_, ?_⟩, ⟨?_, ?_, ?_, ?_⟩, ?_, ?_, ⟨nx1', ?_, ?_⟩, ?_, ⟨ny1', ?_, ?_⟩, Gx (by omega), Gy (by omega)⟩
      · rw [eE, rn' 7 n (by omega) (by omega) (by omega) (by omega), An 7 (by omega) (by omega) (by omega)]; exact b1
      · rw [eE]; exact e8
      · rw [eE, e21 n (by omega), hA]
        show A2.2.1 21 n = 0
        rw [rdV2 21 n (by omega)]; exact b3
      · rw [eE, rn' 17 n (by omega) (by omega) (by omega) (by omega), An 17 (by omega) (by omega) (by omega), e27, A27]; exact b4
      · rw [eE, rn' 19 n (by omega) (by omega) (by omega) (by omega), An 19 (by omega) (by omega) (by omega)]; exact b5
      · rw [eE', show N'' (pos + 1 + 1) = n + 2 from eE'']; omega
      · rw [eE', rn' 7 (n + 1) (by omega) (by omega) (by omega) (by omega), Av 7 (by omega) (by omega)]; exact v1
      · rw [eE', rn' 8 (n + 1) (by omega) (by omega) (by omega) (by omega), Av 8 (by omega) (by omega)]; exact v2
      · rw [eE', e21 (n + 1) (by omega), hA]; exact v3
      · rw [eE', rn' 17 (n + 1) (by omega) (by omega) (by omega) (by omega), Av 17 (by omega) (by omega), v4, e27, A27, rdV 27 R (by omega) (by omega) (by omega) (by omega) (by omega)]
      · rw [eE, eE', rn' 12 n (by omega) (by omega) (by omega) (by omega)]; exact A12
      · rw [nx2', kxE 9 (by omega) (by omega)]; exact d9
      · rw [nx2', kxE 10 (by omega) (by omega), eE]; exact d10
      · rw [nx2', kxE 11 (by omega) (by omega), eE']; exact d11
      · rw [hky]; exact ky9.1
      · rw [hky, eE]; exact ky9.2
    · show Seg E N'' (E.1 26 R) (lvs y ++ lvs x) (S.1 26 R)
      rw [rE 26 R (by omega) (by omega) (by omega) (by omega)]
      refine Seg_app _ _ _ _ _ Sy ?_
      rw [d26, ← A26]
      exact Sx
    · have CIx := PX_ci P' wx gA (by rw [hkx]; exact fxE.1) fxE.2.1 (Ag_tr (Ag_ex N' M' L' b n' ρ' τ') P''.2.1 (by omega))
      have CIy := PX_ci P'' wy gD (by rw [hky]; exact fyE.1) fyE.2.1 (fun j _ => ⟨rfl, rfl, rfl⟩)
      show CI K pl V E N'' pos e2 pos (cls x ++ cls y)
      have nb : N'' b = n' := by rw [(P''.2.1 b (by omega)).1, ex_le (Nat.le_refl _)]; exact P'.1.2.1.1
      have nb1 : N'' (b + 1) = n' := by rw [(P''.2.1 (b + 1) (Nat.le_refl _)).1, ex_gt (by omega)]
      have n3 : N'' (pos + 3) = n + 2 := by rw [(hA3 (pos + 3) (Nat.le_refl _)).1, hN3, ex_gt (by omega)]
      have h1 := CI_seq (t0 := pos) CIx CIy (by omega) (by omega) (by omega) (fun k k1 k2 => by rw [nb] at k1; rw [nb1] at k2; omega) (Or.inl (by omega))
      refine CI_wid h1 (by omega) (Nat.le_refl _) (fun k k1 k2 => ?_) (fun k k1 k2 => absurd k1 (by omega)) (Or.inr (Or.inr rfl))
      rw [eE] at k1
      rw [n3] at k2
      rcases (show k = n ∨ k = n + 1 by omega) with z | z
      · rw [z, rn' 7 n (by omega) (by omega) (by omega) (by omega), An 7 (by omega) (by omega) (by omega), b1]; exact k8 (by omega) (by omega)
      · rw [z, rn' 7 (n + 1) (by omega) (by omega) (by omega) (by omega), Av 7 (by omega) (by omega), v1]; exact k8 (by omega) (by omega)
  have hfz := hK E N'' M'' L'' n'' ρ'' τ'' PE
  have q2 := hTpE.2.1
  rw [hsz'] at E34 q2 hfz ⊢
  exact Fl_Z hfu E34 (by omega) q2 hTpE.2.2.1 (by omega) (Or.inl rfl) hfz
end CLT
