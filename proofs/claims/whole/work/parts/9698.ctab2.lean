/-! the class's parser: tab, all of it -/
/-- equal, hidden from arithmetic -/
def eqN (a b : Nat) : Prop := a = b
theorem eqN_r (a : Nat) : eqN a a := rfl
section CTC
variable {K pl : Nat → Nat} {V : Nat → Int64} {m fu : Nat} {Q : Int32 → im_S → Prop} {S : im_S} {N M L : Nat → Nat} {pos dep sz n ρ τ f k R : Nat} {γ : List Nat}
theorem pfc_tab (j : Nat) (x y : TR) : pfc K pl V (aTab j x y) γ 0 [] [] = min (kb pl V γ (j + 1)) (min (ctk pl V (j + 1) 3) (min (kb pl V ((j + 1) :: γ) (j + 3)) (min (ctk pl V (j + 3) 1) (min (pfc K pl V x γ 0 [] []) (min (ckX K pl V x 1) (min (pfc K pl V y ((j + 3) :: (j + 1) :: γ) 0 [] []) (ckX K pl V y 1))))))) := rfl
theorem G_tab (S : im_S) (N M L : Nat → Nat) (j : Nat) (x y : TR) : G K pl V S N M L (aTab j x y) γ R 0 0 .nil [] = (nd pl S N 10 3 0 j R ∧ S.1 12 (N j) = nI (N (rtk x)) ∧ rl S N (rtk x) 1 j ∧ S.1 13 (N j) = nI (N (j + 1)) ∧ vr V S N (j + 1) ∧ vr V S N (j + 3) ∧ S.1 14 (N (j + 1)) = nI (N (j + 3)) ∧ S.1 10 (N (j + 3)) = nI (N j) ∧ M j < M (j + 1) ∧ L j < L (j + 1) ∧ S.1 15 (N j) = nI (M j) ∧ S.1 27 (M j) = nI (L j) ∧ dpt S R (L j) ∧ S.1 17 (N (j + 1)) = nI (L j) ∧ S.1 17 (N (j + 3)) = nI (L j) ∧ rl S N (rtk y) 8 j ∧ Seg S N (S.1 26 (M j)) (lvs y) (-1) ∧ G K pl V S N M L x γ R 0 0 .nil [] ∧ G K pl V S N M L y ((j + 3) :: (j + 1) :: γ) (M j) 0 0 .nil []) := rfl
set_option maxHeartbeats 8000000 in
theorem k_tab (T : TH K pl V m) (hfu : 600 ≤ fu) {Rr R1 : Nat → PR} {p0 d : Nat} (hRr : HXc K pl V m fu Rr dep p0) (hR1 : HXc K pl V m fu R1 (dep + 1) p0) (hW : WR K Rr) (hW1 : WR K R1) (hB : Bg K pl V m S N M L pos dep sz γ n ρ τ f k R) (hd : S.1 3 7 = nI d) (hd1 : d ≤ 1) (hdep : d = 0 → dep < 20) (hk13 : K pos = 13) (hp0 : p0 ≤ pos + 1) :
    (∀ e, pTab K Rr R1 pos = (e, none) → Rf pl e Q → Lp m fu pos S Q) ∧ ∀ e x, pTab K Rr R1 pos = (e, some x) → Kx K pl V m S N M L pos dep sz γ n ρ τ f R e x (AC K m fu e sz Q) → Lp m fu pos S Q := by
  obtain ⟨hbad, hgood⟩ := c_tabO T hfu hB hd hd1 hdep hk13
  obtain ⟨C, hTp, hR, hpos⟩ := hB
  have hm := T.m_
  have hsz1 := hTp.1
  have hbd := C.1.bd
  have hpm := C.1.pm
  have hp := K_lt T.end_ hpm hk13 (by decide) (by decide)
  have bad : ∀ e, ((K (pos + 1) ≠ 1 ∧ e = pos + 1) ∨ (K (pos + 1) = 1 ∧ K (pos + 2) ≠ 91 ∧ e = pos + 2) ∨ (K (pos + 1) = 1 ∧ K (pos + 2) = 91 ∧ K (pos + 3) ≠ 1 ∧ e = pos + 3) ∨ (K (pos + 1) = 1 ∧ K (pos + 2) = 91 ∧ K (pos + 3) = 1 ∧ K (pos + 4) ≠ 60 ∧ e = pos + 4)) → Rf pl e Q → Lp m fu pos S Q := fun e he hRf => by
    obtain ⟨Z, hZ⟩ := hbad e he
    exact Lp_rf hd (by omega) hZ (by omega) (Rf_rc hRf)
  unfold pTab pw
  by_cases h1 : ¬ K (pos + 1) = 1
  · rw [if_neg h1]
    refine ⟨fun e he hRf => ?_, (fun e y he => by cases he)⟩
    cases he
    exact bad (pos + 1) (Or.inl ⟨h1, rfl⟩) hRf
  have h1 : K (pos + 1) = 1 := Decidable.not_not.mp h1
  rw [if_pos h1]
  by_cases h2 : ¬ K (pos + 2) = 91
  · rw [if_neg h2]
    refine ⟨fun e he hRf => ?_, (fun e y he => by cases he)⟩
    cases he
    exact bad (pos + 2) (Or.inr (Or.inl ⟨h1, h2, rfl⟩)) hRf
  have h2 : K (pos + 2) = 91 := Decidable.not_not.mp h2
  rw [if_pos h2]
  by_cases h3 : ¬ K (pos + 3) = 1
  · rw [if_neg h3]
    refine ⟨fun e he hRf => ?_, (fun e y he => by cases he)⟩
    cases he
    exact bad (pos + 3) (Or.inr (Or.inr (Or.inl ⟨h1, h2, h3, rfl⟩))) hRf
  have h3 : K (pos + 3) = 1 := Decidable.not_not.mp h3
  rw [if_pos h3]
  by_cases h4 : ¬ K (pos + 4) = 60
  · rw [if_neg h4]
    refine ⟨fun e he hRf => ?_, (fun e y he => by cases he)⟩
    cases he
    exact bad (pos + 4) (Or.inr (Or.inr (Or.inr ⟨h1, h2, h3, h4, rfl⟩))) hRf
  have h4 : K (pos + 4) = 60 := Decidable.not_not.mp h4
  rw [if_pos h4]
  obtain ⟨A, N3, M3, L3, hop, CA, hAg3, A7, A35, A36, A37, ⟨n7, n8, n21, n17, n19, n20, n14, n15, n13⟩, ⟨v7, v8, v21, v17, v14⟩, ⟨w7, w8, w21, w17, w10⟩, A26, A27a, A26a, Adp, ⟨eN0, eN1, eN2, eN3, eN4, eM0, eM1, eL0, eL1⟩⟩ := hgood h1 h2 h3 h4
  have hp5 := CA.1.pm
  have hbd5 := CA.1.bd
  obtain ⟨f1, hf1⟩ : ∃ f1, eqN f1 (min (min (min (min f (kb pl V γ (pos + 1))) (ctk pl V (pos + 1) 3)) (kb pl V ((pos + 1) :: γ) (pos + 3))) (ctk pl V (pos + 3) 1)) := ⟨_, eqN_r _⟩
  rw [← (show f1 = _ from hf1)] at CA
  have gA := CA.2.1
  have hpl5 := T.pl_ hp5
  have hgo : Lp m fu (pos + 5) A Q → Lp m fu pos S Q := fun h => Lp_op hd (by omega) hop (by omega) (by omega) h
  obtain ⟨hN, hS⟩ := hR1 A N3 M3 L3 (pos + 5) (sz + 1) γ (n + 3) (ρ + 1) (τ + 1) f1 23 R Q (by omega) ⟨Cz_base CA, ⟨by omega, by rw [Nat.add_sub_cancel]; exact A35, by omega, by rw [Nat.add_sub_cancel]; exact A37⟩, by omega, by omega⟩ A7 (by omega)
  rcases hr : R1 (pos + 5) with ⟨b, _ | x⟩
  · rw [pbd_none rfl]
    refine ⟨fun e he hRf => ?_, (fun e y he => by cases he)⟩
    cases he
    exact hgo (hN b hr hRf)
  rw [pbd_some rfl]
  obtain ⟨wx, -⟩ := hW1 _ _ _ hr
  have hxp := Wt_lt wx
  have hxr := Wt_rt wx
  have htx := tyx_lt K V x
  have clo : ∀ (S' : im_S) (N' M' L' : Nat → Nat) (n' ρ' τ' : Nat), PX K pl V m A N3 M3 L3 (pos + 5) (dep + 1) (sz + 1) γ (n + 3) (ρ + 1) (τ + 1) f1 R S' N' M' L' n' ρ' τ' b x → S'.1 35 sz = nI 23 ∧ S'.1 34 3 = nI (sz + 1) ∧ sz < 512 ∧ b ≤ m := by
    intro S' N' M' L' n' ρ' τ' P'
    have C' := P'.1
    exact ⟨by rw [C'.2.2.2.2.2.2.2.2.2.1 35 sz (by omega) (by omega) (by omega)]; exact A35, C'.1.sz_, by omega, C'.1.pm⟩
  by_cases h93 : ¬ K b = 93
  · rw [if_neg h93]
    refine ⟨fun e he hRf => ?_, (fun e y he => by cases he)⟩
    cases he
    refine hgo (hS b x hr (fun S' N' M' L' n' ρ' τ' P' => ?_))
    obtain ⟨c1, c2, c3, c4⟩ := clo S' N' M' L' n' ρ' τ' P'
    refine FZ_cl hfu c2 c3 c1 (by omega) (by omega) (by omega) (r := 0) (S1 := rcS S' (pl b)) ?_ c4 (Or.inl ⟨rfl, Rf_rc hRf⟩) (pos1 := 0)
    rw [cl_23 c2 c3 c1, show (93 : Int32) = nI 93 from rfl, c_take T P'.1.1 93 (by omega), if_neg h93]
    rfl
  have h93 : K b = 93 := Decidable.not_not.mp h93
  rw [if_pos h93]
  by_cases h14 : ¬ K (b + 1) = 14
  · rw [if_neg h14]
    refine ⟨fun e he hRf => ?_, (fun e y he => by cases he)⟩
    cases he
    refine hgo (hS b x hr (fun S' N' M' L' n' ρ' τ' P' => ?_))
    obtain ⟨c1, c2, c3, c4⟩ := clo S' N' M' L' n' ρ' τ' P'
    have hbm := K_lt T.end_ c4 h93 (by decide) (by decide)
    refine FZ_cl hfu c2 c3 c1 (by omega) (by omega) (by omega) (r := 0) (S1 := rcS (ad6 S' (b + 1)) (pl (b + 1))) ?_ c4 (Or.inl ⟨rfl, Rf_rc hRf⟩) (pos1 := 0)
    rw [cl_23 c2 c3 c1, show (93 : Int32) = nI 93 from rfl, c_take T P'.1.1 93 (by omega), if_pos h93]
    simp only [Option.bind_some]
    rw [if_neg (show ¬ (1 : Int32) = 0 by decide), show (14 : Int32) = nI 14 from rfl, c_take T (Pz_ad T P'.1.1 hbm) 14 (by omega), if_neg h14]
    rfl
  have h14 : K (b + 1) = 14 := Decidable.not_not.mp h14
  rw [if_pos h14]
  -- the size is there
  have key : (∀ (S' : im_S) (N' M' L' : Nat → Nat) (n' ρ' τ' kx : Nat) (D : im_S), b + 1 < m → PX K pl V m A N3 M3 L3 (pos + 5) (dep + 1) (sz + 1) γ (n + 3) (ρ + 1) (τ + 1) f1 R S' N' M' L' n' ρ' τ' b x → N' (rtk x) = kx → n + 3 ≤ kx → kx < n' → ρ + 1 ≤ ρ' → τ + 1 ≤ τ' → Cz K pl V m S n ρ τ sz γ.length R D (ex (ex N' b n') (b + 1) n') (ex (ex M' b ρ') (b + 1) ρ') (ex (ex L' b τ') (b + 1) τ') (b + 2) dep (sz + 1) ((pos + 3) :: (pos + 1) :: γ) n' ρ' τ' (pl (b + 2)) (min (min f1 (pfc K pl V x γ 0 [] [])) (ckX K pl V x 1)) → D.1 3 7 = 0 → Fw S' D (n + 3) n' (ρ + 1) ρ' τ' kx → (∀ a j : Nat, 7 ≤ a → a ≤ 20 → j < n + 3 → (a ≠ 12 ∨ j ≠ n) → D.1 a j = A.1 a j) → D.1 12 n = nI kx → (∀ j : Nat, j < n + 3 → D.2.1 21 j = A.2.1 21 j) → D.1 9 kx = 1 → D.1 10 kx = nI n → (∀ r : Nat, r < ρ + 1 → D.1 27 r = A.1 27 r ∧ (r ≠ R → D.1 26 r = A.1 26 r)) → (∀ t : Nat, t < τ + 1 → D.1 29 t = A.1 29 t) → D.1 26 R = S'.1 26 R → D.1 35 sz = nI 24 → D.1 36 sz = nI n → D.1 37 sz = nI ρ → Lp m fu (b + 2) D Q) → Lp m fu pos S Q := by
    intro hc
    refine hgo (hS b x hr (fun S' N' M' L' n' ρ' τ' P' => ?_))
    obtain ⟨b35, c2, c3, c4⟩ := clo S' N' M' L' n' ρ' τ' P'
    have C' := P'.1
    have F' := C'.2.2.2.2.2
    have Fn := F'.1
    have hb2 := C'.1.bd
    have hbm := K_lt T.end_ c4 h93 (by decide) (by decide)
    have hbm1 : b + 1 < m := K_lt T.end_ (by omega) h14 (by decide) (by decide)
    have hstb := T.lt_ hbm
    have hstb1 : pl (b + 1) + 1 ≤ pl (b + 2) := T.lt_ hbm1
    obtain ⟨-, -, nz1, nz2, nz3, nz4, hn', hρ', hτ', -⟩ := PX_kw P' wx gA (show R < ρ + 1 by omega) (by omega) (Fw_refl S' (n + 3) n' (ρ + 1) ρ' τ' _) (fun j _ => ⟨rfl, rfl, rfl⟩)
    obtain ⟨zt0, zt8, ztT, ztB, ztS⟩ := P'.2.2.1
    obtain ⟨kx, hkx⟩ : ∃ kx, N' (rtk x) = kx := ⟨_, rfl⟩
    rw [hkx] at nz2 nz3 nz4 zt8 ztT ztB ztS
    have hkx5 : kx < 512 := by omega
    have b36 : S'.1 36 sz = nI n := by rw [F'.2.2.2.2.1 36 sz (by omega) (by omega) (by omega)]; exact A36
    obtain ⟨D0, hD0⟩ : ∃ D0, D0 = ad6 (ad6 S' (b + 1)) (b + 2) := ⟨_, rfl⟩
    obtain ⟨D1, hD1⟩ : ∃ D1, D1 = uI (ckS (cnS (uI (uI D0 34 3 (nI sz)) 12 n (nI kx)) kx 1 (nI n) (-1)) kx (nI 1)) 3 9 (nI dep) := ⟨_, rfl⟩
    have rD0 : ∀ a j : Nat, (a ≠ 3 ∨ j ≠ 6) → D0.1 a j = S'.1 a j := fun a j u => by rw [hD0]; unfold ad6; rw [uI_ne (by omega), uI_ne (by omega)]
    have rD1 : ∀ a j : Nat, a ≠ 3 → (a ≠ 34 ∨ j ≠ 3) → a ≠ 5 → (a ≠ 12 ∨ j ≠ n) → (j ≠ kx ∨ a < 9 ∨ 11 < a) → D1.1 a j = S'.1 a j := fun a j u1 u2 u3 u5 u4 => by
      rw [hD1, uI_ne (by omega), ck_ne (by omega), cn_ne (by omega), uI_ne (by omega), uI_ne (by omega), rD0 a j (by omega)]
    have rD1l : D1.2.1 = S'.2.1 := by
      rw [hD1]
      show (ckS (cnS (uI (uI D0 34 3 (nI sz)) 12 n (nI kx)) kx 1 (nI n) (-1)) kx (nI 1)).2.1 = _
      rw [ck_21, hD0]; rfl
    have C2 : Cz K pl V m S n ρ τ sz γ.length R S' N' M' L' b (dep + 1) (sz + 1) γ n' ρ' τ' (pl b) (min f1 (pfc K pl V x γ 0 [] [])) := Cz_tr CA.2.2.2.2.2 C' (by omega) (by omega) (by omega) (by omega) (Nat.le_refl _) (Or.inl rfl)
    have C2a := Cz_ad T (Cz_ad T C2 hbm) hbm1
    have CD1 : Cz K pl V m S n ρ τ sz γ.length R D1 (ex (ex N' b n') (b + 1) n') (ex (ex M' b ρ') (b + 1) ρ') (ex (ex L' b τ') (b + 1) τ') (b + 2) dep sz γ n' ρ' τ' (pl (b + 2)) (min (min f1 (pfc K pl V x γ 0 [] [])) (ckX K pl V x 1)) := by
      rw [hD1, hD0]
      refine Cz_9 (Cz_ck (b := bgk x) (ty := tyk K (tv V) x) (Cz_cn (Cz_nd (Cz_pop (Cz_B C2a (show pl b ≤ pl (b + 2) by omega))) (by omega) (Nat.le_refl _)) 1 (nI n) (-1) (by omega)) ?_ ?_ (T.pl_ (by omega)) htx (by omega)) dep
      · unfold ad6; rw [cn_ne (by omega), uI_ne (by omega), uI_ne (by omega), uI_ne (by omega), uI_ne (by omega)]; exact ztT
      · unfold ad6; rw [cn_ne (by omega), uI_ne (by omega), uI_ne (by omega), uI_ne (by omega), uI_ne (by omega)]; exact ztB
    have eNb : ∀ j, j ≤ pos + 5 → ex (ex N' b n') (b + 1) n' j = N3 j := fun j hj => by rw [ex_le (by omega), ex_le (by omega), (P'.2.1 j hj).1]
    have l21 : ∀ j : Nat, j < n + 3 → D1.2.1 21 j = A.2.1 21 j := fun j hj => by rw [rD1l]; exact F'.2.1 j hj
    have CD2 := Cz_know CD1 (b := pos + 1) (by omega) (by rw [eNb _ (by omega), eN1]; omega) (by rw [eNb _ (by omega), eN1, l21 (n + 1) (by omega)]; exact v21) (by omega) (Nat.le_refl _) (by omega)
    rw [eNb (pos + 1) (by omega), eN1] at CD2
    have CD3 := Cz_know CD2 (b := pos + 3) (by omega) (by rw [eNb _ (by omega), eN3]; omega) (by rw [eNb _ (by omega), eN3]; show D1.2.1 21 (n + 2) = _; rw [l21 (n + 2) (by omega)]; exact w21) (by rw [List.length_cons]; omega) (by rw [List.length_cons]; omega) (by omega)
    rw [eNb (pos + 3) (by omega), eN3] at CD3
    obtain ⟨D2, hD2⟩ : ∃ D2, D2 = uI (uI D1 4 γ.length (nI (n + 1))) 3 5 (nI (γ.length + 1)) := ⟨_, rfl⟩
    rw [← hD2] at CD2 CD3
    obtain ⟨D3, hD3⟩ : ∃ D3, D3 = uI (uI D2 4 (γ.length + 1) (nI (n + 2))) 3 5 (nI (γ.length + 1 + 1)) := ⟨_, rfl⟩
    have CD3' : Cz K pl V m S n ρ τ sz γ.length R D3 (ex (ex N' b n') (b + 1) n') (ex (ex M' b ρ') (b + 1) ρ') (ex (ex L' b τ') (b + 1) τ') (b + 2) dep sz ((pos + 3) :: (pos + 1) :: γ) n' ρ' τ' (pl (b + 2)) (min (min f1 (pfc K pl V x γ 0 [] [])) (ckX K pl V x 1)) := by rw [hD3]; exact CD3
    obtain ⟨D, hD⟩ : ∃ D, D = uI (psS D3 sz 24 (nI n) (nI ρ)) 3 7 0 := ⟨_, rfl⟩
    have rD : ∀ a j : Nat, a ≠ 3 → a ≠ 4 → (a < 34 ∨ 37 < a) → D.1 a j = D1.1 a j := fun a j u1 u2 u3 => by
      rw [hD, hD3, hD2, uI_ne (by omega), ps_ne (by omega), uI_ne (by omega), uI_ne (by omega), uI_ne (by omega), uI_ne (by omega)]
    have rDl : D.2.1 = D1.2.1 := by rw [hD, hD3, hD2]; rfl
    have hbγ : (((pos + 3) :: (pos + 1) :: γ : List Nat)).length = γ.length + 1 + 1 := rfl
    have CD : Cz K pl V m S n ρ τ sz γ.length R D (ex (ex N' b n') (b + 1) n') (ex (ex M' b ρ') (b + 1) ρ') (ex (ex L' b τ') (b + 1) τ') (b + 2) dep (sz + 1) ((pos + 3) :: (pos + 1) :: γ) n' ρ' τ' (pl (b + 2)) (min (min f1 (pfc K pl V x γ 0 [] [])) (ckX K pl V x 1)) := by
      rw [hD]
      exact Cz_3 (Cz_push CD3' 24 (nI n) (nI ρ) (by omega) (Nat.le_refl _)) (by omega)
    have hcl : f_X7_close fu (nI (K b)) S' = some (1, D) := by
      rw [cl_23 c2 c3 b35, show (93 : Int32) = nI 93 from rfl, c_take T C'.1 93 (by omega), if_pos h93]
      simp only [Option.bind_some]
      rw [if_neg (show ¬ (1 : Int32) = 0 by decide), show (14 : Int32) = nI 14 from rfl, c_take T (Pz_ad T C'.1 hbm) 14 (by omega), if_pos h14]
      simp only [Option.bind_some]
      rw [if_neg (show ¬ (1 : Int32) = 0 by decide), show ad6 (ad6 S' (b + 1)) (b + 1 + 1) = D0 from hD0.symm]
      unfold f_X7_endTabSize
      have d34 : D0.1 34 3 = nI (sz + 1) := by rw [rD0 34 3 (by omega)]; exact c2
      have d36 : D0.1 36 sz = nI n := by rw [rD0 36 sz (by omega)]; exact b36
      rw [c_pop d34 (by omega), d36]
      have d38 : (uI D0 34 3 (nI sz)).1 3 8 = nI kx := by rw [uI_ne (by omega), rD0 3 8 (by omega)]; exact zt8
      simp only [Option.bind_some, mI_in (a := n) (n := 512) (by omega) (by omega), nI_clamp (show n < 2 ^ 31 by omega), gd_t, d38]
      rw [c_conn hkx5]
      have d38' : (cnS (uI (uI D0 34 3 (nI sz)) 12 n (nI kx)) kx 1 (nI n) (-1)).1 3 8 = nI kx := by rw [cn_ne (by omega), uI_ne (by omega)]; exact d38
      simp only [Option.bind_some, d38']
      have hck : f_X7_checkType (nI kx) 1 (cnS (uI (uI D0 34 3 (nI sz)) 12 n (nI kx)) kx 1 (nI n) (-1)) = some ((), ckS (cnS (uI (uI D0 34 3 (nI sz)) 12 n (nI kx)) kx 1 (nI n) (-1)) kx (nI 1)) := c_chk hkx5 (nI 1)
      rw [hck]
      have d39 : (ckS (cnS (uI (uI D0 34 3 (nI sz)) 12 n (nI kx)) kx 1 (nI n) (-1)) kx (nI 1)).1 3 9 = nI (dep + 1) := by rw [ck_ne (by omega), cn_ne (by omega), uI_ne (by omega), uI_ne (by omega), rD0 3 9 (by omega)]; exact C'.1.dp
      have d13 : (ckS (cnS (uI (uI D0 34 3 (nI sz)) 12 n (nI kx)) kx 1 (nI n) (-1)) kx (nI 1)).1 13 n = nI (n + 1) := by rw [ck_ne (by omega), cn_ne (by omega), uI_ne (by omega), uI_ne (by omega), rD0 13 n (by omega), Fn 13 n (by omega) (by omega) (by omega)]; exact n13
      have dd : nI (dep + 1) - 1 = nI dep := by rw [show (1 : Int32) = nI 1 from rfl, nI_sub (by omega), Nat.add_sub_cancel]
      simp only [Option.bind_some, d39, d13, dd]
      rw [← hD1, c_know CD1.1.kn (by omega), ← hD2]
      have d2a : D2.1 13 n = nI (n + 1) := by
        rw [hD2, uI_ne (by omega), uI_ne (by omega), rD1 13 n (by omega) (by omega) (by omega) (by omega) (by omega), Fn 13 n (by omega) (by omega) (by omega)]; exact n13
      have d2b : D2.1 14 (n + 1) = nI (n + 2) := by
        rw [hD2, uI_ne (by omega), uI_ne (by omega), rD1 14 (n + 1) (by omega) (by omega) (by omega) (by omega) (by omega), Fn 14 (n + 1) (by omega) (by omega) (by omega)]; exact v14
      simp only [Option.bind_some, d2a, mI_in (a := n + 1) (n := 512) (by omega) (by omega), nI_clamp (show n + 1 < 2 ^ 31 by omega), gd_t, d2b]
      rw [c_know (k := γ.length + 1) CD2.1.kn (by omega), ← hD3]
      have d3 : D3.1 15 n = nI ρ := by
        rw [hD3, hD2, uI_ne (by omega), uI_ne (by omega), uI_ne (by omega), uI_ne (by omega), rD1 15 n (by omega) (by omega) (by omega) (by omega) (by omega), Fn 15 n (by omega) (by omega) (by omega)]; exact n15
      simp only [Option.bind_some, d3]
      unfold f_X7_open
      rw [c_push CD3'.1.sz_ (by omega)]
      simp only [Option.bind_some, show z_b 1 = true from rfl, gd_t]
      rw [if_neg (show ¬ (1 : Int32) = 0 by decide), hD]
    refine FZ_cl hfu c2 c3 b35 (by omega) (by omega) (by omega) (pos1 := b + 2) hcl c4 (Or.inr ⟨rfl, by omega, by omega, ?_⟩)
    obtain ⟨g35, g36, g37, -⟩ := ps_f D3 sz 24 (nI n) (nI ρ)
    have fxD : Fw S' D (n + 3) n' (ρ + 1) ρ' τ' kx := by
      rw [hD, hD3, hD2, hD1, hD0]
      unfold ad6
      exact Fw_uI (Fw_ps (Fw_uI (Fw_uI (Fw_uI (Fw_uI (Fw_uI (Fw_ck (Fw_cn (Fw_uI (Fw_uI (Fw_uI (Fw_uI (Fw_refl S' (n + 3) n' (ρ + 1) ρ' τ' kx) (by omega)) (by omega)) (by omega)) (by omega)) (Or.inl rfl))) (by omega)) (by omega)) (by omega)) (by omega)) (by omega))) (by omega)
    have k9 : D1.1 9 kx = 1 ∧ D1.1 10 kx = nI n := by
      obtain ⟨c9, c10, -⟩ := cn_f (uI (uI D0 34 3 (nI sz)) 12 n (nI kx)) kx 1 (nI n) (-1)
      rw [hD1, uI_ne (by omega), ck_ne (by omega), uI_ne (by omega), ck_ne (by omega)]
      exact ⟨c9, c10⟩
    refine hc S' N' M' L' n' ρ' τ' kx D hbm1 P' hkx nz3 nz4 hρ' hτ' CD (by rw [hD, uI_eq]) fxD (fun a j u1 u2 u3 u4 => ?_) ?_ (fun j u => ?_) ?_ ?_ (fun r hr' => ⟨?_, fun hne => ?_⟩) (fun t ht => ?_) ?_ ?_ ?_ ?_
    · rw [rD a j (by omega) (by omega) (by omega), rD1 a j (by omega) (by omega) (by omega) (by omega) (by omega), Fn a j u1 u2 (by omega)]
    · rw [rD 12 n (by omega) (by omega) (by omega), hD1, uI_ne (by omega), ck_ne (by omega), cn_ne (by omega), uI_eq]
    · rw [rDl]; exact l21 j u
    · rw [rD 9 kx (by omega) (by omega) (by omega)]; exact k9.1
    · rw [rD 10 kx (by omega) (by omega) (by omega)]; exact k9.2
    · rw [rD 27 r (by omega) (by omega) (by omega), rD1 27 r (by omega) (by omega) (by omega) (by omega) (by omega)]; exact (F'.2.2.1 r hr').1
    · rw [rD 26 r (by omega) (by omega) (by omega), rD1 26 r (by omega) (by omega) (by omega) (by omega) (by omega)]; exact (F'.2.2.1 r hr').2 hne
    · rw [rD 29 t (by omega) (by omega) (by omega), rD1 29 t (by omega) (by omega) (by omega) (by omega) (by omega)]; exact F'.2.2.2.1 t ht
    · rw [rD 26 R (by omega) (by omega) (by omega), rD1 26 R (by omega) (by omega) (by omega) (by omega) (by omega)]
    · rw [hD, uI_ne (by omega)]; exact g35
    · rw [hD, uI_ne (by omega)]; exact g36
    · rw [hD, uI_ne (by omega)]; exact g37
  have body := fun (N' M' L' : Nat → Nat) (n' ρ' τ' : Nat) (D : im_S) (hbm : b + 1 < m) (hρ' : ρ + 1 ≤ ρ') (CD : Cz K pl V m S n ρ τ sz γ.length R D (ex (ex N' b n') (b + 1) n') (ex (ex M' b ρ') (b + 1) ρ') (ex (ex L' b τ') (b + 1) τ') (b + 2) dep (sz + 1) ((pos + 3) :: (pos + 1) :: γ) n' ρ' τ' (pl (b + 2)) (min (min f1 (pfc K pl V x γ 0 [] [])) (ckX K pl V x 1))) (D7 : D.1 3 7 = 0) (q35 : D.1 35 sz = nI 24) (q37 : D.1 37 sz = nI ρ) => hRr D (ex (ex N' b n') (b + 1) n') (ex (ex M' b ρ') (b + 1) ρ') (ex (ex L' b τ') (b + 1) τ') (b + 2) (sz + 1) ((pos + 3) :: (pos + 1) :: γ) n' ρ' τ' _ 24 ρ Q (by omega) ⟨Cz_base CD, ⟨by omega, by rw [Nat.add_sub_cancel]; exact q35, by omega, by rw [Nat.add_sub_cancel]; exact q37⟩, by omega, by omega⟩ D7 (by omega)
  rcases hr2 : Rr (b + 2) with ⟨e2, _ | y⟩
  · rw [pbd_none rfl]
    refine ⟨fun e he hRf => ?_, (fun e y he => by cases he)⟩
    cases he
    exact key (fun S' N' M' L' n' ρ' τ' kx D hbm P' hkx u1 u2 hρ' hτ' CD D7 fxD rn r12 rn2 d9 d10 dr dt dR q35 q36 q37 => (body N' M' L' n' ρ' τ' D hbm hρ' CD D7 q35 q37).1 e2 hr2 hRf)
  rw [pbd_some rfl]
  refine ⟨(fun e he => by cases he), fun e z he hK => ?_⟩
  cases he
  obtain ⟨wy, h91⟩ := hW _ _ _ hr2
  have hyp := Wt_lt wy
  have hyr := Wt_rt wy
  have hty := tyx_lt K V y
  refine key (fun S' N' M' L' n' ρ' τ' kx D hbm P' hkx u1 u2 hρ' hτ' CD D7 fxD rn r12 rn2 d9 d10 dr dt dR q35 q36 q37 => (body N' M' L' n' ρ' τ' D hbm hρ' CD D7 q35 q37).2 e2 y hr2 (fun S3 N5 M5 L5 n3 ρ3 τ3 P3 => ?_))
  have C3 := P3.1
  have F3 := C3.2.2.2.2.2
  have Fn := F3.1
  have hb3 := C3.1.bd
  have hpm3 := C3.1.pm
  have gD := CD.2.1
  obtain ⟨-, -, ny1, ny2, ny3, ny4, hn3, hρ3, hτ3, -⟩ := PX_kw P3 wy gD (show ρ < ρ' by omega) (by omega) (Fw_refl S3 n' n3 ρ' ρ3 τ3 _) (fun j _ => ⟨rfl, rfl, rfl⟩)
  obtain ⟨yt0, yt8, ytT, ytB, ytS⟩ := P3.2.2.1
  obtain ⟨ky, hky⟩ : ∃ ky, N5 (rtk y) = ky := ⟨_, rfl⟩
  rw [hky] at ny2 ny3 ny4 yt8 ytT ytB ytS
  have hky5 : ky < 512 := by omega
  have s35 : S3.1 35 sz = nI 24 := by rw [F3.2.2.2.2.1 35 sz (by omega) (by omega) (by omega)]; exact q35
  have s36 : S3.1 36 sz = nI n := by rw [F3.2.2.2.2.1 36 sz (by omega) (by omega) (by omega)]; exact q36
  obtain ⟨E, hE⟩ : ∃ E, E = uI (uI (ckS (cnS (uI S3 34 3 (nI sz)) ky 8 (nI n) (-1)) ky (nI 1)) 3 5 (nI γ.length)) 3 8 (nI n) := ⟨_, rfl⟩
  have rE : ∀ a j : Nat, a ≠ 3 → a ≠ 5 → (a ≠ 34 ∨ j ≠ 3) → (j ≠ ky ∨ a < 9 ∨ 11 < a) → E.1 a j = S3.1 a j := fun a j w1 w2 w3 w4 => by
    rw [hE, uI_ne (by omega), uI_ne (by omega), ck_ne (by omega), cn_ne (by omega), uI_ne (by omega)]
  have rEl : E.2.1 = S3.2.1 := by
    rw [hE]
    show (ckS (cnS (uI S3 34 3 (nI sz)) ky 8 (nI n) (-1)) ky (nI 1)).2.1 = _
    rw [ck_21]; rfl
  have C4 : Cz K pl V m S n ρ τ sz γ.length R S3 N5 M5 L5 e2 dep (sz + 1) ((pos + 3) :: (pos + 1) :: γ) n3 ρ3 τ3 (pl e2) (min (min (min f1 (pfc K pl V x γ 0 [] [])) (ckX K pl V x 1)) (pfc K pl V y ((pos + 3) :: (pos + 1) :: γ) 0 [] [])) := Cz_tr CD.2.2.2.2.2 C3 (by omega) (by omega) (by omega) (by omega) (by rw [List.length_cons, List.length_cons]; omega) (Or.inr (Nat.le_refl _))
  have CE : Cz K pl V m S n ρ τ sz γ.length R E N5 M5 L5 e2 dep sz γ n3 ρ3 τ3 (pl e2) (min (min (min (min f1 (pfc K pl V x γ 0 [] [])) (ckX K pl V x 1)) (pfc K pl V y ((pos + 3) :: (pos + 1) :: γ) 0 [] [])) (ckX K pl V y 1)) := by
    rw [hE]
    refine Cz_3 (Cz_fgt (δ := [pos + 3, pos + 1]) (Cz_ck (b := bgk y) (ty := tyk K (tv V) y) (Cz_cn (Cz_pop C4) 8 (nI n) (-1) (by omega)) ?_ ?_ (T.pl_ (by omega)) hty (by omega))) (by omega)
    · rw [cn_ne (by omega), uI_ne (by omega)]; exact ytT
    · rw [cn_ne (by omega), uI_ne (by omega)]; exact ytB
  have heb : f_X7_endByItself fu S3 = some ((), E) := by
    unfold f_X7_endByItself
    rw [c_topK C3.1.sz_ (by omega), s35]
    simp only [Option.bind_some]
    rw [c_pop C3.1.sz_ (by omega), s36]
    simp only [Option.bind_some]
    rw [if_neg (show ¬ nI 24 = (15 : Int32) by decide), if_neg (show ¬ nI 24 = (18 : Int32) by decide), if_neg (show ¬ nI 24 = (22 : Int32) by decide)]
    have c38 : (uI S3 34 3 (nI sz)).1 3 8 = nI ky := by rw [uI_ne (by omega)]; exact yt8
    rw [c38, c_conn hky5]
    have c38' : (cnS (uI S3 34 3 (nI sz)) ky 8 (nI n) (-1)).1 3 8 = nI ky := by rw [cn_ne (by omega)]; exact c38
    simp only [Option.bind_some, c38']
    have hck : f_X7_checkType (nI ky) 1 (cnS (uI S3 34 3 (nI sz)) ky 8 (nI n) (-1)) = some ((), ckS (cnS (uI S3 34 3 (nI sz)) ky 8 (nI n) (-1)) ky (nI 1)) := c_chk hky5 (nI 1)
    rw [hck]
    simp only [Option.bind_some]
    unfold f_X7_forget
    have c35 : (ckS (cnS (uI S3 34 3 (nI sz)) ky 8 (nI n) (-1)) ky (nI 1)).1 3 5 = nI (γ.length + 2) := by
      rw [ck_ne (by omega), cn_ne (by omega), uI_ne (by omega)]
      exact C3.1.kn
    simp only [Option.bind_some, c35]
    rw [show nI (γ.length + 2) - 2 = nI γ.length by rw [show (2 : Int32) = nI 2 from rfl, nI_sub (by omega), Nat.add_sub_cancel], hE]
  refine FZ_end hfu C3.1.sz_ (by omega) s35 (by omega) heb (by omega) ?_
  have hA5 : Ag N' M' L' N5 M5 L5 b := Ag_tr (Ag_tr (Ag_ex N' M' L' b n' ρ' τ') (Ag_ex _ _ _ (b + 1) n' ρ' τ') (by omega)) P3.2.1 (by omega)
  have hA3 : Ag N3 M3 L3 N5 M5 L5 (pos + 5) := Ag_tr P'.2.1 hA5 (by omega)
  have hA12 : Ag N M L N5 M5 L5 pos := Ag_tr hAg3 hA3 (by omega)
  have z0 : N5 pos = n := by rw [(hA3 pos (by omega)).1]; exact eN0
  have z1 : N5 (pos + 1) = n + 1 := by rw [(hA3 (pos + 1) (by omega)).1]; exact eN1
  have z2 : N5 (pos + 2) = n + 2 := by rw [(hA3 (pos + 2) (by omega)).1]; exact eN2
  have z3 : N5 (pos + 3) = n + 2 := by rw [(hA3 (pos + 3) (by omega)).1]; exact eN3
  have z4 : N5 (pos + 4) = n + 3 := by rw [(hA3 (pos + 4) (by omega)).1]; exact eN4
  have zM0 : M5 pos = ρ := by rw [(hA3 pos (by omega)).2.1]; exact eM0
  have zM1 : M5 (pos + 1) = ρ + 1 := by rw [(hA3 (pos + 1) (by omega)).2.1]; exact eM1
  have zL0 : L5 pos = τ := by rw [(hA3 pos (by omega)).2.2]; exact eL0
  have zL1 : L5 (pos + 1) = τ + 1 := by rw [(hA3 (pos + 1) (by omega)).2.2]; exact eL1
  have fxE : Fw S' E (n + 3) n' (ρ + 1) ρ' τ' kx := by
    have f1 := Fw_Fr fxD F3 (by omega) (by omega) (by omega) (Or.inl (show ρ < ρ + 1 by omega))
    rw [hE]
    exact Fw_uI (Fw_uI (Fw_ck (Fw_cn (Fw_uI f1 (by omega)) (by omega))) (by omega)) (by omega)
  obtain ⟨Gx, Sx, nx1', nx2', -⟩ := PX_kw P' wx gA (show R < ρ + 1 by omega) (by omega) (by rw [hkx]; exact fxE) hA5
  rw [hkx] at nx2'
  have fyE : Fw S3 E n' n3 ρ' ρ3 τ3 ky := by
    rw [hE]
    exact Fw_uI (Fw_uI (Fw_ck (Fw_cn (Fw_uI (Fw_refl S3 n' n3 ρ' ρ3 τ3 ky) (by omega)) (Or.inl rfl))) (by omega)) (by omega)
  obtain ⟨Gy, Sy, ny1', ny2', -⟩ := PX_kw P3 wy gD (show ρ < ρ' by omega) (by omega) (by rw [hky]; exact fyE) (fun j _ => ⟨rfl, rfl, rfl⟩)
  have ky9 : E.1 9 ky = 8 ∧ E.1 10 ky = nI n := by
    obtain ⟨c9, c10, -⟩ := cn_f (uI S3 34 3 (nI sz)) ky 8 (nI n) (-1)
    rw [hE, uI_ne (by omega), uI_ne (by omega), ck_ne (by omega), uI_ne (by omega), uI_ne (by omega), ck_ne (by omega)]
    exact ⟨c9, c10⟩
  have rE2 : ∀ a j : Nat, 7 ≤ a → a ≤ 20 → j < n' → E.1 a j = D.1 a j := fun a j w1 w2 w3 => by
    rw [rE a j (by omega) (by omega) (by omega) (by omega), Fn a j w1 w2 w3]
  have rE3 : ∀ a j : Nat, 7 ≤ a → a ≤ 20 → j < n + 3 → (a ≠ 12 ∨ j ≠ n) → E.1 a j = A.1 a j := fun a j w1 w2 w3 w4 => by
    rw [rE2 a j w1 w2 (by omega), rn a j w1 w2 w3 w4]
  have rE21 : ∀ j : Nat, j < n + 3 → E.2.1 21 j = A.2.1 21 j := fun j w => by rw [rEl, F3.2.1 j (by omega)]; exact rn2 j w
  have r27 : ∀ r : Nat, r < ρ + 1 → E.1 27 r = A.1 27 r := fun r hr' => by
    rw [rE 27 r (by omega) (by omega) (by omega) (by omega), (F3.2.2.1 r (by omega)).1]; exact (dr r hr').1
  have r29 : ∀ t : Nat, t < τ + 1 → E.1 29 t = A.1 29 t := fun t ht => by
    rw [rE 29 t (by omega) (by omega) (by omega) (by omega), F3.2.2.2.1 t (by omega)]; exact dt t ht
  have E26R : E.1 26 R = S'.1 26 R := by
    rw [rE 26 R (by omega) (by omega) (by omega) (by omega), (F3.2.2.1 R (by omega)).2 (by omega)]; exact dR
  have E26a : E.1 26 ρ = S3.1 26 ρ := rE 26 ρ (by omega) (by omega) (by omega) (by omega)
  have dρ : D.1 26 ρ = -1 := by rw [(dr ρ (by omega)).2 (by omega)]; exact A26a
  have PE : PX K pl V m S N M L pos dep sz γ n ρ τ f R E N5 M5 L5 n3 ρ3 τ3 e2 (aTab pos x y) := by
    refine ⟨?_, hA12, ⟨?_, ?_, ?_, ?_, ?_⟩, fun hz => ?_, ?_, ?_⟩
    · have hmin : min (min (min (min f1 (pfc K pl V x γ 0 [] [])) (ckX K pl V x 1)) (pfc K pl V y ((pos + 3) :: (pos + 1) :: γ) 0 [] [])) (ckX K pl V y 1) = min f (pfc K pl V (aTab pos x y) γ 0 [] []) := by rw [pfc_tab, show f1 = _ from hf1]; simp only [Nat.min_assoc]
      rw [← hmin]
      exact CE
    · show N5 pos < N5 (pos + 1); omega
    · show E.1 3 8 = nI (N5 pos); rw [z0, hE, uI_eq]
    · show E.1 8 (N5 pos) = nI 3; rw [z0, rE3 8 n (by omega) (by omega) (by omega) (by omega)]; exact n8
    · show E.1 20 (N5 pos) = nI (pl pos); rw [z0, rE3 20 n (by omega) (by omega) (by omega) (by omega)]; exact n20
    · show E.1 14 (N5 pos) = -1; rw [z0, rE3 14 n (by omega) (by omega) (by omega) (by omega)]; exact n14
    · rw [pfc_tab] at hz
      simp only [Nat.le_min] at hz
      obtain ⟨-, -, -, -, hz1, -, hz2, -⟩ := hz
      rw [G_tab]
      refine ⟨⟨by omega, ?_, ?_, ?_, ?_, ?_⟩, ?_, ⟨nx1', ?_, ?_⟩, ?_, ⟨?_, ?_, ?_, ?_⟩, ⟨?_, ?_, ?_, ?_⟩, ?_, ?_, by omega, by omega, ?_, ?_, ?_, ?_, ?_, ⟨ny1', ?_, ?_⟩, ?_, Gx hz1, ?_⟩
      · rw [z0, rE3 7 n (by omega) (by omega) (by omega) (by omega)]; exact n7
      · rw [z0, rE3 8 n (by omega) (by omega) (by omega) (by omega)]; exact n8
      · rw [z0, rE21 n (by omega)]; exact n21
      · rw [z0, rE3 17 n (by omega) (by omega) (by omega) (by omega), r27 R (by omega)]; exact n17
      · rw [z0, rE3 19 n (by omega) (by omega) (by omega) (by omega)]; exact n19
      · rw [z0, nx2', rE2 12 n (by omega) (by omega) (by omega)]; exact r12
      · rw [nx2', rE2 9 kx (by omega) (by omega) (by omega)]; exact d9
      · rw [nx2', rE2 10 kx (by omega) (by omega) (by omega), z0]; exact d10
      · rw [z0, z1, rE3 13 n (by omega) (by omega) (by omega) (by omega)]; exact n13
      · rw [z1, show N5 (pos + 1 + 1) = n + 2 from z2]; omega
      · rw [z1, rE3 7 (n + 1) (by omega) (by omega) (by omega) (by omega)]; exact v7
      · rw [z1, rE3 8 (n + 1) (by omega) (by omega) (by omega) (by omega)]; exact v8
      · rw [z1, rE21 (n + 1) (by omega)]; exact v21
      · rw [z3, show N5 (pos + 3 + 1) = n + 3 from z4]; omega
      · rw [z3, rE3 7 (n + 2) (by omega) (by omega) (by omega) (by omega)]; exact w7
      · rw [z3, rE3 8 (n + 2) (by omega) (by omega) (by omega) (by omega)]; exact w8
      · rw [z3, rE21 (n + 2) (by omega)]; exact w21
      · rw [z1, z3, rE3 14 (n + 1) (by omega) (by omega) (by omega) (by omega)]; exact v14
      · rw [z3, z0, rE3 10 (n + 2) (by omega) (by omega) (by omega) (by omega)]; exact w10
      · rw [z0, zM0, rE3 15 n (by omega) (by omega) (by omega) (by omega)]; exact n15
      · rw [zM0, zL0, r27 ρ (by omega)]; exact A27a
      · rw [zL0]
        obtain ⟨T0, d0, y1, y2, y3, y4⟩ := Adp
        exact ⟨T0, d0, y1, by rw [r27 R (by omega)]; exact y2, by rw [r29 T0 (by omega)]; exact y3, by rw [r29 τ (by omega)]; exact y4⟩
      · rw [z1, zL0, rE3 17 (n + 1) (by omega) (by omega) (by omega) (by omega)]; exact v17
      · rw [z3, zL0, rE3 17 (n + 2) (by omega) (by omega) (by omega) (by omega)]; exact w17
      · rw [hky]; exact ky9.1
      · rw [hky, z0]; exact ky9.2
      · rw [zM0, E26a]
        rw [dρ] at Sy
        exact Sy
      · rw [zM0]; exact Gy hz2
    · show Seg E N5 (E.1 26 R) (lvs x) (S.1 26 R)
      rw [E26R, ← A26]
      exact Sx
    · have CIx := PX_ci P' wx gA (by rw [hkx]; exact fxE.1) fxE.2.1 hA5
      have CIy := PX_ci P3 wy gD (by rw [hky]; exact fyE.1) fyE.2.1 (fun j _ => ⟨rfl, rfl, rfl⟩)
      show CI K pl V E N5 pos e2 pos (cls x ++ cls y)
      have nb : N5 b = n' := by rw [(hA5 b (Nat.le_refl _)).1]; exact P'.1.2.1.1
      have nb1 : N5 (b + 2) = n' := by rw [(P3.2.1 (b + 2) (Nat.le_refl _)).1, ex_gt (by omega)]
      have n5 : N5 (pos + 5) = n + 3 := by rw [(hA3 (pos + 5) (Nat.le_refl _)).1]; exact gA.1
      have h1 := CI_seq (t0 := pos) CIx CIy (by omega) (by omega) (by omega) (fun k k1 k2 => by rw [nb] at k1; rw [nb1] at k2; omega) (Or.inl (by omega))
      refine CI_wid h1 (by omega) (Nat.le_refl _) (fun k k1 k2 => ?_) (fun k k1 k2 => absurd k1 (by omega)) (Or.inr (Or.inr rfl))
      rw [z0] at k1
      rw [n5] at k2
      rcases (show k = n ∨ k = n + 1 ∨ k = n + 2 by omega) with z | z | z
      · rw [z, rE3 7 n (by omega) (by omega) (by omega) (by omega), n7]; exact k8 (by omega) (by omega)
      · rw [z, rE3 7 (n + 1) (by omega) (by omega) (by omega) (by omega), v7]; exact k8 (c := 3) (by omega) (by omega)
      · rw [z, rE3 7 (n + 2) (by omega) (by omega) (by omega) (by omega), w7]; exact k8 (c := 3) (by omega) (by omega)
  exact (hK E N5 M5 L5 n3 ρ3 τ3 PE).2 h91
end CTC
