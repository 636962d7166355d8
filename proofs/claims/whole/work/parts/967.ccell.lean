/-! the class's parser: [ ] behind an operand -/
theorem Ag_tr {N M L N1 M1 L1 N2 M2 L2 : Nat → Nat} {p q : Nat} (a : Ag N M L N1 M1 L1 p) (b : Ag N1 M1 L1 N2 M2 L2 q) (h : p ≤ q) : Ag N M L N2 M2 L2 p := fun j hj => ⟨((b j (by omega)).1).trans (a j hj).1, ((b j (by omega)).2.1).trans (a j hj).2.1, ((b j (by omega)).2.2).trans (a j hj).2.2⟩
theorem Ag_ex (N M L : Nat → Nat) (p a b c : Nat) : Ag N M L (ex N p a) (ex M p b) (ex L p c) p := fun _ hj => ⟨ex_le hj, ex_le hj, ex_le hj⟩
theorem Tp_Fr {S S' : im_S} {n ρ τ sz kn R0 k R : Nat} (F : Fr S S' n ρ τ sz kn R0) (h : Tp S sz k R) : Tp S' sz k R := by
  obtain ⟨h1, h2, h3, h4⟩ := h
  obtain ⟨-, -, -, -, a5, -⟩ := F
  exact ⟨h1, by rw [a5 35 (sz - 1) (by omega) (by omega) (by omega)]; exact h2, h3, by rw [a5 37 (sz - 1) (by omega) (by omega) (by omega)]; exact h4⟩
section CCL
variable {K pl : Nat → Nat} {V : Nat → Int64} {m fu : Nat} {Q : Int32 → im_S → Prop} {S : im_S} {N M L : Nat → Nat} {pos dep sz n ρ τ f R : Nat} {γ : List Nat}
theorem FS_le {S : im_S} {f : Nat} (h : FS S f) : f ≤ 4000 := by
  rcases h with ⟨h, -⟩ | ⟨k, p, -, h1, h2, -, -, h3⟩
  · omega
  · omega
set_option maxHeartbeats 4000000 in
theorem k_cells (T : TH K pl V m) (hfu : 600 ≤ fu) {R1 : Nat → PR} {p0 : Nat} (hR1 : HXc K pl V m fu R1 (dep + 1) p0) (hW1 : WR K R1) (hg : Gh N M L pos n ρ τ γ) {k : Nat} (hTp : Tp S sz k R) (hR : R < ρ) (hpos : 0 < pos) :
    ∀ (q : Nat) (x : TR) (S1 : im_S) (N1 M1 L1 : Nat → Nat) (n1 ρ1 τ1 p : Nat), p0 ≤ p + 1 → m < q + p → Wt K x pos p 0 → PX K pl V m S N M L pos dep sz γ n ρ τ f R S1 N1 M1 L1 n1 ρ1 τ1 p x → S1.1 3 7 = 2 →
    (∀ e, pCel K R1 q x p = (e, none) → Rf pl e Q → Lp m fu p S1 Q) ∧ ∀ e y, pCel K R1 q x p = (e, some y) → Kx K pl V m S N M L pos dep sz γ n ρ τ f R e y (fun S' => Fl K m fu e sz true S' Q) → Lp m fu p S1 Q := by
  intro q
  induction q with
  | zero => intro x S1 N1 M1 L1 n1 ρ1 τ1 p _ hq _ P; have := P.1.1.pm; omega
  | succ q ih =>
    intro x S1 N1 M1 L1 n1 ρ1 τ1 p hp0 hq w P hd2
    have C1 := P.1
    have hpm := C1.1.pm
    have hbd := C1.1.bd
    have hm := T.m_
    have hTp1 := Tp_Fr C1.2.2.2.2.2 hTp
    rw [pCel]
    by_cases h91 : ¬ K p = 91
    · rw [if_neg h91]
      refine ⟨(fun e he => by cases he), fun e y he hK => ?_⟩
      cases he
      exact Lp_fo T C1.1 hfu hTp1.1 hd2 h91 (hK _ _ _ _ _ _ _ P)
    have h91 : K p = 91 := Decidable.not_not.mp h91
    rw [if_pos h91]
    have hp := K_lt T.end_ hpm h91 (by decide) (by decide)
    obtain ⟨-, -, nx1, nx2, nx3, nx4, hn1, hρ1, hτ1, hpp⟩ := PX_keep P w hg hR hpos (Fx_refl S1 n n1 ρ1 τ1 R _) (fun j _ => ⟨rfl, rfl, rfl⟩)
    have hRt := P.2.2.1
    obtain ⟨rt0, rt8, rtT, rtB, rtS⟩ := hRt
    generalize hkx : N1 (rtk x) = kx at *
    have hst := T.st_ hp
    have hwl := wl_ge (K p)
    -- the opening
    obtain ⟨A1, a0, CA, ndA, fz, rd, rd2, -, nl, fx⟩ := c_here T C1 hTp1 (show R < ρ1 by omega) (Or.inl rfl) hn1 (pl_B T hpm) hp 6 (by omega) 1 0
    have nl := nl (by omega)
    have eN1 : N1 p = n1 := C1.2.1.1
    have en : ex N1 p (n1 + 1) p = n1 := by rw [ex_le (Nat.le_refl _)]; exact eN1
    have en1 : ex N1 p (n1 + 1) (p + 1) = n1 + 1 := ex_gt (by omega)
    have hkx5 : kx < 512 := by omega
    have a38 : A1.1 3 8 = nI kx := by rw [rd 3 8 (by omega) (by omega) (by omega) (by omega) (by omega)]; exact rt8
    have a20 : A1.1 20 kx = nI (pl (bgk x)) := by rw [rd 20 kx (by omega) (by omega) (by omega) (by omega) (by omega)]; exact rtB
    have a8 : A1.1 8 kx = nI (tyk K (tv V) x) := by rw [rd 8 kx (by omega) (by omega) (by omega) (by omega) (by omega)]; exact rtT
    have hty := tyx_lt K V x
    have hbg := Wt_rt w
    obtain ⟨A, hA⟩ : ∃ A, A = uI (psS (uI (ckS (cnS (uI (uI A1 12 n1 (nI kx)) 20 n1 (nI (pl (bgk x)))) kx 2 (nI n1) (-1)) kx (nI 3)) 3 9 (nI (dep + 1))) sz 12 (nI n1) (nI R)) 3 7 0 := ⟨_, rfl⟩
    have rdA : ∀ a j : Nat, (a ≠ 3 ∨ (j ≠ 9 ∧ j ≠ 7)) → (a < 34 ∨ 37 < a) → a ≠ 5 → (j ≠ kx ∨ a < 9 ∨ 11 < a) → (j ≠ n1 ∨ (a ≠ 12 ∧ a ≠ 20)) → A.1 a j = A1.1 a j := by
      intro a j h1 h2 h3 h4 h5
      rw [hA, uI_ne (by omega), ps_ne (by omega), uI_ne (by omega), ck_ne (by omega), cn_ne (by omega), uI_ne (by omega), uI_ne (by omega)]
    have rdA21 : ∀ a j : Nat, A.2.1 a j = A1.2.1 a j := by
      intro a j
      rw [hA]
      show (ckS (cnS (uI (uI A1 12 n1 (nI kx)) 20 n1 (nI (pl (bgk x)))) kx 2 (nI n1) (-1)) kx (nI 3)).2.1 a j = _
      rw [ck_21]
      rfl
    have CAf : Cz K pl V m S n ρ τ sz γ.length R A (ex N1 p (n1 + 1)) (ex M1 p ρ1) (ex L1 p τ1) (p + 1) (dep + 1) (sz + 1) γ (n1 + 1) ρ1 τ1 (pl (p + 1)) (min (min f (pfc K pl V x γ 0 [] [])) (ckX K pl V x 3)) := by
      rw [hA]
      refine Cz_3 (Cz_push (Cz_9 (Cz_B (Cz_ck (b := bgk x) (ty := tyk K (tv V) x) (Cz_cn (Cz_nd (Cz_nd CA (by omega) (by omega)) (by omega) (by omega)) 2 (nI n1) (-1) (by omega)) ?_ ?_ (T.pl_ (by omega)) hty (by omega)) (show pl p + 1 ≤ pl (p + 1) by omega)) (dep + 1)) 12 (nI n1) (nI R) (by omega) (Nat.le_refl _)) (by omega)
      · rw [cn_ne (by omega), uI_ne (by omega), uI_ne (by omega)]; exact a8
      · rw [cn_ne (by omega), uI_ne (by omega), uI_ne (by omega)]; exact a20
    have hop : f_X7_openElement S1 = some (1, A) := by
      unfold f_X7_openElement
      have b0 : f_X7_addHere 6 1 0 S1 = some (nI n1, A1) := a0
      rw [b0]
      simp only [Option.bind_some, a38, mI_in (a := n1) (n := 512) (by omega) (by omega), mI_in (a := kx) (n := 512) (by omega) hkx5, nI_clamp (show n1 < 2 ^ 31 by omega), nI_clamp (show kx < 2 ^ 31 by omega), gd_t, a20]
      rw [c_conn hkx5]
      simp only [Option.bind_some]
      have e38 : (cnS (uI (uI A1 12 n1 (nI kx)) 20 n1 (nI (pl (bgk x)))) kx 2 (nI n1) (-1)).1 3 8 = nI kx := by rw [cn_ne (by omega), uI_ne (by omega), uI_ne (by omega)]; exact a38
      rw [e38, show (3 : Int32) = nI 3 from rfl, c_chk hkx5]
      simp only [Option.bind_some]
      have e39 : (ckS (cnS (uI (uI A1 12 n1 (nI kx)) 20 n1 (nI (pl (bgk x)))) kx 2 (nI n1) (-1)) kx (nI 3)).1 3 9 = nI dep := by rw [ck_ne (by omega), cn_ne (by omega), uI_ne (by omega), uI_ne (by omega)]; exact CA.1.dp
      rw [e39, show nI dep + 1 = nI (dep + 1) from nI_add dep 1]
      obtain ⟨sz', rfl⟩ : ∃ z, sz = z + 1 := ⟨sz - 1, by have := hTp.1; omega⟩
      have e34 : (uI (ckS (cnS (uI (uI A1 12 n1 (nI kx)) 20 n1 (nI (pl (bgk x)))) kx 2 (nI n1) (-1)) kx (nI 3)) 3 9 (nI (dep + 1))).1 34 3 = nI (sz' + 1) := by rw [uI_ne (by omega), ck_ne (by omega), cn_ne (by omega), uI_ne (by omega), uI_ne (by omega)]; exact CA.1.sz_
      have e37 : (uI (ckS (cnS (uI (uI A1 12 n1 (nI kx)) 20 n1 (nI (pl (bgk x)))) kx 2 (nI n1) (-1)) kx (nI 3)) 3 9 (nI (dep + 1))).1 37 sz' = nI R := by
        rw [uI_ne (by omega), ck_ne (by omega), cn_ne (by omega), uI_ne (by omega), uI_ne (by omega), rd 37 sz' (by omega) (by omega) (by omega) (by omega) (by omega)]
        have := hTp1.2.2.2
        rw [Nat.add_sub_cancel] at this
        exact this
      rw [c_topR e34 (by omega), e37]
      simp only [Option.bind_some]
      unfold f_X7_open
      rw [c_push e34 (by omega)]
      simp only [Option.bind_some, show z_b 1 = true from rfl, gd_t]
      rw [hA]
    have A7 : A.1 3 7 = 0 := by rw [hA, uI_eq]
    obtain ⟨p35, p36, p37, p34⟩ := ps_f (uI (ckS (cnS (uI (uI A1 12 n1 (nI kx)) 20 n1 (nI (pl (bgk x)))) kx 2 (nI n1) (-1)) kx (nI 3)) 3 9 (nI (dep + 1))) sz 12 (nI n1) (nI R)
    have A35 : A.1 35 sz = nI 12 := by rw [hA, uI_ne (by omega)]; exact p35
    have A36 : A.1 36 sz = nI n1 := by rw [hA, uI_ne (by omega)]; exact p36
    have A37 : A.1 37 sz = nI R := by rw [hA, uI_ne (by omega)]; exact p37
    have A12 : A.1 12 n1 = nI kx := by rw [hA, uI_ne (by omega), ps_ne (by omega), uI_ne (by omega), ck_ne (by omega), cn_ne (by omega), uI_ne (by omega), uI_eq]
    have A20 : A.1 20 n1 = nI (pl (bgk x)) := by rw [hA, uI_ne (by omega), ps_ne (by omega), uI_ne (by omega), ck_ne (by omega), cn_ne (by omega), uI_eq]
    have A9 : A.1 9 kx = 2 ∧ A.1 10 kx = nI n1 := by
      obtain ⟨c9, c10, -⟩ := cn_f (uI (uI A1 12 n1 (nI kx)) 20 n1 (nI (pl (bgk x)))) kx 2 (nI n1) (-1)
      rw [hA, uI_ne (by omega), ps_ne (by omega), uI_ne (by omega), ck_ne (by omega), uI_ne (by omega), ps_ne (by omega), uI_ne (by omega), ck_ne (by omega)]
      exact ⟨c9, c10⟩
    have A26 : A.1 26 R = S1.1 26 R := by rw [rdA 26 R (by omega) (by omega) (by omega) (by omega) (by omega)]; exact nl
    have fxA : Fx S1 A n n1 ρ1 τ1 R kx := by
      rw [hA]
      exact Fx_uI (Fx_ps (Fx_uI (Fx_ck (Fx_cn (Fx_uI (Fx_uI (fx n n1 ρ1 τ1 R kx (Nat.le_refl _) (Or.inl rfl)) (by omega)) (by omega)) (Or.inl rfl))) (by omega))) (by omega)
    have ndA' : nd pl A (ex N1 p (n1 + 1)) 6 1 0 p R := by
      obtain ⟨b0, b1, b2, b3, b4, b5⟩ := ndA
      rw [en] at b1 b2 b3 b4 b5
      refine ⟨b0, ?_, ?_, ?_, ?_, ?_⟩
      · rw [en, rdA 7 n1 (by omega) (by omega) (by omega) (by omega) (by omega)]; exact b1
      · rw [en, rdA 8 n1 (by omega) (by omega) (by omega) (by omega) (by omega)]; exact b2
      · rw [en, rdA21]; exact b3
      · rw [en, rdA 17 n1 (by omega) (by omega) (by omega) (by omega) (by omega), rdA 27 R (by omega) (by omega) (by omega) (by omega) (by omega)]; exact b4
      · rw [en, rdA 19 n1 (by omega) (by omega) (by omega) (by omega) (by omega)]; exact b5
    have A14 : A.1 14 n1 = -1 := by rw [rdA 14 n1 (by omega) (by omega) (by omega) (by omega) (by omega)]; exact fz.2.2.2.2.2.1
    have hBg : Bg K pl V m A (ex N1 p (n1 + 1)) (ex M1 p ρ1) (ex L1 p τ1) (p + 1) (dep + 1) (sz + 1) γ (n1 + 1) ρ1 τ1 (min (min f (pfc K pl V x γ 0 [] [])) (ckX K pl V x 3)) 12 R := ⟨Cz_base CAf, ⟨by omega, by rw [Nat.add_sub_cancel]; exact A35, by omega, by rw [Nat.add_sub_cancel]; exact A37⟩, by omega, by omega⟩
    have gA := CAf.2.1
    obtain ⟨hN, hS⟩ := hR1 A (ex N1 p (n1 + 1)) (ex M1 p ρ1) (ex L1 p τ1) (p + 1) (sz + 1) γ (n1 + 1) ρ1 τ1 _ 12 R Q hp0 hBg A7 (by omega)
    rcases hr : R1 (p + 1) with ⟨b, _ | z⟩
    · rw [pbd_none rfl]
      refine ⟨fun e he hRf => ?_, (fun e y he => by cases he)⟩
      cases he
      exact Lp_cell T C1.1 hd2 h91 hop (by omega) (by omega) (hN b hr hRf)
    rw [pbd_some rfl]
    obtain ⟨wz, -⟩ := hW1 _ _ _ hr
    have hzp := Wt_lt wz
    have hzr := Wt_rt wz
    unfold pw
    by_cases h93 : ¬ K b = 93
    · rw [if_neg h93]
      refine ⟨fun e he hRf => ?_, (fun e y he => by cases he)⟩
      cases he
      refine Lp_cell T C1.1 hd2 h91 hop (by omega) (by omega) (hS b z hr (fun S' N' M' L' n' ρ' τ' P' => ?_))
      have C' := P'.1
      have F' := C'.2.2.2.2.2
      have b35 : S'.1 35 sz = nI 12 := by rw [F'.2.2.2.2.1 35 sz (by omega) (by omega) (by omega)]; exact A35
      have hb2 := C'.1.bd
      have hpm2 := C'.1.pm
      refine FZ_cl hfu C'.1.sz_ (by omega) b35 (by omega) (by omega) (by omega) (r := 0) (S1 := rcS S' (pl b)) ?_ hpm2 (Or.inl ⟨rfl, Rf_rc hRf⟩) (pos1 := 0)
      rw [cl_12 C'.1.sz_ (by omega) b35, show (93 : Int32) = nI 93 from rfl, c_take T C'.1 93 (by omega), if_neg h93]
      rfl
    have h93 : K b = 93 := Decidable.not_not.mp h93
    rw [if_pos h93]
    have key : (∀ (S4 : im_S) (N4 M4 L4 : Nat → Nat) (n4 ρ4 τ4 : Nat), PX K pl V m S N M L pos dep sz γ n ρ τ f R S4 N4 M4 L4 n4 ρ4 τ4 (b + 1) (aCel p x z) → S4.1 3 7 = 2 → Lp m fu (b + 1) S4 Q) → Lp m fu p S1 Q := by
      intro hL
      refine Lp_cell T C1.1 hd2 h91 hop (by omega) (by omega) (hS b z hr (fun S' N' M' L' n' ρ' τ' P' => ?_))
      have C' := P'.1
      have F' := C'.2.2.2.2.2
      have hb2 := C'.1.bd
      have hpm2 := C'.1.pm
      have b35 : S'.1 35 sz = nI 12 := by rw [F'.2.2.2.2.1 35 sz (by omega) (by omega) (by omega)]; exact A35
      have b36 : S'.1 36 sz = nI n1 := by rw [F'.2.2.2.2.1 36 sz (by omega) (by omega) (by omega)]; exact A36
      have hbm := K_lt T.end_ hpm2 h93 (by decide) (by decide)
      obtain ⟨-, -, nz1, nz2, nz3, nz4, hn', hρ', hτ', -⟩ := PX_keep P' wz gA (show R < ρ1 by omega) (by omega) (Fx_refl S' (n1 + 1) n' ρ' τ' R _) (fun j _ => ⟨rfl, rfl, rfl⟩)
      obtain ⟨zt0, zt8, ztT, ztB, ztS⟩ := P'.2.2.1
      generalize hkz : N' (rtk z) = kz at *
      have hstb := T.st_ hbm
      have hwlb := wl_ge (K b)
      have hkz5 : kz < 512 := by omega
      have htz := tyx_lt K V z
      obtain ⟨E, hE⟩ : ∃ E, E = uI (uI (uI (ckS (cnS (uI (uI (ad6 S' (b + 1)) 34 3 (nI sz)) 13 n1 (nI kz)) kz 2 (nI n1) (-1)) kz (nI 1)) 3 9 (nI dep)) 3 8 (nI n1)) 3 7 2 := ⟨_, rfl⟩
      have rdE : ∀ a j : Nat, a ≠ 3 → (a ≠ 34 ∨ j ≠ 3) → a ≠ 5 → (a ≠ 13 ∨ j ≠ n1) → (j ≠ kz ∨ a < 9 ∨ 11 < a) → E.1 a j = S'.1 a j := by
        intro a j h1 h2 h3 h4 h5
        rw [hE]
        unfold ad6
        rw [uI_ne (by omega), uI_ne (by omega), uI_ne (by omega), ck_ne (by omega), cn_ne (by omega), uI_ne (by omega), uI_ne (by omega), uI_ne (by omega)]
      have rdE21 : ∀ a j : Nat, E.2.1 a j = S'.2.1 a j := by
        intro a j
        rw [hE]
        show (ckS (cnS (uI (uI (ad6 S' (b + 1)) 34 3 (nI sz)) 13 n1 (nI kz)) kz 2 (nI n1) (-1)) kz (nI 1)).2.1 a j = _
        rw [ck_21]
        rfl
      have C2 : Cz K pl V m S n ρ τ sz γ.length R S' N' M' L' b (dep + 1) (sz + 1) γ n' ρ' τ' (pl b) (min (min (min f (pfc K pl V x γ 0 [] [])) (ckX K pl V x 3)) (pfc K pl V z γ 0 [] [])) := Cz_tr CAf.2.2.2.2.2 C' (by omega) hρ1 hτ1 (by omega) (Nat.le_refl _) (Or.inl rfl)
      have CE : Cz K pl V m S n ρ τ sz γ.length R E (ex N' b n') (ex M' b ρ') (ex L' b τ') (b + 1) dep sz γ n' ρ' τ' (pl (b + 1)) (min (min (min (min f (pfc K pl V x γ 0 [] [])) (ckX K pl V x 3)) (pfc K pl V z γ 0 [] [])) (ckX K pl V z 1)) := by
        rw [hE]
        refine Cz_3 (Cz_3 (Cz_9 (Cz_B (Cz_ck (b := bgk z) (ty := tyk K (tv V) z) (Cz_cn (Cz_nd (Cz_pop (Cz_ad T C2 hbm)) (by omega) (by omega)) 2 (nI n1) (-1) (by omega)) ?_ ?_ (T.pl_ (by omega)) htz (by omega)) (show pl b ≤ pl (b + 1) by omega)) dep) (by omega)) (by omega)
        · unfold ad6; rw [cn_ne (by omega), uI_ne (by omega), uI_ne (by omega), uI_ne (by omega)]; exact ztT
        · unfold ad6; rw [cn_ne (by omega), uI_ne (by omega), uI_ne (by omega), uI_ne (by omega)]; exact ztB
      have hcl : f_X7_close fu (nI (K b)) S' = some (1, E) := by
        rw [cl_12 C'.1.sz_ (by omega) b35, show (93 : Int32) = nI 93 from rfl, c_take T C'.1 93 (by omega), if_pos h93]
        simp only [Option.bind_some]
        rw [if_neg (show ¬ (1 : Int32) = 0 by decide)]
        unfold f_X7_endElement
        have c34 : (ad6 S' (b + 1)).1 34 3 = nI (sz + 1) := by unfold ad6; rw [uI_ne (by omega)]; exact C'.1.sz_
        have c36 : (ad6 S' (b + 1)).1 36 sz = nI n1 := by unfold ad6; rw [uI_ne (by omega)]; exact b36
        rw [c_pop c34 (by omega), c36]
        simp only [Option.bind_some, mI_in (a := n1) (n := 512) (by omega) (by omega), nI_clamp (show n1 < 2 ^ 31 by omega), gd_t]
        have c38 : (uI (ad6 S' (b + 1)) 34 3 (nI sz)).1 3 8 = nI kz := by unfold ad6; rw [uI_ne (by omega), uI_ne (by omega)]; exact zt8
        rw [c38, c_conn hkz5]
        simp only [Option.bind_some]
        have c38' : (cnS (uI (uI (ad6 S' (b + 1)) 34 3 (nI sz)) 13 n1 (nI kz)) kz 2 (nI n1) (-1)).1 3 8 = nI kz := by rw [cn_ne (by omega), uI_ne (by omega)]; exact c38
        have hck : f_X7_checkType (nI kz) 1 (cnS (uI (uI (ad6 S' (b + 1)) 34 3 (nI sz)) 13 n1 (nI kz)) kz 2 (nI n1) (-1)) = some ((), ckS (cnS (uI (uI (ad6 S' (b + 1)) 34 3 (nI sz)) 13 n1 (nI kz)) kz 2 (nI n1) (-1)) kz (nI 1)) := c_chk hkz5 (nI 1)
        rw [c38', hck]
        simp only [Option.bind_some]
        have c39 : (ckS (cnS (uI (uI (ad6 S' (b + 1)) 34 3 (nI sz)) 13 n1 (nI kz)) kz 2 (nI n1) (-1)) kz (nI 1)).1 3 9 = nI (dep + 1) := by unfold ad6; rw [ck_ne (by omega), cn_ne (by omega), uI_ne (by omega), uI_ne (by omega), uI_ne (by omega)]; exact C'.1.dp
        have dd : nI (dep + 1) - 1 = nI dep := by rw [show (1 : Int32) = nI 1 from rfl, nI_sub (by omega), Nat.add_sub_cancel]
        rw [c39, dd, c_endO]
        simp only [Option.bind_some]
        rw [hE]
        rfl
      refine FZ_cl hfu C'.1.sz_ (by omega) b35 (by omega) (by omega) (by omega) (pos1 := b + 1) hcl hpm2 (Or.inr ⟨rfl, by omega, by omega, ?_⟩)
      have hA12 : Ag N1 M1 L1 (ex N' b n') (ex M' b ρ') (ex L' b τ') p := Ag_tr (Ag_ex N1 M1 L1 p _ _ _) (Ag_tr P'.2.1 (Ag_ex N' M' L' b _ _ _) (by omega)) (by omega)
      have eN3 : ex N' b n' p = n1 := by rw [(hA12 p (Nat.le_refl _)).1]; exact eN1
      have eN3' : ex N' b n' (p + 1) = n1 + 1 := by rw [ex_le (by omega), (P'.2.1 (p + 1) (Nat.le_refl _)).1]; exact en1
      -- what x left, what z left
      have fxE : Fx S1 E n n1 ρ1 τ1 R kx := by
        have f1 := Fx_Fr fxA F' (by omega) (Nat.le_refl _) (Nat.le_refl _) (Or.inl rfl)
        rw [hE]
        unfold ad6
        exact Fx_uI (Fx_uI (Fx_uI (Fx_ck (Fx_cn (Fx_uI (Fx_uI (Fx_uI f1 (by omega)) (by omega)) (by omega)) (by omega))) (by omega)) (by omega)) (by omega)
      obtain ⟨Gx, Sx, nx1', nx2', -⟩ := PX_keep P w hg hR hpos (by rw [hkx]; exact fxE) hA12
      have fzE : Fx S' E (n1 + 1) n' ρ' τ' R kz := by
        rw [hE]
        unfold ad6
        exact Fx_uI (Fx_uI (Fx_uI (Fx_ck (Fx_cn (Fx_uI (Fx_uI (Fx_uI (Fx_refl S' (n1 + 1) n' ρ' τ' R kz) (by omega)) (by omega)) (by omega)) (Or.inl rfl))) (by omega)) (by omega)) (by omega)
      obtain ⟨Gz, Sz, nz1', nz2', -⟩ := PX_keep P' wz gA (show R < ρ1 by omega) (by omega) (by rw [hkz]; exact fzE) (Ag_ex N' M' L' b n' ρ' τ')
      rw [hkx] at nx2'
      rw [hkz] at nz2'
      have Fn := F'.1
      have e13 : E.1 13 n1 = nI kz := by
        rw [hE]
        unfold ad6
        rw [uI_ne (by omega), uI_ne (by omega), uI_ne (by omega), ck_ne (by omega), cn_ne (by omega), uI_eq]
      have ez9 : E.1 9 kz = 2 ∧ E.1 10 kz = nI n1 := by
        obtain ⟨c9, c10, -⟩ := cn_f (uI (uI (ad6 S' (b + 1)) 34 3 (nI sz)) 13 n1 (nI kz)) kz 2 (nI n1) (-1)
        rw [hE, uI_ne (by omega), uI_ne (by omega), uI_ne (by omega), ck_ne (by omega), uI_ne (by omega), uI_ne (by omega), uI_ne (by omega), ck_ne (by omega)]
        exact ⟨c9, c10⟩
      have ex9 : E.1 9 kx = 2 ∧ E.1 10 kx = nI n1 := by
        rw [rdE 9 kx (by omega) (by omega) (by omega) (by omega) (by omega), rdE 10 kx (by omega) (by omega) (by omega) (by omega) (by omega), Fn 9 kx (by omega) (by omega) (by omega), Fn 10 kx (by omega) (by omega) (by omega)]
        exact A9
      have rdn : ∀ a : Nat, 7 ≤ a → a ≤ 20 → a ≠ 13 → E.1 a n1 = A.1 a n1 := fun a h1 h2 h3 => by
        rw [rdE a n1 (by omega) (by omega) (by omega) (by omega) (by omega), Fn a n1 h1 h2 (by omega)]
      have e27 : E.1 27 R = A.1 27 R := by rw [rdE 27 R (by omega) (by omega) (by omega) (by omega) (by omega)]; exact (F'.2.2.1 R (by omega)).1
      refine hL E (ex N' b n') (ex M' b ρ') (ex L' b τ') n' ρ' τ' ⟨?_, ?_, ?_, fun hz => ?_, ?_, ?_⟩ (by rw [hE, uI_eq])
      · have hpf : pfc K pl V (aCel p x z) γ 0 [] [] = min (pfc K pl V x γ 0 [] []) (min (ckX K pl V x 3) (min (pfc K pl V z γ 0 [] []) (ckX K pl V z 1))) := rfl
        have hmin : min (min (min (min f (pfc K pl V x γ 0 [] [])) (ckX K pl V x 3)) (pfc K pl V z γ 0 [] [])) (ckX K pl V z 1) = min f (pfc K pl V (aCel p x z) γ 0 [] []) := by rw [hpf]; omega
        rw [← hmin]
        exact CE
      · exact Ag_tr P.2.1 hA12 (by omega)
      · refine ⟨?_, ?_, ?_, ?_, ?_⟩
        · show ex N' b n' p < ex N' b n' (p + 1); omega
        · show E.1 3 8 = nI (ex N' b n' p); rw [eN3, hE, uI_ne (by omega), uI_eq]
        · show E.1 8 (ex N' b n' p) = nI 1
          rw [eN3, rdn 8 (by omega) (by omega) (by omega)]
          have := ndA'.2.2.1; rw [en] at this; exact this
        · show E.1 20 (ex N' b n' p) = nI (pl (bgk x)); rw [eN3, rdn 20 (by omega) (by omega) (by omega)]; exact A20
        · show E.1 14 (ex N' b n' p) = -1; rw [eN3, rdn 14 (by omega) (by omega) (by omega)]; exact A14
      · have hz : 4000 ≤ min (pfc K pl V x γ 0 [] []) (min (ckX K pl V x 3) (min (pfc K pl V z γ 0 [] []) (ckX K pl V z 1))) := hz
        obtain ⟨b0, b1, b2, b3, b4, b5⟩ := ndA'
        rw [en] at b1 b2 b3 b4 b5
        refine ⟨⟨by omega, ?_, ?_, ?_, ?_, ?_⟩, ?_, ?_, ⟨nx1', ?_, ?_⟩, ⟨nz1', ?_, ?_⟩, Gx (by omega), Gz (by omega)⟩
        · rw [eN3, rdn 7 (by omega) (by omega) (by omega)]; exact b1
        · rw [eN3, rdn 8 (by omega) (by omega) (by omega)]; exact b2
        · rw [eN3, rdE21, F'.2.1 n1 (by omega)]; exact b3
        · rw [eN3, rdn 17 (by omega) (by omega) (by omega), e27]; exact b4
        · rw [eN3, rdn 19 (by omega) (by omega) (by omega)]; exact b5
        · rw [eN3, rdn 12 (by omega) (by omega) (by omega), nx2']; exact A12
        · rw [eN3, nz2']; exact e13
        · rw [nx2']; exact ex9.1
        · rw [nx2', eN3]; exact ex9.2
        · rw [nz2']; exact ez9.1
        · rw [nz2', eN3]; exact ez9.2
      · show Seg E (ex N' b n') (E.1 26 R) (lvs z ++ lvs x) (S.1 26 R)
        rw [rdE 26 R (by omega) (by omega) (by omega) (by omega) (by omega)]
        refine Seg_app _ _ _ _ _ Sz ?_
        rw [A26]
        exact Sx
      · have CIx := PX_ci P w hg (by rw [hkx]; exact fxE.1) fxE.2.1 hA12
        have CIz := PX_ci P' wz gA (by rw [hkz]; exact fzE.1) fzE.2.1 (Ag_ex N' M' L' b n' ρ' τ')
        show CI K pl V E (ex N' b n') pos (b + 1) p (cls x ++ cls z)
        have k7 : E.1 7 n1 ≠ 8 := by
          rw [rdn 7 (by omega) (by omega) (by omega)]
          have := ndA'.2.1
          rw [en] at this
          rw [this]
          exact k8 (by omega) (by omega)
        have h1 := CI_seq (t0 := p) CIx CIz (by omega) (by omega) (by omega) (fun k k1 k2 => by
          rw [eN3] at k1
          rw [eN3'] at k2
          have : k = n1 := by omega
          rw [this]; exact k7) (by omega)
        refine CI_wid h1 (Nat.le_refl _) (by omega) (fun k k1 k2 => absurd k1 (by omega)) (fun k k1 k2 => ?_) (Or.inr (Or.inr rfl))
        rw [ex_le (Nat.le_refl _), C'.2.1.1] at k1
        rw [ex_gt (by omega)] at k2
        omega
    refine ⟨fun e he hRf => key (fun S4 N4 M4 L4 n4 ρ4 τ4 P4 hd4 => ?_), fun e y he hK => key (fun S4 N4 M4 L4 n4 ρ4 τ4 P4 hd4 => ?_)⟩
    · exact (ih (aCel p x z) S4 N4 M4 L4 n4 ρ4 τ4 (b + 1) (by omega) (by omega) ⟨w, b, wz, rfl⟩ P4 hd4).1 e he hRf
    · exact (ih (aCel p x z) S4 N4 M4 L4 n4 ρ4 τ4 (b + 1) (by omega) (by omega) ⟨w, b, wz, rfl⟩ P4 hd4).2 e y he hK
end CCL
