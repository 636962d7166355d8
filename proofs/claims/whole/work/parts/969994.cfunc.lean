/-! the class's parser: a function -/
section CFN
variable {K pl : Nat → Nat} {V : Nat → Int64} {m fu : Nat} {S : im_S} {N M L : Nat → Nat} {p n ρ τ f : Nat} {fns : List Nat}
/-- what a function left -/
def FO (K pl : Nat → Nat) (V : Nat → Int64) (S : im_S) (N M L : Nat → Nat) (c p cnt : Nat) (x : TR) (e : Nat) : Prop :=
  S.2.1 23 c = V p ∧ S.1 24 c = nI (M p) ∧ M p < M (p + 1) ∧ L p < L (p + 1) ∧ S.1 27 (M p) = nI (L p) ∧ S.1 29 (L p) = 0 ∧ cnt ≤ 4 ∧ Chn S (S.1 25 c) ((pms (p + 2) cnt).map N) ∧ (∀ b, b ∈ pms (p + 2) cnt → vr V S N b ∧ S.1 17 (N b) = nI (L p) ∧ p < b ∧ b < e) ∧ CI K pl V S N p e p (cls x) ∧ (N (rtk x) < N (rtk x + 1) ∧ p < rtk x ∧ rtk x < e ∧ S.1 9 (N (rtk x)) = 9 ∧ S.1 10 (N (rtk x)) = -1) ∧ Seg S N (S.1 26 (M p)) (lvs x) (-1) ∧ (4000 ≤ pfc K pl V x (pms (p + 2) cnt).reverse 0 [] [] → G K pl V S N M L x (pms (p + 2) cnt).reverse (M p) 0 0 .nil []) ∧ ∃ b e0 : Nat, Wt K x b e0 0 ∧ p < b ∧ e0 + 1 = e ∧ (∀ j, j ∈ pms (p + 2) cnt → j < b) ∧ M p < M b
/-- its first fault while reading -/
def fF (K pl : Nat → Nat) (V : Nat → Int64) (fns : List Nat) (p cnt : Nat) (x : TR) : Nat := min (ffd pl V fns p) (min (fpa pl V [] (p + 2) cnt) (min (pfc K pl V x (pms (p + 2) cnt).reverse 0 [] []) (ckX K pl V x (tvV (V p)))))
def hxp (fu : Nat) (S : im_S) : Option (Int32 × im_S) := (f_X7_header fu S).bind (fun qS29 => if (qS29.1 : Int32) = 0 then some (0, qS29.2) else (f_X7_expression fu qS29.2).bind (fun qS33 => if (qS33.1 : Int32) = 0 then some (0, qS33.2) else some (1, qS33.2)))
/-- one function is done -/
def PFn (K pl : Nat → Nat) (V : Nat → Int64) (m : Nat) (S : im_S) (N M L : Nat → Nat) (p n ρ τ f : Nat) (fns : List Nat) (S' : im_S) (N' M' L' : Nat → Nat) (n' ρ' τ' e cnt : Nat) (x : TR) : Prop := Hz K pl V m S' N' M' L' e n' ρ' τ' (min f (fF K pl V fns p cnt x)) (fns ++ [p]) ∧ FrF S S' n ρ τ fns.length ∧ Ag N M L N' M' L' p ∧ n ≤ n' ∧ ρ ≤ ρ' ∧ τ ≤ τ' ∧ p < e ∧ FO K pl V S' N' M' L' fns.length p cnt x e
set_option maxHeartbeats 4000000 in
/-- from behind the parameters -/
theorem c_body (T : TH K pl V m) (hfu : 600 ≤ fu) (H : Hz K pl V m S N M L p n ρ τ f fns) (hc : fns.length < 8) (hk1 : K p = 1) {q cnt : Nat} (hq : 3 * m + 4 ≤ q) {S2 : im_S} {N2 M2 L2 : Nat → Nat} {b n2 f2 : Nat} (hcn : cnt ≤ 4) (hf2 : eqN f2 (min (min f (ffd pl V fns p)) (fpa pl V [] (p + 2) cnt))) (P : PI K pl V m S N M L n ρ τ fns.length p S2 N2 M2 L2 b n2 f2 (pms (p + 2) cnt)) :
    (∀ e, pX K q 0 b = (e, none) → ∃ S' : im_S, f_X7_expression fu S2 = some (0, S') ∧ S'.1 5 0 = 1 ∧ S'.1 5 1 = nI (pl e)) ∧ ∀ e x, pX K q 0 b = (e, some x) → (K e ≠ 59 → ∃ S' : im_S, f_X7_expression fu S2 = some (0, S') ∧ S'.1 5 0 = 1 ∧ S'.1 5 1 = nI (pl e)) ∧ (K e = 59 → ∃ (S' : im_S) (N' M' L' : Nat → Nat) (n' ρ' τ' : Nat), f_X7_expression fu S2 = some (1, S') ∧ PFn K pl V m S N M L p n ρ τ f fns S' N' M' L' n' ρ' τ' (e + 1) cnt x) := by
  obtain ⟨C2, hTp, hFr, hn2, hAg, ⟨gM, gL⟩, ⟨a36, a22, a23, a24, a27, a26, a29, a37⟩, hch, hpw, hlm, hpp, hk3⟩ := P
  have hm := T.m_
  have hpm := C2.1.pm
  have hbd := C2.1.bd
  have gS := C2.2.1
  have hNam : Nam (V p) := (T.2.2.1 p (by omega)).2.2.2 hk1
  obtain ⟨γ, hγ⟩ : ∃ γ, γ = (pms (p + 2) cnt).reverse := ⟨_, rfl⟩
  rw [← hγ] at C2 gS
  have hX := k_X T hfu q 0 0 (by omega) (by omega)
  have hW := pX_W K q 0
  have hBg : Bg K pl V m S2 N2 M2 L2 b 0 1 γ n2 (ρ + 1) (τ + 1) f2 10 ρ := ⟨Cz_base C2, hTp, by omega, by omega⟩
  have run : ∀ Q : Int32 → im_S → Prop, Lp m fu b S2 Q → ∃ (r : Int32) (S1 : im_S), f_X7_expression fu S2 = some (r, S1) ∧ Q r S1 := fun Q h => h fu 0 (by omega) (by omega)
  refine ⟨fun e he => ?_, fun e x he => ?_⟩
  · obtain ⟨r, S1, h1, h2, h3⟩ := run (fun r S1 => r = 0 ∧ S1.1 5 0 = 1 ∧ S1.1 5 1 = nI (pl e)) ((hX S2 N2 M2 L2 b 1 γ n2 (ρ + 1) (τ + 1) f2 10 ρ _ (by omega) hBg a37 (by omega)).1 e he (fun S1 u1 u2 => ⟨rfl, u1, u2⟩))
    rw [h2] at h1
    exact ⟨S1, h1, h3⟩
  obtain ⟨wx, -⟩ := hW _ _ _ he
  have hxp := Wt_lt wx
  have hxr := Wt_rt wx
  have htx := tyx_lt K V x
  have tT := tvV_r (V p)
  refine ⟨fun h59 => ?_, fun h59 => ?_⟩
  · obtain ⟨r, S1, h1, h2, h3⟩ := run (fun r S1 => r = 0 ∧ S1.1 5 0 = 1 ∧ S1.1 5 1 = nI (pl e)) ((hX S2 N2 M2 L2 b 1 γ n2 (ρ + 1) (τ + 1) f2 10 ρ _ (by omega) hBg a37 (by omega)).2 e x he (fun S' N' M' L' n' ρ' τ' P' => by
      have C' := P'.1
      have b35 : S'.1 35 0 = nI 10 := by rw [C'.2.2.2.2.2.2.2.2.2.1 35 0 (by omega) (by omega) (by omega)]; exact hTp.2.1
      have hpm2 := C'.1.pm
      refine FZ_cl hfu (sz := 0) C'.1.sz_ (by omega) b35 (by omega) (by omega) (by omega) (r := 0) (S1 := rcS S' (pl e)) ?_ hpm2 (Or.inl ⟨rfl, ?_⟩) (pos1 := 0)
      · rw [cl_10 (sz := 0) C'.1.sz_ (by omega) b35, show (59 : Int32) = nI 59 from rfl, c_take T C'.1 59 (by omega), if_neg h59]
        rfl
      · refine ⟨rfl, ?_, ?_⟩
        · unfold rcS; rw [uI_ne (by omega), uI_eq]
        · unfold rcS; rw [uI_eq]))
    rw [h2] at h1
    exact ⟨S1, h1, h3⟩
  · obtain ⟨r, S1, h1, hr, N', M', L', n', ρ', τ', hP⟩ := run (fun r S1 => r = 1 ∧ ∃ (N' M' L' : Nat → Nat) (n' ρ' τ' : Nat), PFn K pl V m S N M L p n ρ τ f fns S1 N' M' L' n' ρ' τ' (e + 1) cnt x) ((hX S2 N2 M2 L2 b 1 γ n2 (ρ + 1) (τ + 1) f2 10 ρ _ (by omega) hBg a37 (by omega)).2 e x he (fun S' N' M' L' n' ρ' τ' P' => by
      have C' := P'.1
      have F' := C'.2.2.2.2.2
      have Fn := F'.1
      have hb2 := C'.1.bd
      have hpm2 := C'.1.pm
      have hem := K_lt T.end_ hpm2 h59 (by decide) (by decide)
      have hste := T.lt_ hem
      have b35 : S'.1 35 0 = nI 10 := by rw [F'.2.2.2.2.1 35 0 (by omega) (by omega) (by omega)]; exact hTp.2.1
      have b36 : S'.1 36 0 = nI fns.length := by rw [F'.2.2.2.2.1 36 0 (by omega) (by omega) (by omega)]; exact a36
      obtain ⟨-, -, nz1, nz2, nz3, nz4, hn', hρ', hτ', -⟩ := PX_kw P' wx gS (Nat.lt_succ_self ρ) (by omega) (Fw_refl S' n2 n' (ρ + 1) ρ' τ' _) (fun j _ => ⟨rfl, rfl, rfl⟩)
      obtain ⟨zt0, zt8, ztT, ztB, ztS⟩ := P'.2.2.1
      obtain ⟨kx, hkx⟩ : ∃ kx, N' (rtk x) = kx := ⟨_, rfl⟩
      rw [hkx] at nz2 nz3 nz4 zt8 ztT ztB ztS
      have hkx5 : kx < 512 := by omega
      obtain ⟨D1, hD1⟩ : ∃ D1, D1 = cnS (uI (ad6 S' (e + 1)) 34 3 (nI 0)) kx 9 (-1) (-1) := ⟨_, rfl⟩
      obtain ⟨D, hD⟩ : ∃ D, D = uI (ckS D1 kx (nI (tvV (V p)))) 3 7 5 := ⟨_, rfl⟩
      have rD1 : ∀ a j : Nat, a ≠ 3 → (a ≠ 34 ∨ j ≠ 3) → (j ≠ kx ∨ a < 9 ∨ 11 < a) → D1.1 a j = S'.1 a j := fun a j u1 u2 u3 => by rw [hD1]; unfold ad6; rw [cn_ne (by omega), uI_ne (by omega), uI_ne (by omega)]
      have rD : ∀ a j : Nat, a ≠ 3 → a ≠ 5 → (a ≠ 34 ∨ j ≠ 3) → (j ≠ kx ∨ a < 9 ∨ 11 < a) → D.1 a j = S'.1 a j := fun a j u1 u2 u3 u4 => by rw [hD, uI_ne (by omega), ck_ne (by omega), rD1 a j u1 u3 u4]
      have rDl : D.2.1 = S'.2.1 := by
        rw [hD]
        show (ckS D1 kx (nI (tvV (V p)))).2.1 = _
        rw [ck_21, hD1]; rfl
      have CD : Cz K pl V m S2 n2 (ρ + 1) (τ + 1) 0 γ.length ρ D (ex N' e n') (ex M' e ρ') (ex L' e τ') (e + 1) 0 0 γ n' ρ' τ' (pl (e + 1)) (min (min f2 (pfc K pl V x γ 0 [] [])) (ckX K pl V x (tvV (V p)))) := by
        have C3 : Cz K pl V m S2 n2 (ρ + 1) (τ + 1) 0 γ.length ρ S' N' M' L' e 0 (0 + 1) γ n' ρ' τ' (pl e) (min f2 (pfc K pl V x γ 0 [] [])) := Cz_tr (Fr_refl S2 n2 (ρ + 1) (τ + 1) 0 γ.length ρ) C' (Nat.le_refl _) (Nat.le_refl _) (Nat.le_refl _) (by omega) (Nat.le_refl _) (Or.inl rfl)
        rw [hD, hD1]
        refine Cz_3 (Cz_ck (b := bgk x) (ty := tyk K (tv V) x) (Cz_cn (Cz_pop (Cz_B (Cz_ad T C3 hem) (show pl e ≤ pl (e + 1) by omega))) 9 (-1) (-1) (by omega)) ?_ ?_ (T.pl_ (by omega)) htx (by omega)) (by omega)
        · rw [← hD1, rD1 8 kx (by omega) (by omega) (by omega)]; exact ztT
        · rw [← hD1, rD1 20 kx (by omega) (by omega) (by omega)]; exact ztB
      have FD := CD.2.2.2.2.2
      have hcl : f_X7_close fu (nI (K e)) S' = some (1, D) := by
        rw [cl_10 (sz := 0) C'.1.sz_ (by omega) b35, show (59 : Int32) = nI 59 from rfl, c_take T C'.1 59 (by omega), if_pos h59]
        simp only [Option.bind_some]
        rw [if_neg (show ¬ (1 : Int32) = 0 by decide)]
        unfold f_X7_endBody
        have c34 : (ad6 S' (e + 1)).1 34 3 = nI (0 + 1) := by unfold ad6; rw [uI_ne (by omega)]; exact C'.1.sz_
        have c36 : (ad6 S' (e + 1)).1 36 0 = nI fns.length := by unfold ad6; rw [uI_ne (by omega)]; exact b36
        rw [c_pop c34 (by omega), c36]
        have c38 : (uI (ad6 S' (e + 1)) 34 3 (nI 0)).1 3 8 = nI kx := by unfold ad6; rw [uI_ne (by omega), uI_ne (by omega)]; exact zt8
        simp only [Option.bind_some, c38]
        rw [c_conn hkx5, ← hD1]
        have c23 : D1.2.1 23 fns.length = V p := by
          rw [hD1]
          show S'.2.1 23 fns.length = V p
          rw [(F'.2.2.2.2.2.2.2 fns.length).2.2]; exact a23
        have d38 : D1.1 3 8 = nI kx := by rw [hD1, cn_ne (by omega)]; exact c38
        simp only [Option.bind_some, mI_in (a := fns.length) (n := 8) (by omega) (by omega), nI_clamp (show fns.length < 2 ^ 31 by omega), gd_t, c23]
        rw [c_ty (by omega) hNam]
        simp only [Option.bind_some, d38]
        rw [c_chk hkx5]
        simp only [Option.bind_some]
        rw [if_neg (show ¬ (1 : Int32) = 0 by decide), hD]
      refine FZ_cl hfu (sz := 0) C'.1.sz_ (by omega) b35 (by omega) (by omega) (by omega) (pos1 := e + 1) hcl hpm2 (Or.inr ⟨rfl, by omega, by omega, Lp_done (by rw [hD, uI_eq]) (by omega) ⟨rfl, ex N' e n', ex M' e ρ', ex L' e τ', n', ρ', τ', ?_⟩⟩)
      -- all of it
      have hA2 : Ag N2 M2 L2 (ex N' e n') (ex M' e ρ') (ex L' e τ') b := Ag_tr P'.2.1 (Ag_ex N' M' L' e n' ρ' τ') (by omega)
      have hA0 : Ag N M L (ex N' e n') (ex M' e ρ') (ex L' e τ') p := Ag_tr hAg hA2 (by omega)
      have H' := H
      obtain ⟨h1, h2, h3, h4, h5, h6, h7, ⟨h8, h9, h10⟩, h11, h12, h13, h14, h15, h16⟩ := H
      have eM : ex M' e ρ' p = ρ := by rw [(hA0 p (Nat.le_refl _)).2.1]; exact h11.2.1
      have eL : ex L' e τ' p = τ := by rw [(hA0 p (Nat.le_refl _)).2.2]; exact h11.2.2.1
      have eN : ex N' e n' p = n := by rw [(hA0 p (Nat.le_refl _)).1]; exact h11.1
      have eM1 : ex M' e ρ' (p + 1) = ρ + 1 := by rw [(hA2 (p + 1) (by omega)).2.1]; exact gM
      have eL1 : ex L' e τ' (p + 1) = τ + 1 := by rw [(hA2 (p + 1) (by omega)).2.2]; exact gL
      have hFr2 : FrF S D n ρ τ fns.length := FrF_Fr hFr FD (by omega) (by omega) (by omega) (Nat.le_refl _)
      have fE : Fw S' D n2 n' (ρ + 1) ρ' τ' kx := by
        rw [hD, hD1]
        unfold ad6
        exact Fw_uI (Fw_ck (Fw_cn (Fw_uI (Fw_uI (Fw_refl S' n2 n' (ρ + 1) ρ' τ' kx) (by omega)) (by omega)) (Or.inl rfl))) (by omega)
      obtain ⟨Gx, Sx, nx1, nx2, -⟩ := PX_kw P' wx gS (Nat.lt_succ_self ρ) (by omega) (by rw [hkx]; exact fE) (Ag_ex N' M' L' e n' ρ' τ')
      rw [hkx] at nx2
      have CIx := PX_ci P' wx gS (by rw [hkx]; exact fE.1) fE.2.1 (Ag_ex N' M' L' e n' ρ' τ')
      have k9 : D.1 9 kx = 9 ∧ D.1 10 kx = -1 := by
        obtain ⟨c9, c10, -⟩ := cn_f (uI (ad6 S' (e + 1)) 34 3 (nI 0)) kx 9 (-1) (-1)
        rw [hD, uI_ne (by omega), ck_ne (by omega), uI_ne (by omega), ck_ne (by omega), hD1]
        exact ⟨c9, c10⟩
      have hbn : ∀ j, j ∈ pms (p + 2) cnt → ex N' e n' j = N2 j ∧ ex N' e n' (j + 1) = N2 (j + 1) := fun j hj => by
        have := (hlm j hj).1
        exact ⟨(hA2 j (by omega)).1, (hA2 (j + 1) (by omega)).1⟩
      have emap : (pms (p + 2) cnt).map (ex N' e n') = (pms (p + 2) cnt).map N2 := map_N (fun j hj => (hbn j hj).1)
      have c1 := CD.1
      refine ⟨⟨c1.ct, c1.pm, c1.at_, c1.nn, c1.rr, c1.tt, ?_, ⟨by omega, by have := c1.bd; omega, by have := c1.bd; omega⟩, Gh_sub CD.2.1 (fun z hz => absurd hz List.not_mem_nil), CD.2.2.1, ?_, ?_, ?_, ?_⟩, hFr2, hA0, by omega, by omega, by omega, by omega, ?_⟩
      · rw [FD.2.2.2.2.2.2.1, a22, List.length_append]; rfl
      · have hmin : min (min f2 (pfc K pl V x γ 0 [] [])) (ckX K pl V x (tvV (V p))) = min f (fF K pl V fns p cnt x) := by
          unfold fF
          rw [show f2 = _ from hf2, hγ]
          simp only [Nat.min_assoc]
        rw [← hmin]
        exact CD.2.2.2.1
      · have := C'.2.2.2.2.1
        have hle : min f (fF K pl V fns p cnt x) ≤ f := Nat.min_le_left _ _
        omega
      · refine F23_sn fns 0 (F23_cp fns 0 (fun z z1 z2 => (hFr2.2.2.2.2 z (by omega)).2.2) h15) ?_
        rw [Nat.zero_add, (FD.2.2.2.2.2.2.2 fns.length).2.2]; exact a23
      · rw [List.length_append]; show fns.length + 1 ≤ 8; omega
      · unfold FO
        rw [eM, eL, eM1, eL1, emap, nx2]
        refine ⟨by rw [(FD.2.2.2.2.2.2.2 fns.length).2.2]; exact a23, by rw [(FD.2.2.2.2.2.2.2 fns.length).1]; exact a24, by omega, by omega, by rw [(FD.2.2.1 ρ (by omega)).1]; exact a27, by rw [FD.2.2.2.1 τ (by omega)]; exact a29, hcn, ?_, fun j hj => ?_, ?_, ⟨by rw [← nx2]; exact nx1, by omega, by omega, k9.1, k9.2⟩, ?_, fun hz => ?_, b, e, wx, hpp, rfl, fun j hj => (hlm j hj).1, ?_⟩
        · rw [(FD.2.2.2.2.2.2.2 fns.length).2.1]
          refine Chn_cp _ _ (fun j hj => ?_) hch
          obtain ⟨i, hi, ei⟩ := List.mem_map.mp hj
          have := (hlm i hi).2.2.1
          exact FD.1 14 j (by omega) (by omega) (by omega)
        · obtain ⟨t1, t2, t3, t4, t5, t6, t7, t8⟩ := hlm j hj
          obtain ⟨q1, q2⟩ := hbn j hj
          have hin : p + 2 ≤ j := by
            have : ∀ (k s : Nat), j ∈ pms s k → s ≤ j := by
              intro k
              induction k with
              | zero => intro s h; exact absurd h List.not_mem_nil
              | succ k ih =>
                intro s h
                rcases List.mem_cons.mp h with z | z
                · omega
                · have := ih (s + 2) z; omega
            exact this cnt (p + 2) hj
          unfold vr
          rw [q1, q2, FD.1 7 _ (by omega) (by omega) t3, FD.1 8 _ (by omega) (by omega) t3, FD.2.1 _ t3, FD.1 17 _ (by omega) (by omega) t3]
          exact ⟨⟨t4, t5, t6, t7⟩, t8, by omega, by omega⟩
        · have nb : ex N' e n' b = n2 := by rw [(hA2 b (Nat.le_refl _)).1]; exact gS.1
          refine CI_wid CIx (by omega) (by omega) (fun k k1 k2 => ?_) (fun k k1 k2 => ?_) (Or.inl (by omega))
          · rw [eN] at k1
            rw [nb] at k2
            rw [FD.1 7 k (by omega) (by omega) k2, hk3 k k1 k2]
            exact k8 (c := 3) (by omega) (by omega)
          · rw [ex_le (Nat.le_refl _), P'.1.2.1.1] at k1
            rw [ex_gt (by omega)] at k2
            omega
        · rw [rD 26 ρ (by omega) (by omega) (by omega) (by omega), ← a26]
          exact Sx
        · rw [← hγ] at hz ⊢
          exact Gx hz
        · have := (hA2 b (Nat.le_refl _)).2.1
          rw [this, gS.2.1]
          omega))
    subst hr
    exact ⟨S1, N', M', L', n', ρ', τ', h1, hP⟩
set_option maxHeartbeats 4000000 in
/-- the class reads a function as the grammar says -/
theorem c_fun (T : TH K pl V m) (hfu : 600 ≤ fu) (H : Hz K pl V m S N M L p n ρ τ f fns) (hc : fns.length < 8) {q : Nat} (hq : 3 * m + 4 ≤ q) :
    (∀ e, pF K q p = (e, none) → ∃ S' : im_S, hxp fu S = some (0, S') ∧ S'.1 5 0 = 1 ∧ S'.1 5 1 = nI (pl e)) ∧ ∀ e y, pF K q p = (e, some y) → ∃ (cnt : Nat) (x : TR) (S' : im_S) (N' M' L' : Nat → Nat) (n' ρ' τ' : Nat), y = .tag p (.append (.tag cnt .nil) x) ∧ hxp fu S = some (1, S') ∧ PFn K pl V m S N M L p n ρ τ f fns S' N' M' L' n' ρ' τ' e cnt x := by
  obtain ⟨hd1, hd2⟩ := c_hdr (fu := fu) T hfu H hc
  have hrc : ∀ (Z : im_S) (e : Nat), (rcS Z (pl e)).1 5 0 = 1 ∧ (rcS Z (pl e)).1 5 1 = nI (pl e) := fun Z e => by
    unfold rcS
    exact ⟨by rw [uI_ne (by omega), uI_eq], uI_eq⟩
  unfold pF pw
  by_cases hk : ¬ K p = 1
  · rw [if_neg hk]
    refine ⟨fun e he => ?_, (fun e y he => by cases he)⟩
    cases he
    refine ⟨rcS S (pl p), ?_, hrc S p⟩
    unfold hxp
    rw [hd1 hk]
    rfl
  have hk : K p = 1 := Decidable.not_not.mp hk
  rw [if_pos hk]
  obtain ⟨hp, A, hA0, CA, TA, a36, aFr, a22, a23, a24, a25, a27, a26, a29, a37⟩ := hd2 hk
  have hpm1 := CA.1.pm
  rw [show (40 : Int32) = nI 40 from rfl, c_take T CA.1 40 (by omega)] at hA0
  by_cases h40 : ¬ K (p + 1) = 40
  · rw [if_neg h40]
    rw [if_neg h40] at hA0
    refine ⟨fun e he => ?_, (fun e y he => by cases he)⟩
    cases he
    refine ⟨rcS A (pl (p + 1)), ?_, hrc A (p + 1)⟩
    unfold hxp
    rw [hA0]
    rfl
  have h40 : K (p + 1) = 40 := Decidable.not_not.mp h40
  rw [if_pos h40]
  rw [if_pos h40] at hA0
  simp only [Option.bind_some] at hA0
  rw [if_neg (show ¬ (1 : Int32) = 0 by decide)] at hA0
  have hp1 : p + 1 < m := K_lt T.end_ hpm1 h40 (by decide) (by decide)
  have h11 := H.2.2.2.2.2.2.2.2.1
  have P0 : PI K pl V m S N M L n ρ τ fns.length p A (ex N p n) (ex M p (ρ + 1)) (ex L p (τ + 1)) (p + 1) n (min f (ffd pl V fns p)) [] := ⟨CA, TA, aFr, Nat.le_refl _, Ag_ex N M L p n (ρ + 1) (τ + 1), ⟨ex_gt (by omega), ex_gt (by omega)⟩, ⟨a36, a22, a23, a24, a27, a26, a29, a37⟩, a25, List.Pairwise.nil, fun b hb => absurd hb List.not_mem_nil, by omega, fun k u1 u2 => absurd u1 (by omega)⟩
  have P1 := PI_ad T P0 hp1
  -- behind the parameters
  have rest : ∀ (cnt : Nat) (S2 : im_S) (N2 M2 L2 : Nat → Nat) (b n2 f2 : Nat), cnt ≤ 4 → eqN f2 (min (min f (ffd pl V fns p)) (fpa pl V [] (p + 2) cnt)) → PI K pl V m S N M L n ρ τ fns.length p S2 N2 M2 L2 b n2 f2 (pms (p + 2) cnt) → f_X7_parameters fu (nI fns.length) (ad6 A (p + 1 + 1)) = some (1, S2) →
      (K b ≠ 41 → ∃ S' : im_S, hxp fu S = some (0, S') ∧ S'.1 5 0 = 1 ∧ S'.1 5 1 = nI (pl b)) ∧ (K b = 41 → (∀ e, pT K q (b + 1) = (e, none) → ∃ S' : im_S, hxp fu S = some (0, S') ∧ S'.1 5 0 = 1 ∧ S'.1 5 1 = nI (pl e)) ∧ ∀ e x, pT K q (b + 1) = (e, some x) → ∃ (S' : im_S) (N' M' L' : Nat → Nat) (n' ρ' τ' : Nat), hxp fu S = some (1, S') ∧ PFn K pl V m S N M L p n ρ τ f fns S' N' M' L' n' ρ' τ' e cnt x) := by
    intro cnt S2 N2 M2 L2 b n2 f2 hcn hf2 P2 hpar
    rw [hpar] at hA0
    simp only [Option.bind_some] at hA0
    rw [if_neg (show ¬ (1 : Int32) = 0 by decide), show (41 : Int32) = nI 41 from rfl, c_take T P2.1.1 41 (by omega)] at hA0
    refine ⟨fun h41 => ?_, fun h41 => ?_⟩
    · rw [if_neg h41] at hA0
      refine ⟨rcS S2 (pl b), ?_, hrc S2 b⟩
      unfold hxp
      rw [hA0]
      rfl
    have hbm : b < m := K_lt T.end_ P2.1.1.pm h41 (by decide) (by decide)
    have P3 := PI_ad T P2 hbm
    rw [if_pos h41] at hA0
    simp only [Option.bind_some] at hA0
    rw [if_neg (show ¬ (1 : Int32) = 0 by decide), show (61 : Int32) = nI 61 from rfl, c_take T P3.1.1 61 (by omega)] at hA0
    unfold pT pw
    by_cases h61 : ¬ K (b + 1) = 61
    · rw [if_neg h61]
      rw [if_neg h61] at hA0
      refine ⟨fun e he => ?_, (fun e y he => by cases he)⟩
      cases he
      refine ⟨rcS (ad6 S2 (b + 1)) (pl (b + 1)), ?_, hrc _ (b + 1)⟩
      unfold hxp
      rw [hA0]
      rfl
    have h61 : K (b + 1) = 61 := Decidable.not_not.mp h61
    have hbm1 : b + 1 < m := K_lt T.end_ P3.1.1.pm h61 (by decide) (by decide)
    have P4 := PI_ad T P3 hbm1
    rw [if_pos h61]
    rw [if_pos h61] at hA0
    simp only [Option.bind_some] at hA0
    rw [if_neg (show ¬ (1 : Int32) = 0 by decide)] at hA0
    obtain ⟨c1, c2⟩ := c_body (fu := fu) T hfu H hc hk hq hcn hf2 P4
    have hx : ∀ (r : Int32) (S' : im_S), (r = 0 ∨ r = 1) → f_X7_expression fu (ad6 (ad6 S2 (b + 1)) (b + 1 + 1)) = some (r, S') → hxp fu S = some (r, S') := fun r S' hr h => by
      unfold hxp
      rw [hA0]
      simp only [Option.bind_some]
      rw [if_neg (show ¬ (1 : Int32) = 0 by decide), h]
      simp only [Option.bind_some]
      rcases hr with z | z
      · rw [if_pos z, z]
      · rw [if_neg (by rw [z]; decide), z]
    rcases hr : pX K q 0 (b + 1 + 1) with ⟨e0, _ | x⟩
    · rw [pbd_none rfl]
      refine ⟨fun e he => ?_, (fun e y he => by cases he)⟩
      cases he
      obtain ⟨S', s1, s2⟩ := c1 e0 hr
      exact ⟨S', hx 0 S' (Or.inl rfl) s1, s2⟩
    rw [pbd_some rfl]
    obtain ⟨c3, c4⟩ := c2 e0 x hr
    by_cases h59 : ¬ K e0 = 59
    · rw [if_neg h59]
      refine ⟨fun e he => ?_, (fun e y he => by cases he)⟩
      cases he
      obtain ⟨S', s1, s2⟩ := c3 h59
      exact ⟨S', hx 0 S' (Or.inl rfl) s1, s2⟩
    have h59 : K e0 = 59 := Decidable.not_not.mp h59
    rw [if_pos h59]
    refine ⟨(fun e he => by cases he), fun e x' he => ?_⟩
    cases he
    obtain ⟨S', N', M', L', n', ρ', τ', s1, s2⟩ := c4 h59
    exact ⟨S', N', M', L', n', ρ', τ', hx 1 S' (Or.inr rfl) s1, s2⟩
  have hk2 : K (p + 2) < 127 := by have := (tkK_c _ (T.2.1 (p + 2) (by omega)).2).2.2.2.2.2; omega
  have e41 : nI (K (p + 2)) = (41 : Int32) ↔ K (p + 2) = 41 := nI_eq (a := K (p + 2)) (b := 41) (by omega) (by omega)
  have opar : f_X7_parameters fu (nI fns.length) (ad6 A (p + 1 + 1)) = if K (p + 2) = 41 then f_X7_parameters_L17 fu fu (nI fns.length) 0 0 (ad6 A (p + 1 + 1)) else f_X7_parameters_L17 fu fu (nI fns.length) 1 0 (ad6 A (p + 1 + 1)) := by
    unfold f_X7_parameters
    rw [c_kind T P1.1.1]
    simp only [Option.bind_some]
    by_cases h41 : K (p + 2) = 41
    · rw [if_pos (e41.mpr h41), if_pos h41]
    · rw [if_neg (fun z => h41 (e41.mp z)), if_neg h41]
  have hf := H.2.2.2.2.2.2.2.2.2.2.2.1
  by_cases h41 : K (p + 2) = 41
  · rw [if_pos h41]
    rw [if_pos h41] at opar
    have hpar : f_X7_parameters fu (nI fns.length) (ad6 A (p + 1 + 1)) = some (1, ad6 A (p + 1 + 1)) := by
      rw [opar]
      obtain ⟨nf, hnf⟩ : ∃ z, fu = z + 1 := ⟨fu - 1, by omega⟩
      rw [show f_X7_parameters_L17 fu fu (nI fns.length) 0 0 (ad6 A (p + 1 + 1)) = f_X7_parameters_L17 fu (nf + 1) (nI fns.length) 0 0 (ad6 A (p + 1 + 1)) by rw [← hnf], f_X7_parameters_L17, if_neg (by decide), if_pos rfl]
    obtain ⟨-, r2⟩ := rest 0 _ _ _ _ (p + 2) n (min f (ffd pl V fns p)) (by omega) (by
      show min f (ffd pl V fns p) = min (min f (ffd pl V fns p)) 4000
      have : min f (ffd pl V fns p) ≤ 4000 := Nat.le_trans (Nat.min_le_left _ _) hf
      exact (Nat.min_eq_left this).symm) P1 hpar
    obtain ⟨r3, r4⟩ := r2 h41
    rcases hr : pT K q (p + 3) with ⟨e0, _ | x⟩
    · rw [pbd_none rfl]
      refine ⟨fun e he => ?_, (fun e y he => by cases he)⟩
      cases he
      exact r3 e0 hr
    · rw [pbd_some rfl]
      refine ⟨(fun e he => by cases he), fun e y he => ?_⟩
      cases he
      obtain ⟨S', N', M', L', n', ρ', τ', s1, s2⟩ := r4 e0 x hr
      exact ⟨0, x, S', N', M', L', n', ρ', τ', rfl, s1, s2⟩
  · rw [if_neg h41]
    rw [if_neg h41] at opar
    obtain ⟨l1, l2⟩ := c_parL (fu := fu) T hfu hc 5 fu _ _ _ _ (p + 2) n _ [] P1 (by show 0 ≤ 4; omega) (by show 4 < 5 + 0; omega) (by show 5 < fu + 0; omega)
    unfold pL pw
    rcases hr : pPa K 5 0 (p + 2) with ⟨b, _ | t⟩
    · rw [pbd_none rfl, pbd_none rfl]
      refine ⟨fun e he => ?_, (fun e y he => by cases he)⟩
      cases he
      obtain ⟨Z, hZ⟩ := l1 b hr
      refine ⟨rcS Z (pl b), ?_, hrc Z b⟩
      unfold hxp
      have hZ : f_X7_parameters_L17 fu fu (nI fns.length) 1 0 (ad6 A (p + 1 + 1)) = some (0, rcS Z (pl b)) := hZ
      rw [opar, hZ] at hA0
      rw [hA0]
      rfl
    · obtain ⟨cnt, S2, N2, M2, L2, n2, k1, k2, k3, k4, k5⟩ := l2 b t hr
      have k1 : t = .tag (0 + cnt) .nil := k1
      rw [Nat.zero_add] at k1
      have k3 : 0 + cnt ≤ 4 := k3
      have k4 : f_X7_parameters_L17 fu fu (nI fns.length) 1 0 (ad6 A (p + 1 + 1)) = some (1, S2) := k4
      rw [pbd_some (r := ((b, some t) : PR)) rfl]
      obtain ⟨r1, r2⟩ := rest cnt S2 N2 M2 L2 b n2 _ (by omega) (eqN_r _) k5 (by rw [opar]; exact k4)
      by_cases hb41 : ¬ K b = 41
      · rw [if_neg hb41, pbd_none rfl]
        refine ⟨fun e he => ?_, (fun e y he => by cases he)⟩
        cases he
        exact r1 hb41
      have hb41 : K b = 41 := Decidable.not_not.mp hb41
      rw [if_pos hb41]
      obtain ⟨r3, r4⟩ := r2 hb41
      rcases hr2 : pT K q (b + 1) with ⟨e0, _ | x⟩
      · rw [pbd_none rfl, pbd_none rfl]
        refine ⟨fun e he => ?_, (fun e y he => by cases he)⟩
        cases he
        exact r3 e0 hr2
      · rw [pbd_some (r := ((e0, some x) : PR)) rfl, pbd_some rfl]
        refine ⟨(fun e he => by cases he), fun e y he => ?_⟩
        cases he
        obtain ⟨S', N', M', L', n', ρ', τ', s1, s2⟩ := r4 e0 x hr2
        exact ⟨cnt, x, S', N', M', L', n', ρ', τ', by rw [k1], s1, s2⟩
end CFN
