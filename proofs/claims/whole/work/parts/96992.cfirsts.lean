/-! the class's parser: all first values of a loop -/
section CFJ
variable {K pl : Nat → Nat} {V : Nat → Int64} {m fu : Nat} {Q : Int32 → im_S → Prop} {S : im_S} {N M L : Nat → Nat} {pos dep sz n ρ τ f k R : Nat} {γ : List Nat}
theorem map_N {l : List Nat} {N N' : Nat → Nat} (h : ∀ b, b ∈ l → N' b = N b) : l.map N' = l.map N := List.map_congr_left h
set_option maxHeartbeats 8000000 in
theorem k_firsts (T : TH K pl V m) (hfu : 600 ≤ fu) {Rr : Nat → PR} {p0 : Nat} (hRr : HXc K pl V m fu Rr dep p0) (hW : WR K Rr) (hR : R < ρ) (hTp : Tp S sz k R) :
    ∀ (q na p : Nat) (S1 : im_S) (N1 M1 L1 : Nat → Nat) (n1 ρ1 τ1 f1 : Nat) (l : List Nat) (a0 k0 : Nat), p0 ≤ p → pos < p → m < q + p → Cz K pl V m S n ρ τ sz γ.length R S1 N1 M1 L1 p dep sz γ n1 ρ1 τ1 (pl p) f1 → S1.1 3 7 = nI 3 → S1.1 3 10 = nI n → N1 pos = n → n < n1 → ρ ≤ ρ1 → τ ≤ τ1 → Chn S1 (S1.1 12 n) (l.map N1) → l.length = na → na ≤ 4 → (∀ b, b ∈ l → VI V S1 N1 n n1 b ∧ b < p) → (l.map N1).Pairwise (· < ·) → Slt (l.map N1) n a0 k0 →
    (∀ e, pB K Rr q 4 na p = (e, none) → Rf pl e Q → Lp m fu p S1 Q) ∧ ∀ e r, pB K Rr q 4 na p = (e, some r) → (∀ (D : im_S) (N' M' L' : Nat → Nat) (n' ρ' τ' : Nat), PF K pl V m S pos dep sz γ n ρ τ R S1 N1 M1 L1 n1 ρ1 τ1 f1 p a0 k0 l D N' M' L' n' ρ' τ' e r → Wc m fu e (wtl fu D) Q) → Lp m fu p S1 Q := by
  intro q
  induction q with
  | zero => intro na p S1 N1 M1 L1 n1 ρ1 τ1 f1 l a0 k0 _ _ hq C1; have := C1.1.pm; omega
  | succ q ih =>
    intro na p S1 N1 M1 L1 n1 ρ1 τ1 f1 l a0 k0 hp0 hpp hq C1 hd hlo hNp hnn hρ1 hτ1 hch hlen hna hlm hpw hsl
    have hpm := C1.1.pm
    have hbd := C1.1.bd
    have hm := T.m_
    have hsz1 := hTp.1
    obtain ⟨hk01, hk02, hk03⟩ := Tp_mem hsl (fun b hb => ⟨(hlm b hb).1.1, (hlm b hb).1.2.1⟩) hnn
    obtain ⟨o1, o2, o3⟩ := c_firstO (fu := fu) T hfu hR hTp hpp C1 hlo hnn hρ1 hτ1 hch hlen hna hlm hpw hsl
    rw [pB]
    by_cases h4 : na = 4
    · rw [if_pos h4]
      refine ⟨fun e he hRf => ?_, (fun e y he => by cases he)⟩
      cases he
      exact Lp_rf hd (by omega) (o1 (Or.inl h4)) hpm (Rf_rc hRf)
    rw [if_neg h4]
    unfold pw
    by_cases h1 : ¬ K p = 1
    · rw [if_neg h1]
      refine ⟨fun e he hRf => ?_, (fun e y he => by cases he)⟩
      cases he
      exact Lp_rf hd (by omega) (o1 (Or.inr h1)) hpm (Rf_rc hRf)
    have h1 : K p = 1 := Decidable.not_not.mp h1
    rw [if_pos h1]
    by_cases h61 : ¬ K (p + 1) = 61
    · rw [if_neg h61]
      refine ⟨fun e he hRf => ?_, (fun e y he => by cases he)⟩
      cases he
      obtain ⟨Z, hZ⟩ := o2 h4 h1 h61
      exact Lp_rf hd (by omega) hZ hpm (Rf_rc hRf)
    have h61 : K (p + 1) = 61 := Decidable.not_not.mp h61
    rw [if_pos h61]
    obtain ⟨hp1, A, N2, M2, L2, hop, CA, hAg2, eN2, eN2', A7, A35, A36, A37, FyA, Aa0, ⟨v7, v8, v21, v17, v10, v13, v14⟩, A26, A27, chA, pwA⟩ := o3 h4 h1 h61
    clear o1 o2 o3
    have gA := CA.2.1
    have hgo : Lp m fu (p + 2) A Q → Lp m fu p S1 Q := fun h => Lp_op hd (by omega) hop (by omega) (by omega) h
    obtain ⟨hN, hS⟩ := hRr A N2 M2 L2 (p + 2) (sz + 1) γ (n1 + 1) ρ1 τ1 _ 19 R Q (by omega) ⟨Cz_base CA, ⟨by omega, by rw [Nat.add_sub_cancel]; exact A35, by omega, by rw [Nat.add_sub_cancel]; exact A37⟩, by omega, by omega⟩ A7 (by omega)
    rcases hr : Rr (p + 2) with ⟨b, _ | x⟩
    · rw [pbd_none rfl]
      refine ⟨fun e he hRf => ?_, (fun e y he => by cases he)⟩
      cases he
      exact hgo (hN b hr hRf)
    rw [pbd_some rfl]
    obtain ⟨wx, -⟩ := hW _ _ _ hr
    have hxp := Wt_lt wx
    have hxr := Wt_rt wx
    have htx := tyx_lt K V x
    have t3 := tvV_r (V p)
    -- what endFirstValue does
    have key : (∀ (S' : im_S) (N' M' L' : Nat → Nat) (n' ρ' τ' kx : Nat) (D : im_S), PX K pl V m A N2 M2 L2 (p + 2) dep (sz + 1) γ (n1 + 1) ρ1 τ1 (min f1 (fdup pl V l.reverse γ p)) R S' N' M' L' n' ρ' τ' b x → N' (rtk x) = kx → n1 + 1 ≤ kx → kx < n' → ρ1 ≤ ρ' → τ1 ≤ τ' → Cz K pl V m S n ρ τ sz γ.length R D N' M' L' b dep sz γ n' ρ' τ' (pl b) (min (min (min f1 (fdup pl V l.reverse γ p)) (pfc K pl V x γ 0 [] [])) (ckX K pl V x (tvV (V p)))) → D.1 3 10 = nI n → Fx S' D (n1 + 1) n' ρ' τ' R kx → (∀ a j : Nat, 7 ≤ a → a ≤ 20 → j < n1 + 1 → (a ≠ 12 ∨ j ≠ n1) → D.1 a j = A.1 a j) → (∀ j : Nat, j < n1 + 1 → D.2.1 21 j = A.2.1 21 j) → D.1 12 n1 = nI kx → D.1 9 kx = 4 → D.1 10 kx = nI n → D.1 11 kx = nI n1 → (∀ r : Nat, r < ρ1 → D.1 27 r = A.1 27 r ∧ (r ≠ R → D.1 26 r = A.1 26 r)) → (∀ t : Nat, t < τ1 → D.1 29 t = A.1 29 t) → D.1 26 R = S'.1 26 R → Wc m fu b (if K b = 44 then some (1, uI (ad6 D (b + 1)) 3 7 3) else wtl fu D) Q) → Lp m fu p S1 Q := by
      intro hc
      refine hgo (hS b x hr (fun S' N' M' L' n' ρ' τ' P' => ?_))
      have C' := P'.1
      have F' := C'.2.2.2.2.2
      have Fn := F'.1
      have hb2 := C'.1.bd
      have hpm2 := C'.1.pm
      obtain ⟨-, -, nz1, nz2, nz3, nz4, hn', hρ', hτ', -⟩ := PX_keep P' wx gA (show R < ρ1 by omega) (by omega) (Fx_refl S' (n1 + 1) n' ρ' τ' R _) (fun j _ => ⟨rfl, rfl, rfl⟩)
      obtain ⟨zt0, zt8, ztT, ztB, ztS⟩ := P'.2.2.1
      obtain ⟨kx, hkx⟩ : ∃ kx, N' (rtk x) = kx := ⟨_, rfl⟩
      rw [hkx] at nz2 nz3 nz4 zt8 ztT ztB ztS
      have hkx5 : kx < 512 := by omega
      have b35 : S'.1 35 sz = nI 19 := by rw [F'.2.2.2.2.1 35 sz (by omega) (by omega) (by omega)]; exact A35
      have b36 : S'.1 36 sz = nI n1 := by rw [F'.2.2.2.2.1 36 sz (by omega) (by omega) (by omega)]; exact A36
      obtain ⟨D1, hD1⟩ : ∃ D1, D1 = uI (uI (uI S' 34 3 (nI sz)) 3 10 (nI n)) 12 n1 (nI kx) := ⟨_, rfl⟩
      obtain ⟨D, hD⟩ : ∃ D, D = ckS (cnS D1 kx 4 (nI n) (nI n1)) kx (nI (tvV (V p))) := ⟨_, rfl⟩
      have rD1 : ∀ a j : Nat, (a ≠ 34 ∨ j ≠ 3) → (a ≠ 3 ∨ j ≠ 10) → (a ≠ 12 ∨ j ≠ n1) → D1.1 a j = S'.1 a j := fun a j u1 u2 u3 => by rw [hD1, uI_ne (by omega), uI_ne (by omega), uI_ne (by omega)]
      have rD : ∀ a j : Nat, a ≠ 5 → (j ≠ kx ∨ a < 9 ∨ 11 < a) → D.1 a j = D1.1 a j := fun a j u1 u2 => by rw [hD, ck_ne (by omega), cn_ne (by omega)]
      have rDl : D.2.1 = S'.2.1 := by rw [hD, ck_21, hD1]; rfl
      have C2 : Cz K pl V m S n ρ τ sz γ.length R S' N' M' L' b dep (sz + 1) γ n' ρ' τ' (pl b) (min (min f1 (fdup pl V l.reverse γ p)) (pfc K pl V x γ 0 [] [])) := Cz_tr CA.2.2.2.2.2 C' (by omega) (by omega) (by omega) (by omega) (Nat.le_refl _) (Or.inl rfl)
      have CD : Cz K pl V m S n ρ τ sz γ.length R D N' M' L' b dep sz γ n' ρ' τ' (pl b) (min (min (min f1 (fdup pl V l.reverse γ p)) (pfc K pl V x γ 0 [] [])) (ckX K pl V x (tvV (V p)))) := by
        rw [hD, hD1]
        refine Cz_ck (b := bgk x) (ty := tyk K (tv V) x) (Cz_cn (Cz_nd (Cz_3 (Cz_pop C2) (by omega)) (by omega) (by omega)) 4 (nI n) (nI n1) (by omega)) ?_ ?_ (T.pl_ (by omega)) htx (by omega)
        · rw [cn_ne (by omega), uI_ne (by omega), uI_ne (by omega), uI_ne (by omega)]; exact ztT
        · rw [cn_ne (by omega), uI_ne (by omega), uI_ne (by omega), uI_ne (by omega)]; exact ztB
      have fxD : Fx S' D (n1 + 1) n' ρ' τ' R kx := by
        rw [hD, hD1]
        exact Fx_ck (Fx_cn (Fx_uI (Fx_uI (Fx_uI (Fx_refl S' (n1 + 1) n' ρ' τ' R kx) (by omega)) (by omega)) (by omega)) (Or.inl rfl))
      have k9 : D.1 9 kx = 4 ∧ D.1 10 kx = nI n ∧ D.1 11 kx = nI n1 := by
        obtain ⟨c9, c10, c11⟩ := cn_f D1 kx 4 (nI n) (nI n1)
        rw [hD, ck_ne (by omega), ck_ne (by omega), ck_ne (by omega)]
        exact ⟨c9, c10, c11⟩
      have hcl : f_X7_close fu (nI (K b)) S' = if K b = 44 then some (1, uI (ad6 D (b + 1)) 3 7 3) else wtl fu D := by
        rw [cl_19 C'.1.sz_ (by omega) b35]
        unfold f_X7_endFirstValue
        rw [c_pop C'.1.sz_ (by omega), b36]
        have s10 : (uI S' 34 3 (nI sz)).1 10 n1 = nI n := by rw [uI_ne (by omega), Fn 10 n1 (by omega) (by omega) (by omega)]; exact v10
        have s38 : (uI S' 34 3 (nI sz)).1 3 8 = nI kx := by rw [uI_ne (by omega)]; exact zt8
        simp only [Option.bind_some, mI_in (a := n1) (n := 512) (by omega) (by omega), nI_clamp (show n1 < 2 ^ 31 by omega), gd_t, s10, s38]
        rw [← hD1, c_conn hkx5]
        have d38 : (cnS D1 kx 4 (nI n) (nI n1)).1 3 8 = nI kx := by rw [cn_ne (by omega), rD1 3 8 (by omega) (by omega) (by omega)]; exact zt8
        have d8 : (cnS D1 kx 4 (nI n) (nI n1)).1 8 n1 = nI (tvV (V p)) := by rw [cn_ne (by omega), rD1 8 n1 (by omega) (by omega) (by omega), Fn 8 n1 (by omega) (by omega) (by omega)]; exact v8
        simp only [Option.bind_some, d38, d8]
        rw [c_chk hkx5, ← hD]
        simp only [Option.bind_some]
        have hkb : K b < 127 := by have := (tkK_c _ (T.2.1 b hpm2).2).2.2.2.2.2; omega
        have e44 : nI (K b) = (44 : Int32) ↔ K b = 44 := nI_eq (a := K b) (b := 44) (by omega) (by omega)
        by_cases h44 : K b = 44
        · rw [if_neg (fun z => z (e44.mpr h44)), if_pos h44]
          have d36 : D.1 3 6 = nI b := by rw [rD 3 6 (by omega) (by omega), rD1 3 6 (by omega) (by omega) (by omega)]; exact C'.1.at_
          rw [d36, show nI b + 1 = nI (b + 1) from nI_add b 1]
          rfl
        · rw [if_pos (fun z => h44 (e44.mp z)), if_neg h44]
          unfold wtl
          rcases f_X7_take 10 D with _ | ⟨r0, S0⟩
          · rfl
          · simp only [Option.bind_some]
            by_cases z0 : r0 = 0
            · simp only [if_pos z0]; rfl
            · simp only [if_neg z0]
              rcases f_X7_openWhilePart fu S0 with _ | ⟨r1, S0⟩
              · rfl
              · simp only [Option.bind_some]
                by_cases z1 : r1 = 0
                · simp only [if_pos z1]; rfl
                · simp only [if_neg z1]; rfl
      obtain ⟨r0, S0, pos1, hx, hxx⟩ := hc S' N' M' L' n' ρ' τ' kx D P' hkx nz3 nz4 hρ' hτ' CD (by rw [rD 3 10 (by omega) (by omega), hD1, uI_ne (by omega), uI_eq]) fxD (fun a j u1 u2 u3 u4 => by rw [rD a j (by omega) (by omega), rD1 a j (by omega) (by omega) (by omega), Fn a j u1 u2 u3]) (fun j u => by rw [rDl]; exact F'.2.1 j u) (by rw [rD 12 n1 (by omega) (by omega), hD1, uI_eq]) k9.1 k9.2.1 k9.2.2 (fun r hr' => ⟨by rw [rD 27 r (by omega) (by omega), rD1 27 r (by omega) (by omega) (by omega)]; exact (F'.2.2.1 r hr').1, fun hne => by rw [rD 26 r (by omega) (by omega), rD1 26 r (by omega) (by omega) (by omega)]; exact (F'.2.2.1 r hr').2 hne⟩) (fun t ht => by rw [rD 29 t (by omega) (by omega), rD1 29 t (by omega) (by omega) (by omega)]; exact F'.2.2.2.1 t ht) (by rw [rD 26 R (by omega) (by omega), rD1 26 R (by omega) (by omega) (by omega)])
      exact FZ_cl hfu C'.1.sz_ (by omega) b35 (by omega) (by omega) (by omega) (pos1 := pos1) (hcl.trans hx) hpm2 hxx
    have hlmN : ∀ c, c ∈ l → c + 1 ≤ p := fun c hc => by have := (hlm c hc).2; omega
    -- the frame of the first step
    have FyD : ∀ (D : im_S), (∀ a j : Nat, 7 ≤ a → a ≤ 20 → j < n1 + 1 → (a ≠ 12 ∨ j ≠ n1) → D.1 a j = A.1 a j) → (∀ j : Nat, j < n1 + 1 → D.2.1 21 j = A.2.1 21 j) → (∀ r : Nat, r < ρ1 → D.1 27 r = A.1 27 r ∧ (r ≠ R → D.1 26 r = A.1 26 r)) → (∀ t : Nat, t < τ1 → D.1 29 t = A.1 29 t) → Fy S1 D n n1 ρ1 τ1 R a0 k0 := fun D d1 d2 d3 d4 => ⟨fun a k' u1 u2 u0 u3 u4 => (d1 a k' u1 u2 (by omega) (by omega)).trans (FyA.1 a k' u1 u2 u0 u3 u4), fun k' u0 u3 => (d2 k' (by omega)).trans (FyA.2.1 k' u0 u3), fun r hr' => ⟨((d3 r hr').1).trans (FyA.2.2.1 r hr').1, fun hne => ((d3 r hr').2 hne).trans ((FyA.2.2.1 r hr').2 hne)⟩, fun t ht => (d4 t ht).trans (FyA.2.2.2 t ht)⟩
    have hVIl : ∀ (D : im_S) (N' : Nat → Nat) (n' : Nat), n1 ≤ n' → (∀ j, j ≤ p → N' j = N1 j) → Fy S1 D n n1 ρ1 τ1 R a0 k0 → ∀ c, c ∈ l → VI V D N' n n' c := fun D N' n' h1 h2 h3 c hc => by
      have h9 := hlm c hc
      have h8 := h9.1.1
      have h7 := h9.1.2.1
      exact VI_cp h9.1 h1 ⟨h2 c (by omega), h2 (c + 1) (by omega)⟩ (fun a u => h3.1 a (N1 c) (by omega) (by omega) (by omega) h7 (by omega)) (h3.2.1 (N1 c) (by omega) h7)
    by_cases h44 : K b = 44
    · rw [if_pos h44]
      have cont := fun (S' : im_S) (N' M' L' : Nat → Nat) (n' ρ' τ' kx : Nat) (D : im_S) (hbm : b < m) (P' : PX K pl V m A N2 M2 L2 (p + 2) dep (sz + 1) γ (n1 + 1) ρ1 τ1 (min f1 (fdup pl V l.reverse γ p)) R S' N' M' L' n' ρ' τ' b x) (hn' : n1 + 1 ≤ n') (hρ' : ρ1 ≤ ρ') (hτ' : τ1 ≤ τ') (hkk : n1 + 1 ≤ kx ∧ kx < n') (CD : Cz K pl V m S n ρ τ sz γ.length R D N' M' L' b dep sz γ n' ρ' τ' (pl b) (min (min (min f1 (fdup pl V l.reverse γ p)) (pfc K pl V x γ 0 [] [])) (ckX K pl V x (tvV (V p))))) (dlo : D.1 3 10 = nI n) (dn : ∀ a j : Nat, 7 ≤ a → a ≤ 20 → j < n1 + 1 → (a ≠ 12 ∨ j ≠ n1) → D.1 a j = A.1 a j) (dl : ∀ j : Nat, j < n1 + 1 → D.2.1 21 j = A.2.1 21 j) (d12 : D.1 12 n1 = nI kx) (dr : ∀ r : Nat, r < ρ1 → D.1 27 r = A.1 27 r ∧ (r ≠ R → D.1 26 r = A.1 26 r)) (dt : ∀ t : Nat, t < τ1 → D.1 29 t = A.1 29 t) => ih (na + 1) (b + 1) (uI (ad6 D (b + 1)) 3 7 3) (ex N' b n') (ex M' b ρ') (ex L' b τ') n' ρ' τ' _ (l ++ [p]) 14 n1 (by omega) (by omega) (by omega) (Cz_3 (Cz_B (Cz_ad T CD hbm) (show pl b ≤ pl (b + 1) by have := T.lt_ hbm; omega)) (by omega)) uI_eq (by unfold ad6; rw [uI_ne (by omega), uI_ne (by omega)]; exact dlo) (by rw [ex_le (by omega), (P'.2.1 pos (by omega)).1, (hAg2 pos (by omega)).1]; exact hNp) (by omega) (by omega) (by omega) (by
          have eL : (l ++ [p]).map (ex N' b n') = (l.map N1) ++ [n1] := by
            rw [List.map_append]
            congr 1
            · refine map_N (fun c hc => ?_)
              have := hlmN c hc
              rw [ex_le (by omega), (P'.2.1 c (by omega)).1, (hAg2 c (by omega)).1]
            · show [ex N' b n' p] = [n1]
              rw [ex_le (by omega), (P'.2.1 p (by omega)).1, eN2]
          rw [eL]
          have e12 : (uI (ad6 D (b + 1)) 3 7 3).1 12 n = A.1 12 n := by unfold ad6; rw [uI_ne (by omega), uI_ne (by omega), dn 12 n (by omega) (by omega) (by omega) (by omega)]
          rw [e12]
          refine Chn_cp _ _ (fun j hj => ?_) chA
          have hj2 : j < n1 + 1 := by
            rcases List.mem_append.mp hj with z | z
            · obtain ⟨c, hc, e⟩ := List.mem_map.mp z
              have := (hlm c hc).1.2.1
              omega
            · rw [List.mem_singleton] at z; omega
          unfold ad6
          rw [uI_ne (by omega), uI_ne (by omega), dn 14 j (by omega) (by omega) hj2 (by omega)]) (by rw [List.length_append, hlen]; rfl) (by omega) (fun c hc => by
          rcases List.mem_append.mp hc with z | z
          · refine ⟨?_, by have := hlmN c z; omega⟩
            have h9 := hVIl D (ex N' b n') n' (by omega) (fun j hj => by rw [ex_le (by omega), (P'.2.1 j (by omega)).1, (hAg2 j hj).1]) (FyD D dn dl dr dt) c z
            exact VI_cp h9 (Nat.le_refl _) ⟨rfl, rfl⟩ (fun a u => by unfold ad6; rw [uI_ne (by omega), uI_ne (by omega)]) rfl
          · rw [List.mem_singleton] at z
            subst z
            have e1 : ex N' b n' c = n1 := by rw [ex_le (by omega), (P'.2.1 c (by omega)).1, eN2]
            have e2 : ex N' b n' (c + 1) = n1 + 1 := by rw [ex_le (by omega), (P'.2.1 (c + 1) (by omega)).1, eN2']
            refine ⟨?_, by omega⟩
            unfold VI ad6
            rw [e1, e2]
            refine ⟨hnn, by omega, by omega, ?_, ?_, ?_, ?_, ?_, kx, ?_, by omega, hkk.2⟩
            · rw [uI_ne (by omega), uI_ne (by omega), dn 7 n1 (by omega) (by omega) (by omega) (by omega)]; exact v7
            · rw [uI_ne (by omega), uI_ne (by omega), dn 8 n1 (by omega) (by omega) (by omega) (by omega)]; exact v8
            · show D.2.1 21 n1 = _; rw [dl n1 (by omega)]; exact v21
            · rw [uI_ne (by omega), uI_ne (by omega), dn 10 n1 (by omega) (by omega) (by omega) (by omega)]; exact v10
            · rw [uI_ne (by omega), uI_ne (by omega), dn 13 n1 (by omega) (by omega) (by omega) (by omega)]; exact v13
            · rw [uI_ne (by omega), uI_ne (by omega)]; exact d12) (by
          have eL : (l ++ [p]).map (ex N' b n') = (l.map N1) ++ [n1] := by
            rw [List.map_append]
            congr 1
            · refine map_N (fun c hc => ?_)
              have := hlmN c hc
              rw [ex_le (by omega), (P'.2.1 c (by omega)).1, (hAg2 c (by omega)).1]
            · show [ex N' b n' p] = [n1]
              rw [ex_le (by omega), (P'.2.1 p (by omega)).1, eN2]
          rw [eL]; exact pwA) (Or.inr ⟨l.map (ex N' b n'), by
          rw [List.map_append]
          congr 1
          show [ex N' b n' p] = [n1]
          rw [ex_le (by omega), (P'.2.1 p (by omega)).1, eN2], rfl⟩)
      have hb44 : ∀ (S' : im_S) (N' M' L' : Nat → Nat) (n' ρ' τ' : Nat), PX K pl V m A N2 M2 L2 (p + 2) dep (sz + 1) γ (n1 + 1) ρ1 τ1 (min f1 (fdup pl V l.reverse γ p)) R S' N' M' L' n' ρ' τ' b x → b < m := fun S' N' M' L' n' ρ' τ' P' => K_lt T.end_ P'.1.1.pm h44 (by decide) (by decide)
      rcases hr2 : pB K Rr q 4 (na + 1) (b + 1) with ⟨e2, _ | r2⟩
      · rw [pbd_none rfl]
        refine ⟨fun e he hRf => ?_, (fun e y he => by cases he)⟩
        cases he
        refine key (fun S' N' M' L' n' ρ' τ' kx D P' hkx u1 u2 hρ' hτ' CD dlo fxD dn dl d12 d9 d10 d11 dr dt dR => ?_)
        have hbm := hb44 S' N' M' L' n' ρ' τ' P'
        rw [if_pos h44]
        exact ⟨1, _, b + 1, rfl, Or.inr ⟨rfl, by omega, by omega, (cont S' N' M' L' n' ρ' τ' kx D hbm P' (by omega) hρ' hτ' ⟨u1, u2⟩ CD dlo dn dl d12 dr dt).1 e2 hr2 hRf⟩⟩
      · rw [pbd_some rfl]
        refine ⟨(fun e he => by cases he), fun e r he hL => ?_⟩
        cases he
        refine key (fun S' N' M' L' n' ρ' τ' kx D P' hkx u1 u2 hρ' hτ' CD dlo fxD dn dl d12 d9 d10 d11 dr dt dR => ?_)
        have hbm := hb44 S' N' M' L' n' ρ' τ' P'
        rw [if_pos h44]
        refine ⟨1, _, b + 1, rfl, Or.inr ⟨rfl, by omega, by omega, (cont S' N' M' L' n' ρ' τ' kx D hbm P' (by omega) hρ' hτ' ⟨u1, u2⟩ CD dlo dn dl d12 dr dt).2 e2 r2 hr2 (fun D2 N5 M5 L5 n5 ρ5 τ5 PP => ?_)⟩⟩
        obtain ⟨y1, y2, y3, y4, y5, y6, y7, y8, y9, y10, y11, y12, y13, y14, y15⟩ := PP
        have rA' : ∀ a j : Nat, a ≠ 3 → (uI (ad6 D (b + 1)) 3 7 3).1 a j = D.1 a j := fun a j u => by unfold ad6; rw [uI_ne (by omega), uI_ne (by omega)]
        have hAg : Ag N' M' L' N5 M5 L5 b := Ag_tr (Ag_ex N' M' L' b n' ρ' τ') y2 (by omega)
        have hAg0 : Ag N2 M2 L2 N5 M5 L5 (p + 2) := Ag_tr P'.2.1 hAg (by omega)
        have fx2 : Fx S' D2 (n1 + 1) n' ρ' τ' R kx := by
          refine Fx_Fy ?_ y4 (by omega) (Nat.le_refl _) (Nat.le_refl _) (Nat.le_refl _) (by omega)
          unfold ad6
          exact Fx_uI (Fx_uI fxD (by omega)) (by omega)
        obtain ⟨Gx, Sx, nx1, nx2, -⟩ := PX_keep P' wx gA (show R < ρ1 by omega) (by omega) (by rw [hkx]; exact fx2) hAg
        rw [hkx] at nx2
        have hN5 : N5 pos = n := by rw [(hAg0 pos (by omega)).1, (hAg2 pos (by omega)).1]; exact hNp
        have hN5p : N5 p = n1 := by rw [(hAg0 p (by omega)).1]; exact eN2
        have hN5p' : N5 (p + 1) = n1 + 1 := by rw [(hAg0 (p + 1) (by omega)).1]; exact eN2'
        -- fields of nodes up to n1, and of the root
        have rn : ∀ a j : Nat, 7 ≤ a → a ≤ 20 → n ≤ j → j < n1 + 1 → (a ≠ 12 ∨ j ≠ n1) → (a ≠ 14 ∨ j ≠ n1) → D2.1 a j = A.1 a j := fun a j w1 w2 w3 w4 w5 w6 => by
          rw [y4.1 a j w1 w2 w3 (by omega) (by omega), rA' a j (by omega), dn a j w1 w2 w4 w5]
        have rn21 : ∀ j : Nat, n ≤ j → j < n1 + 1 → D2.2.1 21 j = A.2.1 21 j := fun j w3 w4 => by
          rw [y4.2.1 j w3 (by omega)]; exact dl j w4
        have rk : ∀ a : Nat, 9 ≤ a → a ≤ 11 → D2.1 a kx = D.1 a kx := fun a w1 w2 => by
          rw [y4.1 a kx (by omega) (by omega) (by omega) (by omega) (by omega), rA' a kx (by omega)]
        have d12' : D2.1 12 n1 = nI kx := by rw [y4.1 12 n1 (by omega) (by omega) (by omega) (by omega) (by omega), rA' 12 n1 (by omega)]; exact d12
        have r27 : D2.1 27 R = A.1 27 R := by rw [(y4.2.2.1 R (by omega)).1, rA' 27 R (by omega)]; exact (dr R (by omega)).1
        have FyD2 : Fy S1 D2 n n1 ρ1 τ1 R a0 k0 := by
          have h0 := FyD D dn dl dr dt
          refine ⟨fun a k' w1 w2 w0 w3 w4 => ?_, fun k' w0 w3 => ?_, fun r hr' => ⟨?_, fun hne => ?_⟩, fun t ht => ?_⟩
          · rw [y4.1 a k' w1 w2 w0 (by omega) (by omega), rA' a k' (by omega)]; exact h0.1 a k' w1 w2 w0 w3 w4
          · rw [y4.2.1 k' w0 (by omega)]; exact h0.2.1 k' w0 w3
          · rw [(y4.2.2.1 r (by omega)).1, rA' 27 r (by omega)]; exact (h0.2.2.1 r hr').1
          · rw [(y4.2.2.1 r (by omega)).2 hne, rA' 26 r (by omega)]; exact (h0.2.2.1 r hr').2 hne
          · rw [y4.2.2.2 t (by omega), rA' 29 t (by omega)]; exact h0.2.2.2 t ht
        have etk : tks (.append (.tag p x) r2) = p :: tks r2 := rfl
        have eap : l ++ tks (.append (.tag p x) r2) = (l ++ [p]) ++ tks r2 := by rw [etk, List.append_assoc]; rfl
        have erv : (l ++ [p]).reverse = p :: l.reverse := by rw [List.reverse_append]; rfl
        rw [erv] at y1 y9
        refine hL D2 N5 M5 L5 n5 ρ5 τ5 ⟨?_, Ag_tr hAg2 hAg0 (by omega), y3, FyD2, ?_, by rw [eap]; exact y6, by rw [eap]; exact y7, by rw [eap]; exact y8, fun hz => ?_, ?_, by omega, by omega, by omega, ?_, by omega⟩
        · have hmin : min (min (min (min f1 (fdup pl V l.reverse γ p)) (pfc K pl V x γ 0 [] [])) (ckX K pl V x (tvV (V p)))) (pfc K pl V r2 γ 102 (p :: l.reverse) []) = min f1 (pfc K pl V (.append (.tag p x) r2) γ 102 l.reverse []) := by rw [pfc_fi]; simp only [Nat.min_assoc]
          rw [← hmin]
          exact y1
        · show D2.1 a0 k0 = nI (N5 p)
          rw [hN5p, rn a0 k0 (by omega) (by omega) hk01 (by omega) (by omega) (by omega)]
          exact Aa0
        · rw [pfc_fi] at hz
          simp only [Nat.le_min] at hz
          obtain ⟨-, hz1, -, hz2⟩ := hz
          rw [G_fi]
          refine ⟨⟨by omega, ?_, ?_, ?_⟩, nx1, ?_, ?_, ?_, ?_, ?_, ?_, Gx hz1, y9 hz2⟩
          · rw [hN5p, rn 7 n1 (by omega) (by omega) (by omega) (by omega) (by omega) (by omega)]; exact v7
          · rw [hN5p, rn 8 n1 (by omega) (by omega) (by omega) (by omega) (by omega) (by omega)]; exact v8
          · rw [hN5p, rn21 n1 (by omega) (by omega)]; exact v21
          · rw [hN5p, hN5, rn 10 n1 (by omega) (by omega) (by omega) (by omega) (by omega) (by omega)]; exact v10
          · rw [hN5p, nx2]; exact d12'
          · rw [hN5p]; exact y5
          · rw [nx2, hN5, rk 10 (by omega) (by omega)]; exact d10
          · rw [nx2, hN5p, rk 11 (by omega) (by omega)]; exact d11
          · show D2.1 13 (N5 p) = -1 ∧ D2.1 9 (N5 (rtk x)) = 4 ∧ D2.1 17 (N5 p) = D2.1 27 R
            refine ⟨?_, ?_, ?_⟩
            · rw [hN5p, rn 13 n1 (by omega) (by omega) (by omega) (by omega) (by omega) (by omega)]; exact v13
            · rw [nx2, rk 9 (by omega) (by omega)]; exact d9
            · rw [hN5p, rn 17 n1 (by omega) (by omega) (by omega) (by omega) (by omega) (by omega), r27]; exact v17
        · show Seg D2 N5 (D2.1 26 R) (lvs r2 ++ lvs x) (S1.1 26 R)
          refine Seg_app _ _ _ _ _ y10 ?_
          rw [rA' 26 R (by omega), dR, ← A26]
          exact Sx
        · have CIx := PX_ci P' wx gA (by rw [hkx]; exact fx2.1) fx2.2.1 hAg
          show CI K pl V D2 N5 p e2 pos (cls x ++ cls r2)
          have nb : N5 b = n' := by rw [(hAg b (Nat.le_refl _)).1]; exact P'.1.2.1.1
          have nb1 : N5 (b + 1) = n' := by rw [(y2 (b + 1) (Nat.le_refl _)).1, ex_gt (by omega)]
          have np2 : N5 (p + 2) = n1 + 1 := by rw [(hAg0 (p + 2) (Nat.le_refl _)).1]; exact gA.1
          have h1 := CI_seq (t0 := pos) CIx y14 (by omega) (by omega) (by omega) (fun k k1 k2 => by rw [nb] at k1; rw [nb1] at k2; omega) (Or.inl (by omega))
          refine CI_wid h1 (by omega) (Nat.le_refl _) (fun k k1 k2 => ?_) (fun k k1 k2 => absurd k1 (by omega)) (Or.inr (Or.inr rfl))
          rw [hN5p] at k1
          rw [np2] at k2
          have : k = n1 := by omega
          rw [this, rn 7 n1 (by omega) (by omega) (by omega) (by omega) (by omega) (by omega), v7]; exact k8 (c := 3) (by omega) (by omega)
    · rw [if_neg h44]
      refine ⟨(fun e he => by cases he), fun e r he hL => ?_⟩
      cases he
      refine key (fun S' N' M' L' n' ρ' τ' kx D P' hkx u1 u2 hρ' hτ' CD dlo fxD dn dl d12 d9 d10 d11 dr dt dR => ?_)
      rw [if_neg h44]
      obtain ⟨Gx, Sx, nx1, nx2, -⟩ := PX_keep P' wx gA (show R < ρ1 by omega) (by omega) (by rw [hkx]; exact fxD) (fun j _ => ⟨rfl, rfl, rfl⟩)
      have hN5 : N' pos = n := by rw [(P'.2.1 pos (by omega)).1, (hAg2 pos (by omega)).1]; exact hNp
      have hN5p : N' p = n1 := by rw [(P'.2.1 p (by omega)).1]; exact eN2
      have hN5p' : N' (p + 1) = n1 + 1 := by rw [(P'.2.1 (p + 1) (by omega)).1]; exact eN2'
      have hFy := FyD D dn dl dr dt
      have etk : tks (.append (.tag p x) .nil) = [p] := rfl
      have r27 : D.1 27 R = A.1 27 R := (dr R (by omega)).1
      have hpn : pfc K pl V (.append (.tag p x) .nil) γ 102 l.reverse [] = min (fdup pl V l.reverse γ p) (min (pfc K pl V x γ 0 [] []) (min (ckX K pl V x (tvV (V p))) 4000)) := rfl
      have eL : (l ++ [p]).map N' = (l.map N1) ++ [n1] := by
        rw [List.map_append]
        congr 1
        · refine map_N (fun c hc => ?_)
          have := hlmN c hc
          rw [(P'.2.1 c (by omega)).1, (hAg2 c (by omega)).1]
        · show [N' p] = [n1]
          rw [hN5p]
      refine hL D N' M' L' n' ρ' τ' ⟨?_, Ag_tr hAg2 P'.2.1 (by omega), dlo, hFy, ?_, ?_, ?_, fun c hc => ?_, fun hz => ?_, ?_, by omega, by omega, by omega, ?_, by omega⟩
      · have hf := C1.2.2.2.2.1
        have hmin : min (min (min f1 (fdup pl V l.reverse γ p)) (pfc K pl V x γ 0 [] [])) (ckX K pl V x (tvV (V p))) = min f1 (pfc K pl V (.append (.tag p x) .nil) γ 102 l.reverse []) := by rw [hpn]; omega
        rw [← hmin]
        exact CD
      · show D.1 a0 k0 = nI (N' p)
        rw [hN5p, dn a0 k0 (by omega) (by omega) (by omega) (by omega)]
        exact Aa0
      · rw [etk, eL, dn 12 n (by omega) (by omega) (by omega) (by omega)]
        refine Chn_cp _ _ (fun j hj => ?_) chA
        have hj2 : j < n1 + 1 := by
          rcases List.mem_append.mp hj with z | z
          · obtain ⟨c, hc, e⟩ := List.mem_map.mp z
            have := (hlm c hc).1.2.1
            omega
          · rw [List.mem_singleton] at z; omega
        exact dn 14 j (by omega) (by omega) hj2 (by omega)
      · rw [etk, List.length_append, hlen]; show na + 1 ≤ 4; omega
      · rw [etk] at hc
        rcases List.mem_append.mp hc with z | z
        · exact ⟨hVIl D N' n' (by omega) (fun j hj => by rw [(P'.2.1 j (by omega)).1, (hAg2 j hj).1]) hFy c z, by have := hlmN c z; omega⟩
        · rw [List.mem_singleton] at z
          subst z
          refine ⟨?_, by omega⟩
          unfold VI
          rw [hN5p, hN5p']
          refine ⟨hnn, by omega, by omega, ?_, ?_, ?_, ?_, ?_, kx, d12, by omega, u2⟩
          · rw [dn 7 n1 (by omega) (by omega) (by omega) (by omega)]; exact v7
          · rw [dn 8 n1 (by omega) (by omega) (by omega) (by omega)]; exact v8
          · rw [dl n1 (by omega)]; exact v21
          · rw [dn 10 n1 (by omega) (by omega) (by omega) (by omega)]; exact v10
          · rw [dn 13 n1 (by omega) (by omega) (by omega) (by omega)]; exact v13
      · rw [hpn] at hz
        simp only [Nat.le_min] at hz
        obtain ⟨-, hz1, -⟩ := hz
        rw [G_fi]
        have nx2 := hkx
        refine ⟨⟨by omega, ?_, ?_, ?_⟩, nx1, ?_, ?_, ?_, ?_, ?_, ?_, Gx hz1, trivial⟩
        · rw [hN5p, dn 7 n1 (by omega) (by omega) (by omega) (by omega)]; exact v7
        · rw [hN5p, dn 8 n1 (by omega) (by omega) (by omega) (by omega)]; exact v8
        · rw [hN5p, dl n1 (by omega)]; exact v21
        · rw [hN5p, hN5, dn 10 n1 (by omega) (by omega) (by omega) (by omega)]; exact v10
        · rw [hN5p, nx2]; exact d12
        · rw [hN5p, dn 14 n1 (by omega) (by omega) (by omega) (by omega)]; exact v14
        · rw [nx2, hN5]; exact d10
        · rw [nx2, hN5p]; exact d11
        · show D.1 13 (N' p) = -1 ∧ D.1 9 (N' (rtk x)) = 4 ∧ D.1 17 (N' p) = D.1 27 R
          refine ⟨?_, ?_, ?_⟩
          · rw [hN5p, dn 13 n1 (by omega) (by omega) (by omega) (by omega)]; exact v13
          · rw [nx2]; exact d9
          · rw [hN5p, dn 17 n1 (by omega) (by omega) (by omega) (by omega), r27]; exact v17
      · show Seg D N' (D.1 26 R) ([] ++ lvs x) (S1.1 26 R)
        rw [List.nil_append, dR, ← A26]
        exact Sx
      · have CIx := PX_ci P' wx gA (by rw [hkx]; exact fxD.1) fxD.2.1 (fun j _ => ⟨rfl, rfl, rfl⟩)
        show CI K pl V D N' p b pos (cls x ++ [])
        rw [List.append_nil]
        have np2 : N' (p + 2) = n1 + 1 := by rw [(P'.2.1 (p + 2) (Nat.le_refl _)).1]; exact gA.1
        refine CI_wid CIx (by omega) (Nat.le_refl _) (fun k k1 k2 => ?_) (fun k k1 k2 => absurd k1 (by omega)) (Or.inl (by omega))
        rw [hN5p] at k1
        rw [np2] at k2
        have : k = n1 := by omega
        rw [this, dn 7 n1 (by omega) (by omega) (by omega) (by omega), v7]; exact k8 (c := 3) (by omega) (by omega)
end CFJ
