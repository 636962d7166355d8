/-! the class's parser: all next values of a loop -/
theorem VJ_cp {V : Nat → Int64} {S S' : im_S} {N N' : Nat → Nat} {n n1 n' b : Nat} {l pre : List Nat} (h : VJ V S N n n1 l pre b) (hn : n1 ≤ n') (hN : N' b = N b ∧ N' (b + 1) = N (b + 1)) (hr : ∀ a : Nat, (a = 7 ∨ a = 8 ∨ a = 10 ∨ a = 13) → S'.1 a (N b) = S.1 a (N b)) (hl : S'.2.1 21 (N b) = S.2.1 21 (N b)) : VJ V S' N' n n' l pre b := by
  obtain ⟨h1, h2, h3, h4, h5, h6, h7, h8, h9⟩ := h
  unfold VJ
  rw [hN.1, hN.2, hr 7 (by omega), hr 8 (by omega), hl, hr 10 (by omega), hr 13 (by omega)]
  exact ⟨h1, by omega, h3, h4, h5, h6, h7, h8, h9⟩
/-- what follows the next values -/
def ntl (fu : Nat) (D : im_S) : Option (Int32 × im_S) := (f_X7_take 12 D).bind (fun qS11 => if (qS11.1 : Int32) = 0 then (some (0, qS11.2)) else ((f_X7_openGivePart fu qS11.2).bind (fun qS15 => if (qS15.1 : Int32) = 0 then (some (0, qS15.2)) else (some (1, qS15.2)))))
section CNY
variable {K pl : Nat → Nat} {V : Nat → Int64} {m fu : Nat} {Q : Int32 → im_S → Prop} {S : im_S} {N M L : Nat → Nat} {pos dep sz n ρ τ f k R : Nat} {γ : List Nat} {kn ρn : Nat} {l : List Nat}
/-- a list of next values is read up to its end -/
def PN (K pl : Nat → Nat) (V : Nat → Int64) (m : Nat) (S : im_S) (pos dep sz kn : Nat) (γ : List Nat) (n ρ τ R ρn : Nat) (S1 : im_S) (N1 M1 L1 : Nat → Nat) (n1 ρ1 τ1 f1 p : Nat) (l pre : List Nat) (S' : im_S) (N' M' L' : Nat → Nat) (n' ρ' τ' e : Nat) (r : TR) : Prop :=
  Cz K pl V m S n ρ τ sz kn R S' N' M' L' e dep sz γ n' ρ' τ' (pl e) (min f1 (pfc K pl V r γ 105 pre l)) ∧ Ag N1 M1 L1 N' M' L' p ∧ S'.1 3 10 = nI n ∧ FN S1 S' n n1 ρ1 τ1 (ρn + 1) (l.map N1) ∧ (∀ b, b ∈ l → VJ V S' N' n n' l ((tks r).reverse ++ pre) b) ∧ (4000 ≤ pfc K pl V r γ 105 pre l → G K pl V S' N' M' L' r γ (ρn + 1) 105 pos .nil l) ∧ Seg S' N' (S'.1 26 (ρn + 1)) (lvs r) (S1.1 26 (ρn + 1)) ∧ n1 ≤ n' ∧ ρ1 ≤ ρ' ∧ τ1 ≤ τ' ∧ CI K pl V S' N' p e pos (cls r) ∧ p < e
theorem G_nx (S : im_S) (N M L : Nat → Nat) (p : Nat) (x r : TR) (c : Nat) (l : List Nat) : G K pl V S N M L (.append (.tag p x) r) γ R 105 c .nil l = ((∃ b, fnd V l p = some b ∧ S.1 11 (N (rtk x)) = nI (N b)) ∧ rl S N (rtk x) 6 c ∧ G K pl V S N M L x γ R 0 0 .nil [] ∧ G K pl V S N M L r γ R 105 c .nil l) := rfl
theorem pfc_nx (p : Nat) (x r : TR) (pre l : List Nat) : pfc K pl V (.append (.tag p x) r) γ 105 pre l = min (fnx pl V pre l p) (min (pfc K pl V x γ 0 [] []) (min (ckX K pl V x (tvV (V p))) (pfc K pl V r γ 105 (p :: pre) l))) := rfl
set_option maxHeartbeats 8000000 in
theorem k_nexts (T : TH K pl V m) (hfu : 600 ≤ fu) {Rr : Nat → PR} {p0 : Nat} (hRr : HXc K pl V m fu Rr dep p0) (hW : WR K Rr) (hR : R < ρ) (hTp : Tp S sz k R) (hlen : l.length ≤ 4) (hknγ : kn ≤ γ.length) :
    ∀ (q na p : Nat) (S1 : im_S) (N1 M1 L1 : Nat → Nat) (n1 ρ1 τ1 f1 : Nat) (pre : List Nat), p0 ≤ p → pos < p → m < q + p → na ≤ p → Cz K pl V m S n ρ τ sz kn R S1 N1 M1 L1 p dep sz γ n1 ρ1 τ1 (pl p) f1 → S1.1 3 7 = nI 4 → S1.1 3 10 = nI n → N1 pos = n → n < n1 → ρ ≤ ρ1 → τ ≤ τ1 → Chn S1 (S1.1 12 n) (l.map N1) → (∀ b, b ∈ l → VJ V S1 N1 n n1 l pre b ∧ b < p) → S1.1 15 n = nI ρn → (ρ ≤ ρn ∧ ρn + 1 < ρ1) →
    (∀ e, pB K Rr q 1000 na p = (e, none) → Rf pl e Q → Lp m fu p S1 Q) ∧ ∀ e r, pB K Rr q 1000 na p = (e, some r) → (∀ (D : im_S) (N' M' L' : Nat → Nat) (n' ρ' τ' : Nat), PN K pl V m S pos dep sz kn γ n ρ τ R ρn S1 N1 M1 L1 n1 ρ1 τ1 f1 p l pre D N' M' L' n' ρ' τ' e r → Wc m fu e (ntl fu D) Q) → Lp m fu p S1 Q := by
  intro q
  induction q with
  | zero => intro na p S1 N1 M1 L1 n1 ρ1 τ1 f1 pre _ _ hq _ C1; have := C1.1.pm; omega
  | succ q ih =>
    intro na p S1 N1 M1 L1 n1 ρ1 τ1 f1 pre hp0 hpp hq hna C1 hd hlo hNp hnn hρ1 hτ1 hch hlm h15 hρn
    have hpm := C1.1.pm
    have hbd := C1.1.bd
    have hm := T.m_
    have hsz1 := hTp.1
    obtain ⟨o1, o2, o3⟩ := c_nextO (fu := fu) T hfu hR hTp hpp C1 hlo hnn hρ1 hτ1 hch hlen hlm h15 hρn
    rw [pB, if_neg (by omega)]
    unfold pw
    by_cases h1 : ¬ K p = 1
    · rw [if_neg h1]
      refine ⟨fun e he hRf => ?_, (fun e y he => by cases he)⟩
      cases he
      exact Lp_rf hd (by omega) (o1 h1) hpm (Rf_rc hRf)
    have h1 : K p = 1 := Decidable.not_not.mp h1
    rw [if_pos h1]
    by_cases h61 : ¬ K (p + 1) = 61
    · rw [if_neg h61]
      refine ⟨fun e he hRf => ?_, (fun e y he => by cases he)⟩
      cases he
      obtain ⟨Z, hZ⟩ := o2 h1 h61
      exact Lp_rf hd (by omega) hZ hpm (Rf_rc hRf)
    have h61 : K (p + 1) = 61 := Decidable.not_not.mp h61
    rw [if_pos h61]
    obtain ⟨hp1, A, N2, M2, L2, kv, nA, hop, CA, hAg2, hnA, hkv1, hkv2, A7, A35, A36, A37, FNA, A26, A8, A10, hgd, hVJA, hA7k⟩ := o3 h1 h61
    clear o1 o2 o3
    have gA := CA.2.1
    have hbdA := CA.1.bd
    have hgo : Lp m fu (p + 2) A Q → Lp m fu p S1 Q := fun h => Lp_op hd (by omega) hop (by omega) (by omega) h
    obtain ⟨hN, hS⟩ := hRr A N2 M2 L2 (p + 2) (sz + 1) γ nA ρ1 τ1 _ 21 (ρn + 1) Q (by omega) ⟨Cz_base CA, ⟨by omega, by rw [Nat.add_sub_cancel]; exact A35, by omega, by rw [Nat.add_sub_cancel]; exact A37⟩, by omega, by omega⟩ A7 (by omega)
    rcases hr : Rr (p + 2) with ⟨b, _ | x⟩
    · rw [pbd_none rfl]
      refine ⟨fun e he hRf => ?_, (fun e y he => by cases he)⟩
      cases he
      exact hgo (hN b hr hRf)
    rw [pbd_some rfl]
    obtain ⟨wx, -⟩ := hW _ _ _ hr
    have hxp := Wt_lt wx
    have hxr := Wt_rt wx
    have htx := tyx_lt K V x
    have t3 := tvV_r (V p)
    have hlt : ∀ c, c ∈ l → N1 c < n1 ∧ n < N1 c ∧ c < p := fun c hc => ⟨(hlm c hc).1.2.1, (hlm c hc).1.1, (hlm c hc).2⟩
    have hvs : ∀ j, j ∈ l.map N1 → j < n1 := fun j hj => by
      obtain ⟨c, hc, e⟩ := List.mem_map.mp hj
      have := (hlt c hc).1
      omega
    have key : (∀ (S' : im_S) (N' M' L' : Nat → Nat) (n' ρ' τ' kx : Nat) (D : im_S), PX K pl V m A N2 M2 L2 (p + 2) dep (sz + 1) γ nA ρ1 τ1 (min f1 (fnx pl V pre l p)) (ρn + 1) S' N' M' L' n' ρ' τ' b x → N' (rtk x) = kx → nA ≤ kx → kx < n' → ρ1 ≤ ρ' → τ1 ≤ τ' → Cz K pl V m S n ρ τ sz kn R D N' M' L' b dep sz γ n' ρ' τ' (pl b) (min (min (min f1 (fnx pl V pre l p)) (pfc K pl V x γ 0 [] [])) (ckX K pl V x (tvV (V p)))) → D.1 3 10 = nI n → Fw S' D nA n' ρ1 ρ' τ' kx → (∀ a j : Nat, 7 ≤ a → a ≤ 20 → j < nA → D.1 a j = A.1 a j) → (∀ j : Nat, j < nA → D.2.1 21 j = A.2.1 21 j) → D.1 9 kx = 6 → D.1 10 kx = nI n → D.1 11 kx = nI kv → (∀ r : Nat, r < ρ1 → D.1 27 r = A.1 27 r ∧ (r ≠ ρn + 1 → D.1 26 r = A.1 26 r)) → (∀ t : Nat, t < τ1 → D.1 29 t = A.1 29 t) → D.1 26 (ρn + 1) = S'.1 26 (ρn + 1) → Wc m fu b (if K b = 44 then some (1, uI (ad6 D (b + 1)) 3 7 4) else ntl fu D) Q) → Lp m fu p S1 Q := by
      intro hc
      refine hgo (hS b x hr (fun S' N' M' L' n' ρ' τ' P' => ?_))
      have C' := P'.1
      have F' := C'.2.2.2.2.2
      have Fn := F'.1
      have hb2 := C'.1.bd
      have hpm2 := C'.1.pm
      obtain ⟨-, -, nz1, nz2, nz3, nz4, hn', hρ', hτ', -⟩ := PX_kw P' wx gA (show ρn + 1 < ρ1 by omega) (by omega) (Fw_refl S' nA n' ρ1 ρ' τ' _) (fun j _ => ⟨rfl, rfl, rfl⟩)
      obtain ⟨zt0, zt8, ztT, ztB, ztS⟩ := P'.2.2.1
      obtain ⟨kx, hkx⟩ : ∃ kx, N' (rtk x) = kx := ⟨_, rfl⟩
      rw [hkx] at nz2 nz3 nz4 zt8 ztT ztB ztS
      have hkx5 : kx < 512 := by omega
      have b35 : S'.1 35 sz = nI 21 := by rw [F'.2.2.2.2.1 35 sz (by omega) (by omega) (by omega)]; exact A35
      have b36 : S'.1 36 sz = nI kv := by rw [F'.2.2.2.2.1 36 sz (by omega) (by omega) (by omega)]; exact A36
      obtain ⟨D1, hD1⟩ : ∃ D1, D1 = uI (uI S' 34 3 (nI sz)) 3 10 (nI n) := ⟨_, rfl⟩
      obtain ⟨D, hD⟩ : ∃ D, D = ckS (cnS D1 kx 6 (nI n) (nI kv)) kx (nI (tvV (V p))) := ⟨_, rfl⟩
      have rD1 : ∀ a j : Nat, (a ≠ 34 ∨ j ≠ 3) → (a ≠ 3 ∨ j ≠ 10) → D1.1 a j = S'.1 a j := fun a j u1 u2 => by rw [hD1, uI_ne (by omega), uI_ne (by omega)]
      have rD : ∀ a j : Nat, a ≠ 5 → (j ≠ kx ∨ a < 9 ∨ 11 < a) → D.1 a j = D1.1 a j := fun a j u1 u2 => by rw [hD, ck_ne (by omega), cn_ne (by omega)]
      have rDl : D.2.1 = S'.2.1 := by rw [hD, ck_21, hD1]; rfl
      have C2 : Cz K pl V m S n ρ τ sz kn R S' N' M' L' b dep (sz + 1) γ n' ρ' τ' (pl b) (min (min f1 (fnx pl V pre l p)) (pfc K pl V x γ 0 [] [])) := Cz_tr CA.2.2.2.2.2 C' (by omega) (by omega) (by omega) (by omega) hknγ (Or.inr (by omega))
      have CD : Cz K pl V m S n ρ τ sz kn R D N' M' L' b dep sz γ n' ρ' τ' (pl b) (min (min (min f1 (fnx pl V pre l p)) (pfc K pl V x γ 0 [] [])) (ckX K pl V x (tvV (V p)))) := by
        rw [hD, hD1]
        refine Cz_ck (b := bgk x) (ty := tyk K (tv V) x) (Cz_cn (Cz_3 (Cz_pop C2) (by omega)) 6 (nI n) (nI kv) (by omega)) ?_ ?_ (T.pl_ (by omega)) htx (by omega)
        · rw [cn_ne (by omega), uI_ne (by omega), uI_ne (by omega)]; exact ztT
        · rw [cn_ne (by omega), uI_ne (by omega), uI_ne (by omega)]; exact ztB
      have fxD : Fw S' D nA n' ρ1 ρ' τ' kx := by
        rw [hD, hD1]
        exact Fw_ck (Fw_cn (Fw_uI (Fw_uI (Fw_refl S' nA n' ρ1 ρ' τ' kx) (by omega)) (by omega)) (Or.inl rfl))
      have k9 : D.1 9 kx = 6 ∧ D.1 10 kx = nI n ∧ D.1 11 kx = nI kv := by
        obtain ⟨c9, c10, c11⟩ := cn_f D1 kx 6 (nI n) (nI kv)
        rw [hD, ck_ne (by omega), ck_ne (by omega), ck_ne (by omega)]
        exact ⟨c9, c10, c11⟩
      have hcl : f_X7_close fu (nI (K b)) S' = if K b = 44 then some (1, uI (ad6 D (b + 1)) 3 7 4) else ntl fu D := by
        rw [cl_21 C'.1.sz_ (by omega) b35]
        unfold f_X7_endNextValue
        rw [c_pop C'.1.sz_ (by omega), b36]
        have s10 : (uI S' 34 3 (nI sz)).1 10 kv = nI n := by rw [uI_ne (by omega), Fn 10 kv (by omega) (by omega) (by omega)]; exact A10
        have s38 : (uI S' 34 3 (nI sz)).1 3 8 = nI kx := by rw [uI_ne (by omega)]; exact zt8
        simp only [Option.bind_some, mI_in (a := kv) (n := 512) (by omega) (by omega), nI_clamp (show kv < 2 ^ 31 by omega), gd_t, s10, s38]
        rw [← hD1, c_conn hkx5]
        have d38 : (cnS D1 kx 6 (nI n) (nI kv)).1 3 8 = nI kx := by rw [cn_ne (by omega), rD1 3 8 (by omega) (by omega)]; exact zt8
        have d8 : (cnS D1 kx 6 (nI n) (nI kv)).1 8 kv = nI (tvV (V p)) := by rw [cn_ne (by omega), rD1 8 kv (by omega) (by omega), Fn 8 kv (by omega) (by omega) (by omega)]; exact A8
        simp only [Option.bind_some, d38, d8]
        rw [c_chk hkx5, ← hD]
        simp only [Option.bind_some]
        have hkb : K b < 127 := by have := (tkK_c _ (T.2.1 b hpm2).2).2.2.2.2.2; omega
        have e44 : nI (K b) = (44 : Int32) ↔ K b = 44 := nI_eq (a := K b) (b := 44) (by omega) (by omega)
        by_cases h44 : K b = 44
        · rw [if_neg (fun z => z (e44.mpr h44)), if_pos h44]
          have d36 : D.1 3 6 = nI b := by rw [rD 3 6 (by omega) (by omega), rD1 3 6 (by omega) (by omega)]; exact C'.1.at_
          rw [d36, show nI b + 1 = nI (b + 1) from nI_add b 1]
          rfl
        · rw [if_pos (fun z => h44 (e44.mp z)), if_neg h44]
          unfold ntl
          rcases f_X7_take 12 D with _ | ⟨r0, S0⟩
          · rfl
          · simp only [Option.bind_some]
            by_cases z0 : r0 = 0
            · simp only [if_pos z0]; rfl
            · simp only [if_neg z0]
              rcases f_X7_openGivePart fu S0 with _ | ⟨r1, S0⟩
              · rfl
              · simp only [Option.bind_some]
                by_cases z1 : r1 = 0
                · simp only [if_pos z1]; rfl
                · simp only [if_neg z1]; rfl
      obtain ⟨r0, S0, pos1, hx, hxx⟩ := hc S' N' M' L' n' ρ' τ' kx D P' hkx nz3 nz4 hρ' hτ' CD (by rw [rD 3 10 (by omega) (by omega), hD1, uI_eq]) fxD (fun a j u1 u2 u3 => by rw [rD a j (by omega) (by omega), rD1 a j (by omega) (by omega), Fn a j u1 u2 u3]) (fun j u => by rw [rDl]; exact F'.2.1 j u) k9.1 k9.2.1 k9.2.2 (fun r hr' => ⟨by rw [rD 27 r (by omega) (by omega), rD1 27 r (by omega) (by omega)]; exact (F'.2.2.1 r hr').1, fun hne => by rw [rD 26 r (by omega) (by omega), rD1 26 r (by omega) (by omega)]; exact (F'.2.2.1 r hr').2 hne⟩) (fun t ht => by rw [rD 29 t (by omega) (by omega), rD1 29 t (by omega) (by omega)]; exact F'.2.2.2.1 t ht) (by rw [rD 26 (ρn + 1) (by omega) (by omega), rD1 26 (ρn + 1) (by omega) (by omega)])
      exact FZ_cl hfu C'.1.sz_ (by omega) b35 (by omega) (by omega) (by omega) (pos1 := pos1) (hcl.trans hx) hpm2 hxx
    have FND : ∀ (D : im_S), (∀ a j : Nat, 7 ≤ a → a ≤ 20 → j < nA → D.1 a j = A.1 a j) → (∀ j : Nat, j < nA → D.2.1 21 j = A.2.1 21 j) → (∀ r : Nat, r < ρ1 → D.1 27 r = A.1 27 r ∧ (r ≠ ρn + 1 → D.1 26 r = A.1 26 r)) → (∀ t : Nat, t < τ1 → D.1 29 t = A.1 29 t) → FN S1 D n n1 ρ1 τ1 (ρn + 1) (l.map N1) := fun D d1 d2 d3 d4 => FN_tr FNA (n1 := nA) (ρ1 := ρ1) (τ1 := τ1) ⟨fun a j u1 u2 _ u3 _ => d1 a j u1 u2 u3, fun j _ u => d2 j u, d3, d4⟩ hnA (Nat.le_refl _) (Nat.le_refl _)
    have emap : ∀ N' : Nat → Nat, (∀ j, j ≤ p → N' j = N1 j) → l.map N' = l.map N1 := fun N' h => map_N (fun c hc => h c (by have := (hlt c hc).2.2; omega))
    have hA2 : ∀ c, c ∈ l → N2 c = N1 c ∧ N2 (c + 1) = N1 (c + 1) := fun c hc => by have := (hlt c hc).2.2; exact ⟨(hAg2 c (by omega)).1, (hAg2 (c + 1) (by omega)).1⟩
    have hVJD : ∀ (D : im_S) (N' : Nat → Nat) (n' : Nat), nA ≤ n' → (∀ j, j ≤ p + 1 → N' j = N2 j) → (∀ a j : Nat, 7 ≤ a → a ≤ 20 → j < nA → D.1 a j = A.1 a j) → (∀ j : Nat, j < nA → D.2.1 21 j = A.2.1 21 j) → ∀ c, c ∈ l → VJ V D N' n n' l (p :: pre) c := fun D N' n' g1 g2 g3 g4 c hc => by
      have h9 := hVJA c hc
      have h8 := h9.2.1
      have h7 := (hlt c hc).2.2
      exact VJ_cp h9 g1 ⟨g2 c (by omega), g2 (c + 1) (by omega)⟩ (fun a u => g3 a _ (by omega) (by omega) h8) (g4 _ h8)
    by_cases h44 : K b = 44
    · rw [if_pos h44]
      have cont := fun (S' : im_S) (N' M' L' : Nat → Nat) (n' ρ' τ' : Nat) (D : im_S) (hbm : b < m) (P' : PX K pl V m A N2 M2 L2 (p + 2) dep (sz + 1) γ nA ρ1 τ1 (min f1 (fnx pl V pre l p)) (ρn + 1) S' N' M' L' n' ρ' τ' b x) (hn' : nA ≤ n') (hρ' : ρ1 ≤ ρ') (hτ' : τ1 ≤ τ') (CD : Cz K pl V m S n ρ τ sz kn R D N' M' L' b dep sz γ n' ρ' τ' (pl b) (min (min (min f1 (fnx pl V pre l p)) (pfc K pl V x γ 0 [] [])) (ckX K pl V x (tvV (V p))))) (dlo : D.1 3 10 = nI n) (dn : ∀ a j : Nat, 7 ≤ a → a ≤ 20 → j < nA → D.1 a j = A.1 a j) (dl : ∀ j : Nat, j < nA → D.2.1 21 j = A.2.1 21 j) (dr : ∀ r : Nat, r < ρ1 → D.1 27 r = A.1 27 r ∧ (r ≠ ρn + 1 → D.1 26 r = A.1 26 r)) (dt : ∀ t : Nat, t < τ1 → D.1 29 t = A.1 29 t) => ih (na + 1) (b + 1) (uI (ad6 D (b + 1)) 3 7 4) (ex N' b n') (ex M' b ρ') (ex L' b τ') n' ρ' τ' _ (p :: pre) (by omega) (by omega) (by omega) (by omega) (Cz_3 (Cz_B (Cz_ad T CD hbm) (show pl b ≤ pl (b + 1) by have := T.lt_ hbm; omega)) (by omega)) uI_eq (by unfold ad6; rw [uI_ne (by omega), uI_ne (by omega)]; exact dlo) (by rw [ex_le (by omega), (P'.2.1 pos (by omega)).1, (hAg2 pos (by omega)).1]; exact hNp) (by omega) (by omega) (by omega) (by
          rw [emap _ (fun j hj => by rw [ex_le (by omega), (P'.2.1 j (by omega)).1, (hAg2 j hj).1])]
          have hFN := FND D dn dl dr dt
          have e12 : (uI (ad6 D (b + 1)) 3 7 4).1 12 n = S1.1 12 n := by unfold ad6; rw [uI_ne (by omega), uI_ne (by omega)]; exact hFN.1 12 n (by omega) (by omega) (Nat.le_refl _) hnn (Or.inl (by omega))
          rw [e12]
          refine Chn_cp _ _ (fun j hj => ?_) hch
          obtain ⟨c, hc, e⟩ := List.mem_map.mp hj
          have h8 := hlt c hc
          unfold ad6
          rw [uI_ne (by omega), uI_ne (by omega)]
          exact hFN.1 14 j (by omega) (by omega) (by omega) (by omega) (Or.inl (by omega))) (fun c hc => ⟨VJ_cp (hVJD D (ex N' b n') n' hn' (fun j hj => by rw [ex_le (by omega), (P'.2.1 j (by omega)).1]) dn dl c hc) (Nat.le_refl _) ⟨rfl, rfl⟩ (fun a u => by unfold ad6; rw [uI_ne (by omega), uI_ne (by omega)]) rfl, by have := (hlt c hc).2.2; omega⟩) (by unfold ad6; rw [uI_ne (by omega), uI_ne (by omega)]; rw [(FND D dn dl dr dt).1 15 n (by omega) (by omega) (Nat.le_refl _) hnn (Or.inl (by omega))]; exact h15) (by omega)
      have hb44 : ∀ (S' : im_S) (N' M' L' : Nat → Nat) (n' ρ' τ' : Nat), PX K pl V m A N2 M2 L2 (p + 2) dep (sz + 1) γ nA ρ1 τ1 (min f1 (fnx pl V pre l p)) (ρn + 1) S' N' M' L' n' ρ' τ' b x → b < m := fun S' N' M' L' n' ρ' τ' P' => K_lt T.end_ P'.1.1.pm h44 (by decide) (by decide)
      rcases hr2 : pB K Rr q 1000 (na + 1) (b + 1) with ⟨e2, _ | r2⟩
      · rw [pbd_none rfl]
        refine ⟨fun e he hRf => ?_, (fun e y he => by cases he)⟩
        cases he
        refine key (fun S' N' M' L' n' ρ' τ' kx D P' hkx u1 u2 hρ' hτ' CD dlo fxD dn dl d9 d10 d11 dr dt dR => ?_)
        have hbm := hb44 S' N' M' L' n' ρ' τ' P'
        rw [if_pos h44]
        exact ⟨1, _, b + 1, rfl, Or.inr ⟨rfl, by omega, by omega, (cont S' N' M' L' n' ρ' τ' D hbm P' (by omega) hρ' hτ' CD dlo dn dl dr dt).1 e2 hr2 hRf⟩⟩
      · rw [pbd_some rfl]
        refine ⟨(fun e he => by cases he), fun e r he hL => ?_⟩
        cases he
        refine key (fun S' N' M' L' n' ρ' τ' kx D P' hkx u1 u2 hρ' hτ' CD dlo fxD dn dl d9 d10 d11 dr dt dR => ?_)
        have hbm := hb44 S' N' M' L' n' ρ' τ' P'
        rw [if_pos h44]
        refine ⟨1, _, b + 1, rfl, Or.inr ⟨rfl, by omega, by omega, (cont S' N' M' L' n' ρ' τ' D hbm P' (by omega) hρ' hτ' CD dlo dn dl dr dt).2 e2 r2 hr2 (fun D2 N5 M5 L5 n5 ρ5 τ5 PP => ?_)⟩⟩
        obtain ⟨y1, y2, y3, y4, y5, y6, y7, y8, y9, y10, y11, y12⟩ := PP
        have rA' : ∀ a j : Nat, a ≠ 3 → (uI (ad6 D (b + 1)) 3 7 4).1 a j = D.1 a j := fun a j u => by unfold ad6; rw [uI_ne (by omega), uI_ne (by omega)]
        rw [emap (ex N' b n') (fun j hj => by rw [ex_le (by omega), (P'.2.1 j (by omega)).1, (hAg2 j hj).1])] at y4
        have hAg : Ag N' M' L' N5 M5 L5 b := Ag_tr (Ag_ex N' M' L' b n' ρ' τ') y2 (by omega)
        have hAg0 : Ag N2 M2 L2 N5 M5 L5 (p + 2) := Ag_tr P'.2.1 hAg (by omega)
        have fx2 : Fw S' D2 nA n' ρ1 ρ' τ' kx := by
          refine Fw_FN ?_ y4 (by omega) (Nat.le_refl _) (Nat.le_refl _) (Nat.le_refl _) (fun j hj => by have := hvs j hj; omega) (show ρn + 1 < ρ1 by omega)
          unfold ad6
          exact Fw_uI (Fw_uI fxD (by omega)) (by omega)
        obtain ⟨Gx, Sx, nx1, nx2, -⟩ := PX_kw P' wx gA (show ρn + 1 < ρ1 by omega) (by omega) (by rw [hkx]; exact fx2) hAg
        rw [hkx] at nx2
        have hN5 : N5 pos = n := by rw [(hAg0 pos (by omega)).1, (hAg2 pos (by omega)).1]; exact hNp
        have rk : ∀ a : Nat, 9 ≤ a → a ≤ 11 → D2.1 a kx = D.1 a kx := fun a w1 w2 => by
          rw [y4.1 a kx (by omega) (by omega) (by omega) (by omega) (Or.inl (by omega)), rA' a kx (by omega)]
        have FNA' : FN S1 (uI (ad6 D (b + 1)) 3 7 4) n n1 ρ1 τ1 (ρn + 1) (l.map N1) := by
          have h0 := FND D dn dl dr dt
          exact ⟨fun a j w1 w2 w0 w3 w4 => by rw [rA' a j (by omega)]; exact h0.1 a j w1 w2 w0 w3 w4, h0.2.1, fun r hr' => by rw [rA' 27 r (by omega), rA' 26 r (by omega)]; exact h0.2.2.1 r hr', fun t ht => by rw [rA' 29 t (by omega)]; exact h0.2.2.2 t ht⟩
        have etk : (tks (.append (.tag p x) r2)).reverse ++ pre = (tks r2).reverse ++ (p :: pre) := by
          show (p :: tks r2).reverse ++ pre = _
          rw [List.reverse_cons, List.append_assoc]
          rfl
        refine hL D2 N5 M5 L5 n5 ρ5 τ5 ⟨?_, Ag_tr hAg2 hAg0 (by omega), y3, FN_tr FNA' y4 (by omega) (by omega) (by omega), by rw [etk]; exact y5, fun hz => ?_, ?_, by omega, by omega, by omega, ?_, by omega⟩
        · have hmin : min (min (min (min f1 (fnx pl V pre l p)) (pfc K pl V x γ 0 [] [])) (ckX K pl V x (tvV (V p)))) (pfc K pl V r2 γ 105 (p :: pre) l) = min f1 (pfc K pl V (.append (.tag p x) r2) γ 105 pre l) := by rw [pfc_nx]; simp only [Nat.min_assoc]
          rw [← hmin]
          exact y1
        · rw [pfc_nx] at hz
          simp only [Nat.le_min] at hz
          obtain ⟨hz0, hz1, -, hz2⟩ := hz
          obtain ⟨c, hc1, hc2⟩ := hgd hz0
          have hcl := hlt c (fnd_in l p c hc1)
          rw [G_nx]
          refine ⟨⟨c, hc1, ?_⟩, ⟨nx1, ?_, ?_⟩, Gx hz1, y6 hz2⟩
          · rw [nx2, rk 11 (by omega) (by omega), (hAg0 c (by omega)).1, (hAg2 c (by omega)).1, ← hc2]; exact d11
          · rw [nx2, rk 9 (by omega) (by omega)]; exact d9
          · rw [nx2, hN5, rk 10 (by omega) (by omega)]; exact d10
        · show Seg D2 N5 (D2.1 26 (ρn + 1)) (lvs r2 ++ lvs x) (S1.1 26 (ρn + 1))
          refine Seg_app _ _ _ _ _ y7 ?_
          rw [rA' 26 (ρn + 1) (by omega), dR, ← A26]
          exact Sx
        · have CIx := PX_ci P' wx gA (by rw [hkx]; exact fx2.1) fx2.2.1 hAg
          show CI K pl V D2 N5 p e2 pos (cls x ++ cls r2)
          have nb : N5 b = n' := by rw [(hAg b (Nat.le_refl _)).1]; exact P'.1.2.1.1
          have nb1 : N5 (b + 1) = n' := by rw [(y2 (b + 1) (Nat.le_refl _)).1, ex_gt (by omega)]
          have np2 : N5 (p + 2) = nA := by rw [(hAg0 (p + 2) (Nat.le_refl _)).1]; exact gA.1
          have np : N5 p = n1 := by rw [(hAg0 p (by omega)).1, (hAg2 p (Nat.le_refl _)).1]; exact C1.2.1.1
          have h1 := CI_seq (t0 := pos) CIx y11 (by omega) (by omega) (by omega) (fun k k1 k2 => by rw [nb] at k1; rw [nb1] at k2; omega) (Or.inl (by omega))
          refine CI_wid h1 (by omega) (Nat.le_refl _) (fun k k1 k2 => ?_) (fun k k1 k2 => absurd k1 (by omega)) (Or.inr (Or.inr rfl))
          rw [np] at k1
          rw [np2] at k2
          rw [y4.1 7 k (by omega) (by omega) (by omega) (by omega) (Or.inl (by omega)), rA' 7 k (by omega), dn 7 k (by omega) (by omega) k2]
          exact hA7k k k1 k2
    · rw [if_neg h44]
      refine ⟨(fun e he => by cases he), fun e r he hL => ?_⟩
      cases he
      refine key (fun S' N' M' L' n' ρ' τ' kx D P' hkx u1 u2 hρ' hτ' CD dlo fxD dn dl d9 d10 d11 dr dt dR => ?_)
      rw [if_neg h44]
      obtain ⟨Gx, Sx, nx1, -, -⟩ := PX_kw P' wx gA (show ρn + 1 < ρ1 by omega) (by omega) (by rw [hkx]; exact fxD) (fun j _ => ⟨rfl, rfl, rfl⟩)
      have nx2 := hkx
      have hN5 : N' pos = n := by rw [(P'.2.1 pos (by omega)).1, (hAg2 pos (by omega)).1]; exact hNp
      have hpn : pfc K pl V (.append (.tag p x) .nil) γ 105 pre l = min (fnx pl V pre l p) (min (pfc K pl V x γ 0 [] []) (min (ckX K pl V x (tvV (V p))) 4000)) := rfl
      refine hL D N' M' L' n' ρ' τ' ⟨?_, Ag_tr hAg2 P'.2.1 (by omega), dlo, FND D dn dl dr dt, ?_, fun hz => ?_, ?_, by omega, by omega, by omega, ?_, by omega⟩
      · have hf := C1.2.2.2.2.1
        have hmin : min (min (min f1 (fnx pl V pre l p)) (pfc K pl V x γ 0 [] [])) (ckX K pl V x (tvV (V p))) = min f1 (pfc K pl V (.append (.tag p x) .nil) γ 105 pre l) := by rw [hpn]; omega
        rw [← hmin]
        exact CD
      · exact hVJD D N' n' (by omega) (fun j hj => by rw [(P'.2.1 j (by omega)).1]) dn dl
      · rw [hpn] at hz
        simp only [Nat.le_min] at hz
        obtain ⟨hz0, hz1, -⟩ := hz
        obtain ⟨c, hc1, hc2⟩ := hgd hz0
        have hcl := hlt c (fnd_in l p c hc1)
        rw [G_nx]
        refine ⟨⟨c, hc1, ?_⟩, ⟨nx1, ?_, ?_⟩, Gx hz1, trivial⟩
        · rw [nx2, (P'.2.1 c (by omega)).1, (hAg2 c (by omega)).1, ← hc2]; exact d11
        · rw [nx2]; exact d9
        · rw [nx2, hN5]; exact d10
      · show Seg D N' (D.1 26 (ρn + 1)) ([] ++ lvs x) (S1.1 26 (ρn + 1))
        rw [List.nil_append, dR, ← A26]
        exact Sx
      · have CIx := PX_ci P' wx gA (by rw [hkx]; exact fxD.1) fxD.2.1 (fun j _ => ⟨rfl, rfl, rfl⟩)
        show CI K pl V D N' p b pos (cls x ++ [])
        rw [List.append_nil]
        have np2 : N' (p + 2) = nA := by rw [(P'.2.1 (p + 2) (Nat.le_refl _)).1]; exact gA.1
        have np : N' p = n1 := by rw [(P'.2.1 p (by omega)).1, (hAg2 p (Nat.le_refl _)).1]; exact C1.2.1.1
        refine CI_wid CIx (by omega) (Nat.le_refl _) (fun k k1 k2 => ?_) (fun k k1 k2 => absurd k1 (by omega)) (Or.inl (by omega))
        rw [np] at k1
        rw [np2] at k2
        rw [dn 7 k (by omega) (by omega) k2]
        exact hA7k k k1 k2
end CNY
