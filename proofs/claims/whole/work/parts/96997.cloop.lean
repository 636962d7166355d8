/-! the class's parser: a loop, all of it -/
section CLP
variable {K pl : Nat → Nat} {V : Nat → Int64} {m fu : Nat} {Q : Int32 → im_S → Prop} {S : im_S} {N M L : Nat → Nat} {pos dep sz n ρ τ f k R : Nat} {γ : List Nat}
theorem pfc_loop (j : Nat) (fs c ns g : TR) : pfc K pl V (aLoop j fs c ns g) γ 0 [] [] = min (pfc K pl V fs γ 102 [] []) (min (pfc K pl V c (bnd fs γ) 0 [] []) (min (ckX K pl V c 2) (min (pfc K pl V ns (bnd fs γ) 105 [] (tks fs)) (pfc K pl V g (bnd fs γ) 0 [] [])))) := rfl
theorem G_loop (S : im_S) (N M L : Nat → Nat) (j : Nat) (fs c ns g : TR) : G K pl V S N M L (aLoop j fs c ns g) γ R 0 0 .nil [] = (nd pl S N 9 (tyk K (fun i => tvV (V i)) g) 0 j R ∧ S.1 12 (N j) = hdV N fs ∧ S.1 13 (N j) = nI (N (rtk c)) ∧ rl S N (rtk c) 1 j ∧ rl S N (rtk g) 7 j ∧ M j + 3 ≤ M (j + 1) ∧ L j < L (j + 1) ∧ S.1 15 (N j) = nI (M j) ∧ S.1 27 (M j) = nI (L j) ∧ S.1 27 (M j + 1) = nI (L j) ∧ S.1 27 (M j + 2) = nI (L j) ∧ dpt S R (L j) ∧ Seg S N (S.1 26 (M j)) (lvs c) (-1) ∧ Seg S N (S.1 26 (M j + 1)) (lvs ns) (-1) ∧ Seg S N (S.1 26 (M j + 2)) (lvs g) (-1) ∧ G K pl V S N M L fs γ R 102 j ns [] ∧ G K pl V S N M L c (bnd fs γ) (M j) 0 0 .nil [] ∧ G K pl V S N M L ns (bnd fs γ) (M j + 1) 105 j .nil (tks fs) ∧ G K pl V S N M L g (bnd fs γ) (M j + 2) 0 0 .nil []) := rfl
/-- behind while: what was read, and the state -/
def LoB (K pl : Nat → Nat) (V : Nat → Int64) (m : Nat) (S : im_S) (pos dep sz : Nat) (γ : List Nat) (n ρ τ f R : Nat) (A : im_S) (N3 M3 L3 : Nat → Nat) (D : im_S) (N1 M1 L1 : Nat → Nat) (n1 ρ1 τ1 b : Nat) (fs : TR) (B : im_S) : Prop :=
  PF K pl V m S pos dep sz γ n ρ τ R A N3 M3 L3 (n + 1) (ρ + 3) (τ + 1) f (pos + 1) 12 n [] D N1 M1 L1 n1 ρ1 τ1 b fs ∧ Cz K pl V m S n ρ τ sz γ.length R B (ex N1 b n1) (ex M1 b ρ1) (ex L1 b τ1) (b + 1) dep (sz + 1) (bnd fs γ) n1 ρ1 τ1 (pl (b + 1)) (min f (pfc K pl V fs γ 102 [] [])) ∧ B.1 3 7 = 0 ∧ B.1 35 sz = nI 20 ∧ B.1 36 sz = nI n ∧ B.1 37 sz = nI ρ ∧ (∀ a j : Nat, a ≠ 3 → a ≠ 4 → (a < 34 ∨ 37 < a) → B.1 a j = D.1 a j) ∧ B.2.1 = D.2.1 ∧ b < m
set_option maxHeartbeats 8000000 in
/-- a loop up to its while -/
theorem k_loop1 (T : TH K pl V m) (hfu : 600 ≤ fu) {Rr : Nat → PR} {p0 : Nat} (hRr : HXc K pl V m fu Rr dep p0) (hW : WR K Rr) (hR : R < ρ) (hTp : Tp S sz k R) {A : im_S} {N3 M3 L3 : Nat → Nat} (hO : LoO K pl V m S N M L pos dep sz γ n ρ τ f R A N3 M3 L3) (hp0 : p0 ≤ pos + 1) {q : Nat} (hq : m < q + (pos + 1)) :
    (∀ e, pB K Rr q 4 0 (pos + 1) = (e, none) → Rf pl e Q → Lp m fu (pos + 1) A Q) ∧ ∀ b fs, pB K Rr q 4 0 (pos + 1) = (b, some fs) → (K b ≠ 10 → Rf pl b Q → Lp m fu (pos + 1) A Q) ∧ (K b = 10 → (∀ (D : im_S) (N1 M1 L1 : Nat → Nat) (n1 ρ1 τ1 : Nat) (B : im_S), LoB K pl V m S pos dep sz γ n ρ τ f R A N3 M3 L3 D N1 M1 L1 n1 ρ1 τ1 b fs B → Lp m fu (b + 1) B Q) → Lp m fu (pos + 1) A Q) := by
  obtain ⟨CA, hAg3, A7, A10, ⟨n7, n21, n17, n19, n20, n14, n15, n12⟩, A26, A16, ⟨r0, r1, r2, s0, s1, s2⟩, Adp, ⟨eN0, eN1, eM0, eM1, eL0, eL1⟩⟩ := hO
  have hm := T.m_
  have hbdA := CA.1.bd
  have hpmA := CA.1.pm
  obtain ⟨hN, hS⟩ := k_firsts (Q := Q) (pos := pos) T hfu hRr hW hR hTp q 0 (pos + 1) A N3 M3 L3 (n + 1) (ρ + 3) (τ + 1) f [] 12 n hp0 (by omega) hq CA A7 A10 eN0 (by omega) (by omega) (by omega) n12 rfl (by omega) (fun b hb => absurd hb List.not_mem_nil) List.Pairwise.nil (Or.inl ⟨rfl, rfl, rfl⟩)
  refine ⟨fun e he hRf => hN e he hRf, fun b fs hb => ?_⟩
  have wfs := pB_LW hW _ _ _ _ _ _ hb
  have wl := LW_lt wfs
  refine ⟨fun h10 hRf => hS b fs hb (fun D N1 M1 L1 n1 ρ1 τ1 PP => ?_), fun h10 hL => hS b fs hb (fun D N1 M1 L1 n1 ρ1 τ1 PP => ?_)⟩
  · refine ⟨0, rcS D (pl b), 0, ?_, Or.inl ⟨rfl, Rf_rc hRf⟩⟩
    unfold wtl
    rw [show (10 : Int32) = nI 10 from rfl, c_take T PP.1.1 10 (by omega), if_neg h10]
    rfl
  · have PP' := PP
    obtain ⟨CD, y2, y3, y4, y5, y6, y7, y8, y9, y10, y11, y12, y13, y14, y15⟩ := PP
    rw [List.nil_append] at y6 y7 y8
    have hbm := K_lt T.end_ CD.1.pm h10 (by decide) (by decide)
    have hstb := T.lt_ hbm
    have hbdD := CD.1.bd
    have CD1 : Cz K pl V m S n ρ τ sz γ.length R (ad6 D (b + 1)) (ex N1 b n1) (ex M1 b ρ1) (ex L1 b τ1) (b + 1) dep sz γ n1 ρ1 τ1 (pl (b + 1)) (min f (pfc K pl V fs γ 102 [] [])) := Cz_B (Cz_ad T CD hbm) (show pl b ≤ pl (b + 1) by omega)
    have rd : ∀ a j : Nat, a ≠ 3 → (ad6 D (b + 1)).1 a j = D.1 a j := fun a j u => by unfold ad6; rw [uI_ne (by omega)]
    have emap : (tks fs).map (ex N1 b n1) = (tks fs).map N1 := map_N (fun c hc => ex_le (by have := (y8 c hc).2; omega))
    have d12 : (ad6 D (b + 1)).1 12 n = D.1 12 n := rd 12 n (by omega)
    have d15 : (ad6 D (b + 1)).1 15 n = nI ρ := by rw [rd 15 n (by omega), y4.1 15 n (by omega) (by omega) (Nat.le_refl _) (by omega) (by omega)]; exact n15
    have d10 : (ad6 D (b + 1)).1 3 10 = nI n := by unfold ad6; rw [uI_ne (by omega)]; exact y3
    obtain ⟨W2, w1, w2, w3, w4⟩ := c_whL (fu := fu) T n ρ (by omega) (tks fs) fu 0 (D.1 12 n) (ad6 D (b + 1)) γ CD1 (by rw [emap]; exact Chn_cp _ _ (fun j _ => rd 14 j (by omega)) y6) (by omega) (by omega) (fun c hc => by
      obtain ⟨z1, z2⟩ := y8 c hc
      rw [ex_le (show c ≤ b by omega)]
      exact ⟨by omega, z1.2.1, z1.2.2.2.2.2.1⟩) (by omega) (Nat.le_refl _) d10 d15
    rw [← bnd_eq] at w2
    obtain ⟨B, hB⟩ : ∃ B, B = uI (psS W2 sz 20 (nI n) (nI ρ)) 3 7 0 := ⟨_, rfl⟩
    rw [← hB] at w1
    have hkn : (bnd fs γ).length = (tks fs).length + γ.length := by rw [bnd_eq, List.length_append, List.length_reverse]
    obtain ⟨g35, g36, g37, -⟩ := ps_f W2 sz 20 (nI n) (nI ρ)
    have CB : Cz K pl V m S n ρ τ sz γ.length R B (ex N1 b n1) (ex M1 b ρ1) (ex L1 b τ1) (b + 1) dep (sz + 1) (bnd fs γ) n1 ρ1 τ1 (pl (b + 1)) (min f (pfc K pl V fs γ 102 [] [])) := by
      rw [hB]
      exact Cz_3 (Cz_push w2 20 (nI n) (nI ρ) (by omega) (Nat.le_refl _)) (by omega)
    refine ⟨1, B, b + 1, ?_, Or.inr ⟨rfl, by omega, by omega, hL D N1 M1 L1 n1 ρ1 τ1 B ⟨PP', CB, by rw [hB, uI_eq], by rw [hB, uI_ne (by omega)]; exact g35, by rw [hB, uI_ne (by omega)]; exact g36, by rw [hB, uI_ne (by omega)]; exact g37, fun a j u1 u2 u3 => ?_, ?_, hbm⟩⟩⟩
    · unfold wtl
      rw [show (10 : Int32) = nI 10 from rfl, c_take T CD.1 10 (by omega), if_pos h10]
      simp only [Option.bind_some]
      rw [if_neg (show ¬ (1 : Int32) = 0 by decide)]
      unfold f_X7_openWhilePart
      rw [d10, mI_in (a := n) (n := 512) (by omega) (by omega), nI_clamp (show n < 2 ^ 31 by omega), d12]
      simp only [gd_t]
      rw [show (0 : Int32) = nI 0 from rfl, w1]
      rfl
    · rw [hB, uI_ne (by omega), ps_ne (by omega), w3 a j (by omega) (by omega), rd a j u1]
    · rw [hB]; exact w4
/-- behind next: the state -/
def LoD (K pl : Nat → Nat) (V : Nat → Int64) (m : Nat) (S : im_S) (pos dep sz : Nat) (γ : List Nat) (n ρ τ f R : Nat) (A : im_S) (N3 M3 L3 : Nat → Nat) (D : im_S) (N1 M1 L1 : Nat → Nat) (n1 ρ1 τ1 b : Nat) (fs : TR) (B S' : im_S) (N' M' L' : Nat → Nat) (n' ρ' τ' c kc : Nat) (x : TR) (D2 : im_S) : Prop :=
  LoB K pl V m S pos dep sz γ n ρ τ f R A N3 M3 L3 D N1 M1 L1 n1 ρ1 τ1 b fs B ∧ PX K pl V m B (ex N1 b n1) (ex M1 b ρ1) (ex L1 b τ1) (b + 1) dep (sz + 1) (bnd fs γ) n1 ρ1 τ1 (min f (pfc K pl V fs γ 102 [] [])) ρ S' N' M' L' n' ρ' τ' c x ∧ (N' (rtk x) = kc ∧ n1 ≤ kc ∧ kc < n' ∧ ρ1 ≤ ρ' ∧ τ1 ≤ τ') ∧ Cz K pl V m S n ρ τ sz γ.length R D2 (ex N' c n') (ex M' c ρ') (ex L' c τ') (c + 1) dep sz (bnd fs γ) n' ρ' τ' (pl (c + 1)) (min (min (min f (pfc K pl V fs γ 102 [] [])) (pfc K pl V x (bnd fs γ) 0 [] [])) (ckX K pl V x 2)) ∧ D2.1 3 7 = nI 4 ∧ D2.1 3 10 = nI n ∧ Fw S' D2 n1 n' ρ1 ρ' τ' kc ∧ (∀ a j : Nat, 7 ≤ a → a ≤ 20 → j < n1 → (a ≠ 13 ∨ j ≠ n) → D2.1 a j = D.1 a j) ∧ D2.1 13 n = nI kc ∧ (∀ j : Nat, j < n1 → D2.2.1 21 j = D.2.1 21 j) ∧ D2.1 9 kc = 1 ∧ D2.1 10 kc = nI n ∧ (∀ r : Nat, r < ρ1 → D2.1 27 r = D.1 27 r ∧ (r ≠ ρ → D2.1 26 r = D.1 26 r)) ∧ (∀ t : Nat, t < τ1 → D2.1 29 t = D.1 29 t) ∧ D2.1 26 ρ = S'.1 26 ρ ∧ c < m
set_option maxHeartbeats 8000000 in
/-- a loop's while -/
theorem k_loop2 (T : TH K pl V m) (hfu : 600 ≤ fu) {Rr : Nat → PR} {p0 : Nat} (hRr : HXc K pl V m fu Rr dep p0) (hW : WR K Rr) {A : im_S} {N3 M3 L3 : Nat → Nat} {D : im_S} {N1 M1 L1 : Nat → Nat} {n1 ρ1 τ1 b : Nat} {fs : TR} {B : im_S} (hsz1 : 1 ≤ sz) (hpb : pos < b) (hB : LoB K pl V m S pos dep sz γ n ρ τ f R A N3 M3 L3 D N1 M1 L1 n1 ρ1 τ1 b fs B) (hp0 : p0 ≤ pos + 1) :
    (∀ e, Rr (b + 1) = (e, none) → Rf pl e Q → Lp m fu (b + 1) B Q) ∧ ∀ c x, Rr (b + 1) = (c, some x) → (K c ≠ 11 → Rf pl c Q → Lp m fu (b + 1) B Q) ∧ (K c = 11 → (∀ (S' : im_S) (N' M' L' : Nat → Nat) (n' ρ' τ' kc : Nat) (D2 : im_S), LoD K pl V m S pos dep sz γ n ρ τ f R A N3 M3 L3 D N1 M1 L1 n1 ρ1 τ1 b fs B S' N' M' L' n' ρ' τ' c kc x D2 → Lp m fu (c + 1) D2 Q) → Lp m fu (b + 1) B Q) := by
  have hB' := hB
  obtain ⟨PP, CB, B7, B35, B36, B37, rB, rBl, hbm⟩ := hB
  obtain ⟨CD, y2, y3, y4, y5, y6, y7, y8, y9, y10, y11, y12, y13, y14, y15⟩ := PP
  have hm := T.m_
  have hbdB := CB.1.bd
  have hpmB := CB.1.pm
  have gB := CB.2.1
  have hplb := T.pl_ hpmB
  obtain ⟨hN, hS⟩ := hRr B (ex N1 b n1) (ex M1 b ρ1) (ex L1 b τ1) (b + 1) (sz + 1) (bnd fs γ) n1 ρ1 τ1 _ 20 ρ Q (by omega) ⟨Cz_base CB, ⟨by omega, by rw [Nat.add_sub_cancel]; exact B35, by omega, by rw [Nat.add_sub_cancel]; exact B37⟩, by omega, by omega⟩ B7 (by omega)
  refine ⟨fun e he hRf => hN e he hRf, fun c x hx => ?_⟩
  obtain ⟨wx, -⟩ := hW _ _ _ hx
  have hxp := Wt_lt wx
  have hxr := Wt_rt wx
  have htx := tyx_lt K V x
  refine ⟨fun h11 hRf => hS c x hx (fun S' N' M' L' n' ρ' τ' P' => ?_), fun h11 hL => hS c x hx (fun S' N' M' L' n' ρ' τ' P' => ?_)⟩
  · have C' := P'.1
    have b35 : S'.1 35 sz = nI 20 := by rw [C'.2.2.2.2.2.2.2.2.2.1 35 sz (by omega) (by omega) (by omega)]; exact B35
    have hb2 := C'.1.bd
    have hpm2 := C'.1.pm
    refine FZ_cl hfu C'.1.sz_ (by omega) b35 (by omega) (by omega) (by omega) (r := 0) (S1 := rcS S' (pl c)) ?_ hpm2 (Or.inl ⟨rfl, Rf_rc hRf⟩) (pos1 := 0)
    rw [cl_20 C'.1.sz_ (by omega) b35, show (11 : Int32) = nI 11 from rfl, c_take T C'.1 11 (by omega), if_neg h11]
    rfl
  · have C' := P'.1
    have F' := C'.2.2.2.2.2
    have Fn := F'.1
    have hb2 := C'.1.bd
    have hpm2 := C'.1.pm
    have hcm := K_lt T.end_ hpm2 h11 (by decide) (by decide)
    have hstc := T.lt_ hcm
    obtain ⟨-, -, nz1, nz2, nz3, nz4, hn', hρ', hτ', -⟩ := PX_kw P' wx gB (show ρ < ρ1 by omega) (by omega) (Fw_refl S' n1 n' ρ1 ρ' τ' _) (fun j _ => ⟨rfl, rfl, rfl⟩)
    obtain ⟨zt0, zt8, ztT, ztB, ztS⟩ := P'.2.2.1
    obtain ⟨kc, hkc⟩ : ∃ kc, N' (rtk x) = kc := ⟨_, rfl⟩
    rw [hkc] at nz2 nz3 nz4 zt8 ztT ztB ztS
    have hkc5 : kc < 512 := by omega
    have b35 : S'.1 35 sz = nI 20 := by rw [F'.2.2.2.2.1 35 sz (by omega) (by omega) (by omega)]; exact B35
    have b36 : S'.1 36 sz = nI n := by rw [F'.2.2.2.2.1 36 sz (by omega) (by omega) (by omega)]; exact B36
    obtain ⟨E0, hE0⟩ : ∃ E0, E0 = uI (uI (uI (ad6 S' (c + 1)) 34 3 (nI sz)) 3 10 (nI n)) 13 n (nI kc) := ⟨_, rfl⟩
    obtain ⟨D2, hD2⟩ : ∃ D2, D2 = uI (ckS (cnS E0 kc 1 (nI n) (-1)) kc (nI 2)) 3 7 4 := ⟨_, rfl⟩
    have rE0 : ∀ a j : Nat, a ≠ 3 → (a ≠ 34 ∨ j ≠ 3) → (a ≠ 13 ∨ j ≠ n) → E0.1 a j = S'.1 a j := fun a j u1 u2 u3 => by rw [hE0]; unfold ad6; rw [uI_ne (by omega), uI_ne (by omega), uI_ne (by omega), uI_ne (by omega)]
    have rD2 : ∀ a j : Nat, (a ≠ 3 ∨ j ≠ 7) → a ≠ 5 → (j ≠ kc ∨ a < 9 ∨ 11 < a) → D2.1 a j = E0.1 a j := fun a j u1 u2 u3 => by rw [hD2, uI_ne (by omega), ck_ne (by omega), cn_ne (by omega)]
    have rD2l : D2.2.1 = S'.2.1 := by
      rw [hD2]
      show (ckS (cnS E0 kc 1 (nI n) (-1)) kc (nI 2)).2.1 = _
      rw [ck_21, hE0]; rfl
    have hknγ : γ.length ≤ (bnd fs γ).length := by rw [bnd_eq, List.length_append]; omega
    have C2 : Cz K pl V m S n ρ τ sz γ.length R S' N' M' L' c dep (sz + 1) (bnd fs γ) n' ρ' τ' (pl c) (min (min f (pfc K pl V fs γ 102 [] [])) (pfc K pl V x (bnd fs γ) 0 [] [])) := Cz_tr CB.2.2.2.2.2 C' (by omega) (by omega) (by omega) (by omega) hknγ (Or.inr (Nat.le_refl _))
    have CD2 : Cz K pl V m S n ρ τ sz γ.length R D2 (ex N' c n') (ex M' c ρ') (ex L' c τ') (c + 1) dep sz (bnd fs γ) n' ρ' τ' (pl (c + 1)) (min (min (min f (pfc K pl V fs γ 102 [] [])) (pfc K pl V x (bnd fs γ) 0 [] [])) (ckX K pl V x 2)) := by
      rw [hD2, hE0]
      refine Cz_3 (Cz_ck (b := bgk x) (ty := tyk K (tv V) x) (Cz_cn (Cz_nd (Cz_3 (Cz_pop (Cz_B (Cz_ad T C2 hcm) (show pl c ≤ pl (c + 1) by omega))) (by omega)) (by omega) (Nat.le_refl _)) 1 (nI n) (-1) (by omega)) ?_ ?_ (T.pl_ (by omega)) htx (by omega)) (by omega)
      · rw [cn_ne (by omega), ← hE0, rE0 8 kc (by omega) (by omega) (by omega)]; exact ztT
      · rw [cn_ne (by omega), ← hE0, rE0 20 kc (by omega) (by omega) (by omega)]; exact ztB
    have hcl : f_X7_close fu (nI (K c)) S' = some (1, D2) := by
      rw [cl_20 C'.1.sz_ (by omega) b35, show (11 : Int32) = nI 11 from rfl, c_take T C'.1 11 (by omega), if_pos h11]
      simp only [Option.bind_some]
      rw [if_neg (show ¬ (1 : Int32) = 0 by decide)]
      unfold f_X7_endWhilePart
      have c34 : (ad6 S' (c + 1)).1 34 3 = nI (sz + 1) := by unfold ad6; rw [uI_ne (by omega)]; exact C'.1.sz_
      have c36 : (ad6 S' (c + 1)).1 36 sz = nI n := by unfold ad6; rw [uI_ne (by omega)]; exact b36
      rw [c_pop c34 (by omega), c36]
      have c38 : (uI (ad6 S' (c + 1)) 34 3 (nI sz)).1 3 8 = nI kc := by unfold ad6; rw [uI_ne (by omega), uI_ne (by omega)]; exact zt8
      simp only [Option.bind_some, mI_in (a := n) (n := 512) (by omega) (by omega), nI_clamp (show n < 2 ^ 31 by omega), gd_t, c38]
      rw [← hE0, c_conn hkc5]
      have d38 : (cnS E0 kc 1 (nI n) (-1)).1 3 8 = nI kc := by
        rw [cn_ne (by omega), hE0]; unfold ad6; rw [uI_ne (by omega), uI_ne (by omega), uI_ne (by omega), uI_ne (by omega)]; exact zt8
      simp only [Option.bind_some, d38]
      have hck : f_X7_checkType (nI kc) 2 (cnS E0 kc 1 (nI n) (-1)) = some ((), ckS (cnS E0 kc 1 (nI n) (-1)) kc (nI 2)) := c_chk hkc5 (nI 2)
      rw [hck]
      simp only [Option.bind_some]
      rw [if_neg (show ¬ (1 : Int32) = 0 by decide), hD2]
    refine FZ_cl hfu C'.1.sz_ (by omega) b35 (by omega) (by omega) (by omega) (pos1 := c + 1) hcl hpm2 (Or.inr ⟨rfl, by omega, by omega, hL S' N' M' L' n' ρ' τ' kc D2 ⟨hB', P', ⟨hkc, nz3, nz4, hρ', hτ'⟩, CD2, by rw [hD2, uI_eq]; rfl, ?_, ?_, fun a j u1 u2 u3 u4 => ?_, ?_, fun j u => ?_, ?_, ?_, fun r hr' => ⟨?_, fun hne => ?_⟩, fun t ht => ?_, ?_, hcm⟩⟩)
    · rw [rD2 3 10 (by omega) (by omega) (by omega), hE0, uI_ne (by omega), uI_eq]
    · rw [hD2, hE0]
      unfold ad6
      exact Fw_uI (Fw_ck (Fw_cn (Fw_uI (Fw_uI (Fw_uI (Fw_uI (Fw_refl S' n1 n' ρ1 ρ' τ' kc) (by omega)) (by omega)) (by omega)) (by omega)) (Or.inl rfl))) (by omega)
    · rw [rD2 a j (by omega) (by omega) (by omega), rE0 a j (by omega) (by omega) (by omega), Fn a j u1 u2 u3, rB a j (by omega) (by omega) (by omega)]
    · rw [rD2 13 n (by omega) (by omega) (by omega), hE0, uI_eq]
    · rw [rD2l, F'.2.1 j u, rBl]
    · obtain ⟨c9, -, -⟩ := cn_f E0 kc 1 (nI n) (-1)
      rw [hD2, uI_ne (by omega), ck_ne (by omega)]; exact c9
    · obtain ⟨-, c10, -⟩ := cn_f E0 kc 1 (nI n) (-1)
      rw [hD2, uI_ne (by omega), ck_ne (by omega)]; exact c10
    · rw [rD2 27 r (by omega) (by omega) (by omega), rE0 27 r (by omega) (by omega) (by omega), (F'.2.2.1 r (by omega)).1, rB 27 r (by omega) (by omega) (by omega)]
    · rw [rD2 26 r (by omega) (by omega) (by omega), rE0 26 r (by omega) (by omega) (by omega), (F'.2.2.1 r (by omega)).2 hne, rB 26 r (by omega) (by omega) (by omega)]
    · rw [rD2 29 t (by omega) (by omega) (by omega), rE0 29 t (by omega) (by omega) (by omega), F'.2.2.2.1 t ht, rB 29 t (by omega) (by omega) (by omega)]
    · rw [rD2 26 ρ (by omega) (by omega) (by omega), rE0 26 ρ (by omega) (by omega) (by omega)]
end CLP
