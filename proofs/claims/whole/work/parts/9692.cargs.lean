/-! the class's parser: calls -/
/-- nodes from lo on are kept but for one field of one; so are regions but R's leaves -/
def Fy (S S' : im_S) (lo n ρ τ R a0 k0 : Nat) : Prop := (∀ a k : Nat, 7 ≤ a → a ≤ 20 → lo ≤ k → k < n → (a ≠ a0 ∨ k ≠ k0) → S'.1 a k = S.1 a k) ∧ (∀ k : Nat, lo ≤ k → k < n → S'.2.1 21 k = S.2.1 21 k) ∧ (∀ r : Nat, r < ρ → S'.1 27 r = S.1 27 r ∧ (r ≠ R → S'.1 26 r = S.1 26 r)) ∧ ∀ t : Nat, t < τ → S'.1 29 t = S.1 29 t
theorem Fx_Fy {S S1 S2 : im_S} {lo n ρ τ R k0 lo1 n1 ρ1 τ1 a1 k1 : Nat} (h : Fx S S1 lo n ρ τ R k0) (F : Fy S1 S2 lo1 n1 ρ1 τ1 R a1 k1) (h0 : lo1 ≤ lo) (h1 : n ≤ n1) (h2 : ρ ≤ ρ1) (h3 : τ ≤ τ1) (h4 : k1 < lo ∨ n ≤ k1 ∨ (k1 = k0 ∧ (a1 = 9 ∨ a1 = 10 ∨ a1 = 11 ∨ a1 = 14 ∨ a1 = 20))) : Fx S S2 lo n ρ τ R k0 := by
  obtain ⟨a1', a2, a3, a4⟩ := h
  obtain ⟨b1, b2, b3, b4⟩ := F
  exact ⟨fun x k u1 u2 u0 u3 u4 => (b1 x k u1 u2 (by omega) (by omega) (by omega)).trans (a1' x k u1 u2 u0 u3 u4), fun k u0 hk => (b2 k (by omega) (by omega)).trans (a2 k u0 hk), fun r hr => ⟨((b3 r (by omega)).1).trans (a3 r hr).1, fun hR => ((b3 r (by omega)).2 hR).trans ((a3 r hr).2 hR)⟩, fun t ht => (b4 t (by omega)).trans (a4 t ht)⟩
section CARG
variable {K pl : Nat → Nat} {V : Nat → Int64} {m fu : Nat} {Q : Int32 → im_S → Prop} {S : im_S} {N M L : Nat → Nat} {pos dep sz n ρ τ f k R : Nat} {γ : List Nat}
/-- a list of arguments is read up to its end -/
def PL (K pl : Nat → Nat) (V : Nat → Int64) (m : Nat) (S : im_S) (pos dep sz : Nat) (γ : List Nat) (n ρ τ R : Nat) (S1 : im_S) (N1 M1 L1 : Nat → Nat) (n1 ρ1 τ1 f1 p a0 k0 : Nat) (S' : im_S) (N' M' L' : Nat → Nat) (n' ρ' τ' e : Nat) (r : TR) : Prop :=
  Cz K pl V m S n ρ τ sz γ.length R S' N' M' L' (e + 1) dep sz γ n' ρ' τ' (pl (e + 1)) (min f1 (pfc K pl V r γ 101 [] [])) ∧ Ag N1 M1 L1 N' M' L' p ∧ S'.1 3 7 = 2 ∧ S'.1 3 8 = nI n ∧ Fy S1 S' n n1 ρ1 τ1 R a0 k0 ∧ S'.1 a0 k0 = hdT N' r ∧ (4000 ≤ pfc K pl V r γ 101 [] [] → G K pl V S' N' M' L' r γ R 101 pos .nil []) ∧ Seg S' N' (S'.1 26 R) (lvs r) (S1.1 26 R) ∧ (CI K pl V S' N' p e pos (cls r) ∧ AgC K pl V S' N' r (S'.1 a0 k0) ∧ ∀ t, t ∈ rts r → p ≤ t ∧ t < e) ∧ p < e ∧ N' e = n'
theorem G_ap (S : im_S) (N M L : Nat → Nat) (p : Nat) (x r : TR) (c : Nat) : G K pl V S N M L (.append (.tag p x) r) γ R 101 c .nil [] = (rl S N (rtk x) 5 c ∧ S.1 14 (N (rtk x)) = hdT N r ∧ G K pl V S N M L x γ R 0 0 .nil [] ∧ G K pl V S N M L r γ R 101 c .nil []) := rfl
theorem pfc_ap (p : Nat) (x r : TR) : pfc K pl V (.append (.tag p x) r) γ 101 [] [] = min (pfc K pl V x γ 0 [] []) (pfc K pl V r γ 101 [] []) := rfl
set_option maxHeartbeats 4000000 in
theorem k_args (T : TH K pl V m) (hfu : 600 ≤ fu) {R1 : Nat → PR} {p0 : Nat} (hR1 : HXc K pl V m fu R1 (dep + 1) p0) (hW1 : WR K R1) (hR : R < ρ) :
    ∀ (q na p : Nat) (S1 : im_S) (N1 M1 L1 : Nat → Nat) (n1 ρ1 τ1 f1 : Nat) (l : List Nat) (a0 k0 : Nat), p0 ≤ p → pos < p → m < q + p → Cz K pl V m S n ρ τ sz γ.length R S1 N1 M1 L1 p (dep + 1) (sz + 1) γ n1 ρ1 τ1 (pl p) f1 → S1.1 3 7 = 0 → N1 pos = n → n < n1 → ρ ≤ ρ1 → τ ≤ τ1 → S1.1 35 sz = nI 13 → S1.1 36 sz = nI n → S1.1 37 sz = nI R → Chn S1 (S1.1 12 n) l → l.length = na → na < 4 → (∀ j, j ∈ l → n < j ∧ j < n1) → l.Pairwise (· < ·) → Slt l n a0 k0 →
    (∀ e, pC K R1 q na p = (e, none) → Rf pl e Q → Lp m fu p S1 Q) ∧ ∀ e r, pC K R1 q na p = (e, some r) → (K e ≠ 41 → Rf pl e Q → Lp m fu p S1 Q) ∧ (K e = 41 → (∀ (S' : im_S) (N' M' L' : Nat → Nat) (n' ρ' τ' : Nat), PL K pl V m S pos dep sz γ n ρ τ R S1 N1 M1 L1 n1 ρ1 τ1 f1 p a0 k0 S' N' M' L' n' ρ' τ' e r → Lp m fu (e + 1) S' Q) → Lp m fu p S1 Q) := by
  intro q
  induction q with
  | zero => intro na p S1 N1 M1 L1 n1 ρ1 τ1 f1 l a0 k0 _ _ hq C1; have := C1.1.pm; omega
  | succ q ih =>
    intro na p S1 N1 M1 L1 n1 ρ1 τ1 f1 l a0 k0 hp0 hpp hq C1 hd hNp hnn hρ1 hτ1 h35 h36 h37 hch hlen hna hlm hpw hsl
    have hpm := C1.1.pm
    have hbd := C1.1.bd
    have hm := T.m_
    have hk0 : n ≤ k0 ∧ k0 < n1 ∧ (a0 = 12 ∨ a0 = 14) := by
      rcases hsl with ⟨-, q1, q2⟩ | ⟨l', q1, q2⟩
      · exact ⟨by omega, by omega, Or.inl q1⟩
      · have := hlm k0 (by rw [q1]; exact List.mem_append_right _ (List.mem_singleton.mpr rfl))
        exact ⟨by omega, by omega, Or.inr q2⟩
    rw [pC, if_neg (by omega)]
    have gA := C1.2.1
    have hBg : Bg K pl V m S1 N1 M1 L1 p (dep + 1) (sz + 1) γ n1 ρ1 τ1 f1 13 R := ⟨Cz_base C1, ⟨by omega, by rw [Nat.add_sub_cancel]; exact h35, by omega, by rw [Nat.add_sub_cancel]; exact h37⟩, by omega, by omega⟩
    obtain ⟨hN, hS⟩ := hR1 S1 N1 M1 L1 p (sz + 1) γ n1 ρ1 τ1 f1 13 R Q hp0 hBg hd (by omega)
    rcases hr : R1 p with ⟨b, _ | x⟩
    · rw [pbd_none rfl]
      refine ⟨fun e he hRf => ?_, (fun e y he => by cases he)⟩
      cases he
      exact hN b hr hRf
    rw [pbd_some rfl]
    obtain ⟨wx, -⟩ := hW1 _ _ _ hr
    have hxp := Wt_lt wx
    have hxr := Wt_rt wx
    have htx := tyx_lt K V x
    -- what endArgument does
    have key : ∀ (Z : Prop), (∀ (S' : im_S) (N' M' L' : Nat → Nat) (n' ρ' τ' kx : Nat) (D : im_S), PX K pl V m S1 N1 M1 L1 p (dep + 1) (sz + 1) γ n1 ρ1 τ1 f1 R S' N' M' L' n' ρ' τ' b x → N' (rtk x) = kx → n1 ≤ kx → kx < n' → ρ1 ≤ ρ' → τ1 ≤ τ' → D = uI (cnS S' kx 5 (nI n) (-1)) a0 k0 (nI kx) → Chn D (D.1 12 n) (l ++ [kx]) → (l ++ [kx]).Pairwise (· < ·) →
        f_X7_close fu (nI (K b)) S' = (if K b ≠ 44 then (f_X7_take 41 (uI (uI D 34 3 (nI sz)) 3 9 (nI dep))).bind (fun qS14 => if (qS14.1 : Int32) = 0 then (some (0, qS14.2)) else some (1, uI (uI qS14.2 3 8 (nI n)) 3 7 2)) else (if na + 1 < 4 then some (1, uI (ad6 D (b + 1)) 3 7 0) else (f_X7_refuse (uI (ad6 D (b + 1)) 3 7 0)).bind (fun qS26 => if (qS26.1 : Int32) = 0 then (some (0, qS26.2)) else (some (1, qS26.2))))) → FZ K m fu b (sz + 1) S' Q) → Lp m fu p S1 Q := by
      intro _ hZ
      refine hS b x hr (fun S' N' M' L' n' ρ' τ' P' => ?_)
      have C' := P'.1
      have F' := C'.2.2.2.2.2
      have Fn := F'.1
      have hb2 := C'.1.bd
      have hpm2 := C'.1.pm
      obtain ⟨-, -, nz1, nz2, nz3, nz4, hn', hρ', hτ', -⟩ := PX_keep P' wx gA (show R < ρ1 by omega) (by omega) (Fx_refl S' n1 n' ρ' τ' R _) (fun j _ => ⟨rfl, rfl, rfl⟩)
      obtain ⟨zt0, zt8, ztT, ztB, ztS⟩ := P'.2.2.1
      obtain ⟨kx, hkx⟩ : ∃ kx, N' (rtk x) = kx := ⟨_, rfl⟩
      rw [hkx] at nz2 nz3 nz4 zt8 ztS
      have hkx5 : kx < 512 := by omega
      have b35 : S'.1 35 sz = nI 13 := by rw [F'.2.2.2.2.1 35 sz (by omega) (by omega) (by omega)]; exact h35
      have b36 : S'.1 36 sz = nI n := by rw [F'.2.2.2.2.1 36 sz (by omega) (by omega) (by omega)]; exact h36
      have c12 : (cnS S' kx 5 (nI n) (-1)).1 12 n = S1.1 12 n := by rw [cn_ne (by omega), Fn 12 n (by omega) (by omega) (by omega)]
      have hch' : Chn (cnS S' kx 5 (nI n) (-1)) ((cnS S' kx 5 (nI n) (-1)).1 12 n) l := by
        rw [c12]
        refine Chn_cp l _ (fun j hj => ?_) hch
        have := hlm j hj
        rw [cn_ne (by omega), Fn 14 j (by omega) (by omega) (by omega)]
      obtain ⟨v, D0, d1, d2, d3, d4, d5, d6, d7⟩ := c_slot (fu := fu) (kx := kx) hch' hsl hpw (by omega) hfu hkx5 (by rw [cn_ne (by omega)]; exact ztS) (fun j hj => by have := hlm j hj; omega)
      refine hZ S' N' M' L' n' ρ' τ' kx _ P' hkx nz3 nz4 hρ' hτ' rfl d6 d7 ?_
      rw [cl_13 C'.1.sz_ (by omega) b35]
      unfold f_X7_endArgument
      rw [c_topN C'.1.sz_ (by omega), b36]
      simp only [Option.bind_some]
      rw [zt8, c_conn hkx5]
      have c38 : (cnS S' kx 5 (nI n) (-1)).1 3 8 = nI kx := by rw [cn_ne (by omega)]; exact zt8
      simp only [Option.bind_some, mI_in (a := n) (n := 512) (by omega) (by omega), nI_clamp (show n < 2 ^ 31 by omega), gd_t, c38]
      rw [d1]
      simp only [Option.bind_some]
      have hkb : K b < 127 := by have := (tkK_c _ (T.2.1 b hpm2).2).2.2.2.2.2; omega
      have e44 : nI (K b) = (44 : Int32) ↔ K b = 44 := nI_eq (a := K b) (b := 44) (by omega) (by omega)
      rw [show uI D0 12 n v = uI (cnS S' kx 5 (nI n) (-1)) a0 k0 (nI kx) from d2]
      have D34 : (uI (cnS S' kx 5 (nI n) (-1)) a0 k0 (nI kx)).1 34 3 = nI (sz + 1) := by rw [uI_ne (by omega), cn_ne (by omega)]; exact C'.1.sz_
      have D39 : (uI (uI (cnS S' kx 5 (nI n) (-1)) a0 k0 (nI kx)) 34 3 (nI sz)).1 3 9 = nI (dep + 1) := by rw [uI_ne (by omega), uI_ne (by omega), cn_ne (by omega)]; exact C'.1.dp
      have dd : nI (dep + 1) - 1 = nI dep := by rw [show (1 : Int32) = nI 1 from rfl, nI_sub (by omega), Nat.add_sub_cancel]
      by_cases h44 : K b = 44
      · rw [if_neg (fun z => z (e44.mpr h44)), if_neg (fun z => z h44)]
        have D36 : D0.1 3 6 = nI b := by rw [d4, cn_ne (by omega)]; exact C'.1.at_
        have du : upd (D0.1 12) n v n = v := by unfold upd; rw [if_pos rfl]
        rw [D36, show nI b + 1 = nI (b + 1) from nI_add b 1, du]
        have hcl : f_X3_chainLength fu v (uI (uI (uI (cnS S' kx 5 (nI n) (-1)) a0 k0 (nI kx)) 3 6 (nI (b + 1))) 3 7 0) = some (nI (na + 1), uI (uI (uI (cnS S' kx 5 (nI n) (-1)) a0 k0 (nI kx)) 3 6 (nI (b + 1))) 3 7 0) := by
          have h9 : Chn (uI (uI (uI (cnS S' kx 5 (nI n) (-1)) a0 k0 (nI kx)) 3 6 (nI (b + 1))) 3 7 0) v (l ++ [kx]) := by
            rw [d3] at d6
            exact Chn_cp _ _ (fun j _ => by rw [uI_ne (by omega), uI_ne (by omega)]) d6
          have := c_len h9 (by rw [List.length_append]; show l.length + 1 < 512; omega) hfu
          rw [List.length_append, hlen] at this
          exact this
        rw [hcl]
        simp only [Option.bind_some]
        have l4 : nI (na + 1) < (4 : Int32) ↔ na + 1 < 4 := mI_lt (a := na + 1) (b := 4) (by omega) (by omega)
        unfold ad6
        by_cases h4 : na + 1 < 4
        · rw [if_pos (l4.mpr h4), if_pos h4]; rfl
        · rw [if_neg (fun z => h4 (l4.mp z)), if_neg h4]
          rcases f_X7_refuse (uI (uI (uI (cnS S' kx 5 (nI n) (-1)) a0 k0 (nI kx)) 3 6 (nI (b + 1))) 3 7 0) with _ | ⟨r0, S0⟩
          · rfl
          · simp only [Option.bind_some]
            by_cases z0 : r0 = 0
            · rw [if_pos z0]; rfl
            · rw [if_neg z0]; rfl
      · rw [if_pos (fun z => h44 (e44.mp z)), if_pos h44, c_pop D34 (by omega)]
        simp only [Option.bind_some]
        rw [D39, dd]
        rcases f_X7_take 41 (uI (uI (uI (cnS S' kx 5 (nI n) (-1)) a0 k0 (nI kx)) 34 3 (nI sz)) 3 9 (nI dep)) with _ | ⟨r0, S0⟩
        · rfl
        · simp only [Option.bind_some, c_endO]
          by_cases z0 : r0 = 0
          · simp only [if_pos z0]; rfl
          · simp only [if_neg z0]; rfl
    -- what is common
    have com : ∀ (S' : im_S) (N' M' L' : Nat → Nat) (n' ρ' τ' kx : Nat) (D : im_S), PX K pl V m S1 N1 M1 L1 p (dep + 1) (sz + 1) γ n1 ρ1 τ1 f1 R S' N' M' L' n' ρ' τ' b x → N' (rtk x) = kx → n1 ≤ kx → kx < n' → ρ1 ≤ ρ' → τ1 ≤ τ' → D = uI (cnS S' kx 5 (nI n) (-1)) a0 k0 (nI kx) → Cz K pl V m S n ρ τ sz γ.length R D N' M' L' b (dep + 1) (sz + 1) γ n' ρ' τ' (pl b) (min f1 (pfc K pl V x γ 0 [] [])) ∧ Fx S' D n1 n' ρ' τ' R kx ∧ Fy S1 D n n1 ρ1 τ1 R a0 k0 ∧ D.1 a0 k0 = nI kx ∧ D.1 9 kx = 5 ∧ D.1 10 kx = nI n ∧ D.1 14 kx = -1 ∧ D.1 26 R = S'.1 26 R ∧ D.1 35 sz = nI 13 ∧ D.1 36 sz = nI n ∧ D.1 37 sz = nI R ∧ D.1 20 kx = S'.1 20 kx := by
      intro S' N' M' L' n' ρ' τ' kx D P' hkx hk1 hk2 hρ' hτ' hD
      have C' := P'.1
      have F' := C'.2.2.2.2.2
      have Fn := F'.1
      obtain ⟨-, -, -, -, ztS⟩ := P'.2.2.1
      rw [hkx] at ztS
      have C2 : Cz K pl V m S n ρ τ sz γ.length R S' N' M' L' b (dep + 1) (sz + 1) γ n' ρ' τ' (pl b) (min f1 (pfc K pl V x γ 0 [] [])) := Cz_tr C1.2.2.2.2.2 C' (by omega) (by omega) (by omega) (by omega) (Nat.le_refl _) (Or.inl rfl)
      refine ⟨?_, ?_, ⟨fun a k' u1 u2 u0 u3 u4 => ?_, fun k' u0 u3 => ?_, fun r hr' => ⟨?_, fun hne => ?_⟩, fun t ht => ?_⟩, ?_, ?_, ?_, ?_, ?_, ?_, ?_, ?_, ?_⟩
      · rw [hD]
        exact Cz_nd (Cz_cn C2 5 (nI n) (-1) (by omega)) (by omega) (by omega)
      · rw [hD]
        exact Fx_uI (Fx_cn (Fx_refl S' n1 n' ρ' τ' R kx) (Or.inl rfl)) (by omega)
      · rw [hD, uI_ne (by omega), cn_ne (by omega), Fn a k' u1 u2 u3]
      · rw [hD]; exact F'.2.1 k' u3
      · rw [hD, uI_ne (by omega), cn_ne (by omega)]; exact (F'.2.2.1 r hr').1
      · rw [hD, uI_ne (by omega), cn_ne (by omega)]; exact (F'.2.2.1 r hr').2 hne
      · rw [hD, uI_ne (by omega), cn_ne (by omega)]; exact F'.2.2.2.1 t ht
      · rw [hD, uI_eq]
      · rw [hD, uI_ne (by omega)]; exact (cn_f S' kx 5 (nI n) (-1)).1
      · rw [hD, uI_ne (by omega)]; exact (cn_f S' kx 5 (nI n) (-1)).2.1
      · rw [hD, uI_ne (by omega), cn_ne (by omega)]; exact ztS
      · rw [hD, uI_ne (by omega), cn_ne (by omega)]
      · rw [hD, uI_ne (by omega), cn_ne (by omega), F'.2.2.2.2.1 35 sz (by omega) (by omega) (by omega)]; exact h35
      · rw [hD, uI_ne (by omega), cn_ne (by omega), F'.2.2.2.2.1 36 sz (by omega) (by omega) (by omega)]; exact h36
      · rw [hD, uI_ne (by omega), cn_ne (by omega), F'.2.2.2.2.1 37 sz (by omega) (by omega) (by omega)]; exact h37
      · rw [hD, uI_ne (by omega), cn_ne (by omega)]
    by_cases h44 : K b = 44
    · rw [if_pos h44]
      -- a comma: the state behind it
      have cont : (∀ (S' : im_S) (N' M' L' : Nat → Nat) (n' ρ' τ' kx : Nat) (A : im_S), b < m → PX K pl V m S1 N1 M1 L1 p (dep + 1) (sz + 1) γ n1 ρ1 τ1 f1 R S' N' M' L' n' ρ' τ' b x → N' (rtk x) = kx → n1 ≤ kx → kx < n' → ρ1 ≤ ρ' → τ1 ≤ τ' → Cz K pl V m S n ρ τ sz γ.length R A (ex N' b n') (ex M' b ρ') (ex L' b τ') (b + 1) (dep + 1) (sz + 1) γ n' ρ' τ' (pl (b + 1)) (min f1 (pfc K pl V x γ 0 [] [])) → A.1 3 7 = 0 → Fx S' A n1 n' ρ' τ' R kx → Fy S1 A n n1 ρ1 τ1 R a0 k0 → A.1 a0 k0 = nI kx → A.1 9 kx = 5 → A.1 10 kx = nI n → A.1 26 R = S'.1 26 R → A.1 20 kx = S'.1 20 kx → A.1 35 sz = nI 13 → A.1 36 sz = nI n → A.1 37 sz = nI R → Chn A (A.1 12 n) (l ++ [kx]) → (l ++ [kx]).Pairwise (· < ·) → (na + 1 < 4 → Lp m fu (b + 1) A Q) ∧ (na + 1 = 4 → Q 0 (rcS A (pl (b + 1))))) → Lp m fu p S1 Q := by
        intro hc
        refine key True (fun S' N' M' L' n' ρ' τ' kx D P' hkx hk1 hk2 hρ' hτ' hD hcD hpD hcl => ?_)
        obtain ⟨CD, g1, g2, g3, g4, g5, g6, g7, g8, g9, g10, g11⟩ := com S' N' M' L' n' ρ' τ' kx D P' hkx hk1 hk2 hρ' hτ' hD
        have C' := P'.1
        have hpm2 := C'.1.pm
        have hb2 := C'.1.bd
        have hbm := K_lt T.end_ hpm2 h44 (by decide) (by decide)
        have hstb := T.lt_ hbm
        have b35 : S'.1 35 sz = nI 13 := by rw [C'.2.2.2.2.2.2.2.2.2.1 35 sz (by omega) (by omega) (by omega)]; exact h35
        have CA : Cz K pl V m S n ρ τ sz γ.length R (uI (ad6 D (b + 1)) 3 7 0) (ex N' b n') (ex M' b ρ') (ex L' b τ') (b + 1) (dep + 1) (sz + 1) γ n' ρ' τ' (pl (b + 1)) (min f1 (pfc K pl V x γ 0 [] [])) := Cz_3 (Cz_B (Cz_ad T CD hbm) (show pl b ≤ pl (b + 1) by omega)) (by omega)
        have rA : ∀ a j : Nat, a ≠ 3 → (uI (ad6 D (b + 1)) 3 7 0).1 a j = D.1 a j := fun a j h => by unfold ad6; rw [uI_ne (by omega), uI_ne (by omega)]
        obtain ⟨c1, c2⟩ := hc S' N' M' L' n' ρ' τ' kx (uI (ad6 D (b + 1)) 3 7 0) hbm P' hkx hk1 hk2 hρ' hτ' CA uI_eq (by unfold ad6; exact Fx_uI (Fx_uI g1 (by omega)) (by omega)) ⟨fun a k' u1 u2 u0 u3 u4 => by rw [rA a k' (by omega)]; exact g2.1 a k' u1 u2 u0 u3 u4, g2.2.1, fun r hr' => by rw [rA 27 r (by omega), rA 26 r (by omega)]; exact g2.2.2.1 r hr', fun t ht => by rw [rA 29 t (by omega)]; exact g2.2.2.2 t ht⟩ (by rw [rA a0 k0 (by omega)]; exact g3) (by rw [rA 9 kx (by omega)]; exact g4) (by rw [rA 10 kx (by omega)]; exact g5) (by rw [rA 26 R (by omega)]; exact g7) (by rw [rA 20 kx (by omega)]; exact g11) (by rw [rA 35 sz (by omega)]; exact g8) (by rw [rA 36 sz (by omega)]; exact g9) (by rw [rA 37 sz (by omega)]; exact g10) (by rw [rA 12 n (by omega)]; exact Chn_cp _ _ (fun j _ => rA 14 j (by omega)) hcD) hpD
        rw [if_neg (fun z => z h44)] at hcl
        by_cases h4 : na + 1 < 4
        · rw [if_pos h4] at hcl
          exact FZ_cl hfu C'.1.sz_ (by omega) b35 (by omega) (by omega) (by omega) (pos1 := b + 1) hcl hpm2 (Or.inr ⟨rfl, by omega, by omega, c1 h4⟩)
        · rw [if_neg h4, c_refuse T CA.1] at hcl
          exact FZ_cl hfu C'.1.sz_ (by omega) b35 (by omega) (by omega) (by omega) (pos1 := b + 1) hcl hpm2 (Or.inl ⟨rfl, c2 (by omega)⟩)
      rcases Nat.lt_or_ge (na + 1) 4 with h4 | h4
      · have ih' := fun (S' : im_S) (N' M' L' : Nat → Nat) (n' ρ' τ' kx : Nat) (A : im_S) (hbm : b < m) (P' : PX K pl V m S1 N1 M1 L1 p (dep + 1) (sz + 1) γ n1 ρ1 τ1 f1 R S' N' M' L' n' ρ' τ' b x) (hk1 : n1 ≤ kx) (hk2 : kx < n') (hρ' : ρ1 ≤ ρ') (hτ' : τ1 ≤ τ') (CA : Cz K pl V m S n ρ τ sz γ.length R A (ex N' b n') (ex M' b ρ') (ex L' b τ') (b + 1) (dep + 1) (sz + 1) γ n' ρ' τ' (pl (b + 1)) (min f1 (pfc K pl V x γ 0 [] []))) (hd' : A.1 3 7 = 0) (q35 : A.1 35 sz = nI 13) (q36 : A.1 36 sz = nI n) (q37 : A.1 37 sz = nI R) (qc : Chn A (A.1 12 n) (l ++ [kx])) (qp : (l ++ [kx]).Pairwise (· < ·)) => ih (na + 1) (b + 1) A (ex N' b n') (ex M' b ρ') (ex L' b τ') n' ρ' τ' _ (l ++ [kx]) 14 kx (by omega) (by omega) (by omega) CA hd' (by rw [ex_le (by omega), (P'.2.1 pos (by omega)).1]; exact hNp) (by omega) (by omega) (by omega) q35 q36 q37 qc (by rw [List.length_append, hlen]; rfl) h4 (fun j hj => by
            rcases List.mem_append.mp hj with z | z
            · have := hlm j z; exact ⟨by omega, by omega⟩
            · rw [List.mem_singleton] at z; exact ⟨by omega, by omega⟩) qp (Or.inr ⟨l, rfl, rfl⟩)
        rcases hr2 : pC K R1 q (na + 1) (b + 1) with ⟨e2, _ | r2⟩
        · rw [pbd_none rfl]
          refine ⟨fun e he hRf => ?_, (fun e y he => by cases he)⟩
          cases he
          refine cont (fun S' N' M' L' n' ρ' τ' kx A hbm P' hkx hk1 hk2 hρ' hτ' CA hd' f1' f2' v1 v2 v3 v4 v5 q35 q36 q37 qc qp => ⟨fun _ => ?_, fun h => absurd h (by omega)⟩)
          exact (ih' S' N' M' L' n' ρ' τ' kx A hbm P' hk1 hk2 hρ' hτ' CA hd' q35 q36 q37 qc qp).1 e2 hr2 hRf
        · rw [pbd_some rfl]
          refine ⟨(fun e he => by cases he), fun e r he => ?_⟩
          cases he
          refine ⟨fun h41 hRf => cont (fun S' N' M' L' n' ρ' τ' kx A hbm P' hkx hk1 hk2 hρ' hτ' CA hd' f1' f2' v1 v2 v3 v4 v5 q35 q36 q37 qc qp => ⟨fun _ => ?_, fun h => absurd h (by omega)⟩), fun h41 hL => cont (fun S' N' M' L' n' ρ' τ' kx A hbm P' hkx hk1 hk2 hρ' hτ' CA hd' f1' f2' v1 v2 v3 v4 v5 q35 q36 q37 qc qp => ⟨fun _ => ?_, fun h => absurd h (by omega)⟩)⟩
          · exact ((ih' S' N' M' L' n' ρ' τ' kx A hbm P' hk1 hk2 hρ' hτ' CA hd' q35 q36 q37 qc qp).2 e2 r2 hr2).1 h41 hRf
          · refine ((ih' S' N' M' L' n' ρ' τ' kx A hbm P' hk1 hk2 hρ' hτ' CA hd' q35 q36 q37 qc qp).2 e2 r2 hr2).2 h41 (fun S2 N2 M2 L2 n2 ρ2 τ2 PP => ?_)
            obtain ⟨y1, y2, y3, y4, y5, y6, y7, y8, ⟨y9, y10, y11⟩, y12, y13⟩ := PP
            have hAg : Ag N' M' L' N2 M2 L2 b := Ag_tr (Ag_ex N' M' L' b n' ρ' τ') y2 (by omega)
            have fx2 : Fx S' S2 n1 n' ρ' τ' R kx := Fx_Fy f1' y5 (by omega) (Nat.le_refl _) (Nat.le_refl _) (Nat.le_refl _) (by omega)
            obtain ⟨Gx, Sx, nx1, nx2, -⟩ := PX_keep P' wx gA (show R < ρ1 by omega) (by omega) (by rw [hkx]; exact fx2) hAg
            rw [hkx] at nx2
            have hN2p : N2 pos = n := by rw [(hAg pos (by omega)).1, (P'.2.1 pos (by omega)).1]; exact hNp
            obtain ⟨-, -, ztT, ztB, -⟩ := P'.2.2.1
            rw [hkx] at ztT ztB
            have k20 : A.1 20 kx = S'.1 20 kx := v5
            refine hL S2 N2 M2 L2 n2 ρ2 τ2 ⟨?_, Ag_tr P'.2.1 hAg (by omega), y3, y4, ?_, ?_, fun hz => ?_, ?_, ⟨?_, ⟨?_, nx1, ?_, ?_, T.pl_ (by omega), ?_⟩, fun t ht => ?_⟩, by omega, y13⟩
            · have hmin : min (min f1 (pfc K pl V x γ 0 [] [])) (pfc K pl V r2 γ 101 [] []) = min f1 (pfc K pl V (.append (.tag p x) r2) γ 101 [] []) := by rw [pfc_ap]; omega
              rw [← hmin]
              exact y1
            · refine ⟨fun a k' u1 u2 u0 u3 u4 => ?_, fun k' u0 u3 => ?_, fun r hr' => ⟨?_, fun hne => ?_⟩, fun t ht => ?_⟩
              · rw [y5.1 a k' u1 u2 u0 (by omega) (by omega)]; exact f2'.1 a k' u1 u2 u0 u3 u4
              · rw [y5.2.1 k' u0 (by omega)]; exact f2'.2.1 k' u0 u3
              · rw [(y5.2.2.1 r (by omega)).1]; exact (f2'.2.2.1 r hr').1
              · rw [(y5.2.2.1 r (by omega)).2 hne]; exact (f2'.2.2.1 r hr').2 hne
              · rw [y5.2.2.2 t (by omega)]; exact f2'.2.2.2 t ht
            · show S2.1 a0 k0 = nI (N2 (rtk x))
              rw [nx2, y5.1 a0 k0 (by omega) (by omega) (by omega) (by omega) (by omega)]
              exact v1
            · rw [pfc_ap] at hz
              rw [G_ap]
              refine ⟨⟨nx1, ?_, ?_⟩, ?_, Gx (by omega), y7 (by omega)⟩
              · rw [nx2, y5.1 9 kx (by omega) (by omega) (by omega) (by omega) (by omega)]; exact v2
              · rw [nx2, y5.1 10 kx (by omega) (by omega) (by omega) (by omega) (by omega), hN2p]; exact v3
              · rw [nx2]; exact y6
            · show Seg S2 N2 (S2.1 26 R) (lvs r2 ++ lvs x) (S1.1 26 R)
              refine Seg_app _ _ _ _ _ y8 ?_
              rw [v4]
              exact Sx
            · have CIx := PX_ci P' wx gA (by rw [hkx]; exact fx2.1) fx2.2.1 hAg
              show CI K pl V S2 N2 p e2 pos (cls x ++ cls r2)
              refine CI_seq CIx y9 (by omega) (by omega) (by omega) (fun k k1 k2 => ?_) (Or.inl hpp)
              rw [(hAg b (Nat.le_refl _)).1, P'.1.2.1.1] at k1
              rw [(y2 (b + 1) (Nat.le_refl _)).1, ex_gt (by omega)] at k2
              omega
            · rw [nx2, y5.1 a0 k0 (by omega) (by omega) (by omega) (by omega) (by omega)]; exact v1
            · rw [nx2, y5.1 8 kx (by omega) (by omega) (by omega) (by omega) (by omega), f1'.1 8 kx (by omega) (by omega) hk1 hk2 (Or.inr (by omega))]; exact ztT
            · rw [nx2, y5.1 20 kx (by omega) (by omega) (by omega) (by omega) (by omega), k20]; exact ztB
            · rw [nx2]; exact y10
            · have ht : t ∈ rtk x :: rts r2 := ht
              rcases List.mem_cons.mp ht with z | z
              · omega
              · have := y11 t z; omega
      · have hpc : pC K R1 q (na + 1) (b + 1) = (b + 1, none) := by
          cases q with
          | zero => rfl
          | succ q => rw [pC, if_pos (by omega)]
        rw [hpc, pbd_none rfl]
        refine ⟨fun e he hRf => ?_, (fun e y he => by cases he)⟩
        cases he
        exact cont (fun S' N' M' L' n' ρ' τ' kx A hbm P' hkx hk1 hk2 hρ' hτ' CA hd' f1' f2' v1 v2 v3 v4 v5 q35 q36 q37 qc qp => ⟨fun h => absurd h (by omega), fun _ => Rf_rc hRf⟩)
    · rw [if_neg h44]
      refine ⟨(fun e he => by cases he), fun e r he => ?_⟩
      cases he
      refine ⟨fun h41 hRf => key True (fun S' N' M' L' n' ρ' τ' kx D P' hkx hk1 hk2 hρ' hτ' hD hcD hpD hcl => ?_), fun h41 hL => key True (fun S' N' M' L' n' ρ' τ' kx D P' hkx hk1 hk2 hρ' hτ' hD hcD hpD hcl => ?_)⟩
      · obtain ⟨CD, -⟩ := com S' N' M' L' n' ρ' τ' kx D P' hkx hk1 hk2 hρ' hτ' hD
        have C' := P'.1
        have hpm2 := C'.1.pm
        have hb2 := C'.1.bd
        have b35 : S'.1 35 sz = nI 13 := by rw [C'.2.2.2.2.2.2.2.2.2.1 35 sz (by omega) (by omega) (by omega)]; exact h35
        have CA : Cz K pl V m S n ρ τ sz γ.length R (uI (uI D 34 3 (nI sz)) 3 9 (nI dep)) N' M' L' b dep sz γ n' ρ' τ' (pl b) (min f1 (pfc K pl V x γ 0 [] [])) := Cz_9 (Cz_pop CD) dep
        rw [if_pos h44, show (41 : Int32) = nI 41 from rfl, c_take T CA.1 41 (by omega), if_neg h41] at hcl
        exact FZ_cl hfu C'.1.sz_ (by omega) b35 (by omega) (by omega) (by omega) (pos1 := 0) hcl hpm2 (Or.inl ⟨rfl, Rf_rc hRf⟩)
      · obtain ⟨CD, g1, g2, g3, g4, g5, g6, g7, g8, g9, g10, g11⟩ := com S' N' M' L' n' ρ' τ' kx D P' hkx hk1 hk2 hρ' hτ' hD
        have C' := P'.1
        have hpm2 := C'.1.pm
        have hb2 := C'.1.bd
        have b35 : S'.1 35 sz = nI 13 := by rw [C'.2.2.2.2.2.2.2.2.2.1 35 sz (by omega) (by omega) (by omega)]; exact h35
        have CA : Cz K pl V m S n ρ τ sz γ.length R (uI (uI D 34 3 (nI sz)) 3 9 (nI dep)) N' M' L' b dep sz γ n' ρ' τ' (pl b) (min f1 (pfc K pl V x γ 0 [] [])) := Cz_9 (Cz_pop CD) dep
        have hbm := K_lt T.end_ hpm2 h41 (by decide) (by decide)
        have hstb := T.lt_ hbm
        rw [if_pos h44, show (41 : Int32) = nI 41 from rfl, c_take T CA.1 41 (by omega), if_pos h41] at hcl
        simp only [Option.bind_some] at hcl
        rw [if_neg (show ¬ (1 : Int32) = 0 by decide)] at hcl
        obtain ⟨E, hE⟩ : ∃ E, E = uI (uI (ad6 (uI (uI D 34 3 (nI sz)) 3 9 (nI dep)) (b + 1)) 3 8 (nI n)) 3 7 2 := ⟨_, rfl⟩
        rw [← hE] at hcl
        refine FZ_cl hfu C'.1.sz_ (by omega) b35 (by omega) (by omega) (by omega) (pos1 := b + 1) hcl hpm2 (Or.inr ⟨rfl, by omega, by omega, ?_⟩)
        have rE : ∀ a j : Nat, a ≠ 3 → (a ≠ 34 ∨ j ≠ 3) → E.1 a j = D.1 a j := fun a j h h2 => by rw [hE]; unfold ad6; rw [uI_ne (by omega), uI_ne (by omega), uI_ne (by omega), uI_ne (by omega), uI_ne (by omega)]
        have CE : Cz K pl V m S n ρ τ sz γ.length R E (ex N' b n') (ex M' b ρ') (ex L' b τ') (b + 1) dep sz γ n' ρ' τ' (pl (b + 1)) (min f1 (pfc K pl V x γ 0 [] [])) := by
          rw [hE]
          exact Cz_3 (Cz_3 (Cz_B (Cz_ad T CA hbm) (show pl b ≤ pl (b + 1) by omega)) (by omega)) (by omega)
        have fxE : Fx S' E n1 n' ρ' τ' R kx := by
          rw [hE]
          unfold ad6
          exact Fx_uI (Fx_uI (Fx_uI (Fx_uI (Fx_uI g1 (by omega)) (by omega)) (by omega)) (by omega)) (by omega)
        obtain ⟨Gx, Sx, nx1, nx2, -⟩ := PX_keep P' wx gA (show R < ρ1 by omega) (by omega) (by rw [hkx]; exact fxE) (Ag_ex N' M' L' b n' ρ' τ')
        rw [hkx] at nx2
        have hN2p : ex N' b n' pos = n := by rw [ex_le (by omega), (P'.2.1 pos (by omega)).1]; exact hNp
        have hpn : pfc K pl V (.append (.tag p x) .nil) γ 101 [] [] = min (pfc K pl V x γ 0 [] []) 4000 := rfl
        obtain ⟨-, -, ztT, ztB, -⟩ := P'.2.2.1
        rw [hkx] at ztT ztB
        refine hL E (ex N' b n') (ex M' b ρ') (ex L' b τ') n' ρ' τ' ⟨?_, Ag_tr P'.2.1 (Ag_ex N' M' L' b n' ρ' τ') (by omega), by rw [hE, uI_eq], by rw [hE, uI_ne (by omega), uI_eq], ?_, ?_, fun hz => ?_, ?_, ⟨?_, ⟨?_, nx1, ?_, ?_, T.pl_ (by omega), ?_⟩, fun t ht => ?_⟩, by omega, by rw [ex_le (Nat.le_refl _)]; exact P'.1.2.1.1⟩
        · have hf := C1.2.2.2.2.1
          have hmin : min f1 (pfc K pl V x γ 0 [] []) = min f1 (pfc K pl V (.append (.tag p x) .nil) γ 101 [] []) := by rw [hpn]; omega
          rw [← hmin]
          exact CE
        · refine ⟨fun a k' u1 u2 u0 u3 u4 => ?_, fun k' u0 u3 => ?_, fun r hr' => ⟨?_, fun hne => ?_⟩, fun t ht => ?_⟩
          · rw [rE a k' (by omega) (by omega)]; exact g2.1 a k' u1 u2 u0 u3 u4
          · rw [hE]; exact g2.2.1 k' u0 u3
          · rw [rE 27 r (by omega) (by omega)]; exact (g2.2.2.1 r hr').1
          · rw [rE 26 r (by omega) (by omega)]; exact (g2.2.2.1 r hr').2 hne
          · rw [rE 29 t (by omega) (by omega)]; exact g2.2.2.2 t ht
        · show E.1 a0 k0 = nI (ex N' b n' (rtk x))
          rw [nx2, rE a0 k0 (by omega) (by omega)]
          exact g3
        · rw [hpn] at hz
          rw [G_ap]
          refine ⟨⟨nx1, ?_, ?_⟩, ?_, Gx (by omega), trivial⟩
          · rw [nx2, rE 9 kx (by omega) (by omega)]; exact g4
          · rw [nx2, rE 10 kx (by omega) (by omega), hN2p]; exact g5
          · rw [nx2, rE 14 kx (by omega) (by omega)]; exact g6
        · show Seg E (ex N' b n') (E.1 26 R) ([] ++ lvs x) (S1.1 26 R)
          rw [List.nil_append, rE 26 R (by omega) (by omega), g7]
          exact Sx
        · have CIx := PX_ci P' wx gA (by rw [hkx]; exact fxE.1) fxE.2.1 (Ag_ex N' M' L' b n' ρ' τ')
          show CI K pl V E (ex N' b n') p b pos (cls x ++ [])
          rw [List.append_nil]
          exact CI_wid CIx (Nat.le_refl _) (Nat.le_refl _) (fun k k1 k2 => absurd k1 (by omega)) (fun k k1 k2 => absurd k1 (by omega)) (Or.inl hpp)
        · rw [nx2, rE a0 k0 (by omega) (by omega)]; exact g3
        · rw [nx2, rE 8 kx (by omega) (by omega), g1.1 8 kx (by omega) (by omega) hk1 hk2 (Or.inr (by omega))]; exact ztT
        · rw [nx2, rE 20 kx (by omega) (by omega), g11]; exact ztB
        · show E.1 14 (ex N' b n' (rtk x)) = -1
          rw [nx2, rE 14 kx (by omega) (by omega)]; exact g6
        · have ht : t ∈ [rtk x] := ht
          rw [List.mem_singleton] at ht
          omega
end CARG
