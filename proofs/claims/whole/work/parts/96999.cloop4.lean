/-! the class's parser: a loop is done -/
section CLR
variable {K pl : Nat → Nat} {V : Nat → Int64} {m fu : Nat} {Q : Int32 → im_S → Prop} {S : im_S} {N M L : Nat → Nat} {pos dep sz n ρ τ f k R : Nat} {γ : List Nat}
set_option maxHeartbeats 8000000 in
theorem k_loop4 (T : TH K pl V m) (hfu : 600 ≤ fu) {Rr : Nat → PR} {p0 : Nat} (hRr : HXc K pl V m fu Rr dep p0) (hW : WR K Rr) (hR : R < ρ) (hTp : Tp S sz k R) (hk10 : 10 ≤ k) (hγ : ∀ b, b ∈ γ → b < pos) {A : im_S} {N3 M3 L3 : Nat → Nat} (hO : LoO K pl V m S N M L pos dep sz γ n ρ τ f R A N3 M3 L3) {D : im_S} {N1 M1 L1 : Nat → Nat} {n1 ρ1 τ1 b : Nat} {fs : TR} {B S' : im_S} {N' M' L' : Nat → Nat} {n' ρ' τ' c kc : Nat} {x : TR} {D2 : im_S} (wfs : LW K fs (pos + 1) b) (wfs' : Wt K fs (pos + 1) b 102) (wx : Wt K x (b + 1) c 0) (hD : LoD K pl V m S pos dep sz γ n ρ τ f R A N3 M3 L3 D N1 M1 L1 n1 ρ1 τ1 b fs B S' N' M' L' n' ρ' τ' c kc x D2) {f2 : Nat} (hf2 : eqN f2 (min (min (min f (pfc K pl V fs γ 102 [] [])) (pfc K pl V x (bnd fs γ) 0 [] [])) (ckX K pl V x 2))) {ns : TR} {D3 : im_S} {N5 M5 L5 : Nat → Nat} {n5 ρ5 τ5 d : Nat} {kv : Nat → Nat} {B4 : im_S} (wns : LW K ns (c + 1) d) (wns' : Wt K ns (c + 1) d 102) (hG : LoG K pl V m S pos dep sz γ n ρ τ f R D N1 n1 fs D2 (ex N' c n') (ex M' c ρ') (ex L' c τ') n' ρ' τ' c f2 ns D3 N5 M5 L5 n5 ρ5 τ5 d kv B4) (hp0 : p0 ≤ pos + 1) :
    (∀ e, Rr (d + 1) = (e, none) → Rf pl e Q → Lp m fu (d + 1) B4 Q) ∧ ∀ e g, Rr (d + 1) = (e, some g) → Kx K pl V m S N M L pos dep sz γ n ρ τ f R e (aLoop pos fs x ns g) (fun S' => FZ K m fu e sz S' Q) → Lp m fu (d + 1) B4 Q := by
  obtain ⟨CA, hAg3, A7, A10, ⟨n7, n21, n17, n19, n20, n14, n15, n12⟩, A26, A16, ⟨r0, r1, r2, s0, s1, s2⟩, Adp, ⟨eN0, eN1, eM0, eM1, eL0, eL1⟩⟩ := hO
  obtain ⟨⟨PP, CB, B7, B35, B36, B37, rB, rBl, hbm⟩, P', ⟨hkc, hk1, hk2, hρ', hτ'⟩, CD2, d7, d10, dFw, dn, d13, dl, d9, dp10, dr, dt, d26, hcm⟩ := hD
  obtain ⟨CD, y2, y3, y4, y5, y6, y7, y8, y9, y10, y11, y12, y13, y14, y15⟩ := PP
  obtain ⟨⟨CD3, x2, x3, x4, x5, x6, x7, x8, x9, x10, x11, x12⟩, CB4, b7, b35, b36, b37, hkv, rB4, rB4l, hB5, hdm⟩ := hG
  rw [List.nil_append] at y6 y7 y8
  have hm := T.m_
  have hsz1 := hTp.1
  have wl := LW_lt wfs
  have wln := LW_lt wns
  have hxp := Wt_lt wx
  have hxr := Wt_rt wx
  have hbd4 := CB4.1.bd
  have hpm4 := CB4.1.pm
  have hpl4 := T.pl_ hpm4
  have gB4 := CB4.2.1
  have hvar : ∀ j, j ∈ tks fs → n < N1 j ∧ N1 j < n1 ∧ pos + 1 ≤ j ∧ j < b := fun j hj => ⟨(y8 j hj).1.1, (y8 j hj).1.2.1, wl.2.2 j hj⟩
  have eNc : ∀ j, j ≤ b → ex N' c n' j = N1 j := fun j hj => by rw [ex_le (by omega), (P'.2.1 j (by omega)).1, ex_le (by omega)]
  have emap : (tks fs).map (ex N' c n') = (tks fs).map N1 := map_N (fun j hj => eNc j (by have := hvar j hj; omega))
  rw [emap] at x4
  obtain ⟨hN, hS⟩ := hRr B4 (ex N5 d n5) (ex M5 d ρ5) (ex L5 d τ5) (d + 1) (sz + 1) (bnd fs γ) n5 ρ5 τ5 _ 22 (ρ + 2) Q (by omega) ⟨Cz_base CB4, ⟨by omega, by rw [Nat.add_sub_cancel]; exact b35, by omega, by rw [Nat.add_sub_cancel]; exact b37⟩, by omega, by omega⟩ b7 (by omega)
  refine ⟨fun e he hRf => hN e he hRf, fun e g hg hK => hS e g hg (fun S5 N6 M6 L6 n6 ρ6 τ6 P5 => ?_)⟩
  obtain ⟨wg, -⟩ := hW _ _ _ hg
  have hgp := Wt_lt wg
  have hgr := Wt_rt wg
  have htg := tyx_lt K V g
  have C5 := P5.1
  have F5 := C5.2.2.2.2.2
  have Fn := F5.1
  have hb5 := C5.1.bd
  have hpm5 := C5.1.pm
  obtain ⟨-, -, nz1, nz2, nz3, nz4, hn6, hρ6, hτ6, -⟩ := PX_kw P5 wg gB4 (show ρ + 2 < ρ5 by omega) (by omega) (Fw_refl S5 n5 n6 ρ5 ρ6 τ6 _) (fun j _ => ⟨rfl, rfl, rfl⟩)
  obtain ⟨zt0, zt8, ztT, ztB, ztS⟩ := P5.2.2.1
  obtain ⟨kg, hkg⟩ : ∃ kg, N6 (rtk g) = kg := ⟨_, rfl⟩
  rw [hkg] at nz2 nz3 nz4 zt8 ztT ztB ztS
  have hkg5 : kg < 512 := by omega
  have c35 : S5.1 35 sz = nI 22 := by rw [F5.2.2.2.2.1 35 sz (by omega) (by omega) (by omega)]; exact b35
  have c36 : S5.1 36 sz = nI n := by rw [F5.2.2.2.2.1 36 sz (by omega) (by omega) (by omega)]; exact b36
  obtain ⟨E1, hE1⟩ : ∃ E1, E1 = uI (cnS (uI S5 34 3 (nI sz)) kg 7 (nI n) (-1)) 8 n (nI (tyk K (tv V) g)) := ⟨_, rfl⟩
  obtain ⟨E, hE⟩ : ∃ E, E = uI (uI E1 3 5 (nI γ.length)) 3 8 (nI n) := ⟨_, rfl⟩
  have rE1 : ∀ a j : Nat, (a ≠ 34 ∨ j ≠ 3) → (a ≠ 8 ∨ j ≠ n) → (j ≠ kg ∨ a < 9 ∨ 11 < a) → E1.1 a j = S5.1 a j := fun a j u1 u2 u3 => by rw [hE1, uI_ne (by omega), cn_ne (by omega), uI_ne (by omega)]
  have rE : ∀ a j : Nat, a ≠ 3 → (a ≠ 34 ∨ j ≠ 3) → (a ≠ 8 ∨ j ≠ n) → (j ≠ kg ∨ a < 9 ∨ 11 < a) → E.1 a j = S5.1 a j := fun a j u0 u1 u2 u3 => by rw [hE, uI_ne (by omega), uI_ne (by omega), rE1 a j u1 u2 u3]
  have rEl : E.2.1 = S5.2.1 := by rw [hE, hE1]; rfl
  have hlγ : (bnd fs γ).length = (tks fs).length + γ.length := by rw [bnd_eq, List.length_append, List.length_reverse]
  obtain ⟨f3, hf3⟩ : ∃ f3, eqN f3 (min (min f2 (pfc K pl V ns (bnd fs γ) 105 [] (tks fs))) (pfc K pl V g (bnd fs γ) 0 [] [])) := ⟨_, eqN_r _⟩
  have C6 : Cz K pl V m S n ρ τ sz γ.length R S5 N6 M6 L6 e dep (sz + 1) (bnd fs γ) n6 ρ6 τ6 (pl e) f3 := by
    rw [show f3 = _ from hf3]
    exact Cz_tr CB4.2.2.2.2.2 C5 (by omega) (by omega) (by omega) (by omega) (by omega) (Or.inr (by omega))
  have CE1 : Cz K pl V m S n ρ τ sz γ.length R E1 N6 M6 L6 e dep sz ((tks fs).reverse ++ γ) n6 ρ6 τ6 (pl e) f3 := by
    rw [hE1, ← bnd_eq]
    exact Cz_nd (Cz_cn (Cz_pop C6) 7 (nI n) (-1) (by omega)) (by omega) (Nat.le_refl _)
  have CE : Cz K pl V m S n ρ τ sz γ.length R E N6 M6 L6 e dep sz γ n6 ρ6 τ6 (pl e) f3 := by
    rw [hE]
    exact Cz_3 (Cz_fgt CE1) (by omega)
  -- ghosts
  have hA56 : Ag N5 M5 L5 N6 M6 L6 d := Ag_tr (Ag_ex N5 M5 L5 d n5 ρ5 τ5) P5.2.1 (by omega)
  have hA26 : Ag N' M' L' N6 M6 L6 c := Ag_tr (Ag_ex N' M' L' c n' ρ' τ') (Ag_tr x2 hA56 (by omega)) (by omega)
  have hA16 : Ag N1 M1 L1 N6 M6 L6 b := Ag_tr (Ag_ex N1 M1 L1 b n1 ρ1 τ1) (Ag_tr P'.2.1 hA26 (by omega)) (by omega)
  have hA36 : Ag N3 M3 L3 N6 M6 L6 (pos + 1) := Ag_tr y2 hA16 (by omega)
  have hA06 : Ag N M L N6 M6 L6 pos := Ag_tr hAg3 hA36 (by omega)
  have z0 : N6 pos = n := by rw [(hA36 pos (by omega)).1]; exact eN0
  have z1 : N6 (pos + 1) = n + 1 := by rw [(hA36 (pos + 1) (by omega)).1]; exact eN1
  have zM0 : M6 pos = ρ := by rw [(hA36 pos (by omega)).2.1]; exact eM0
  have zM1 : M6 (pos + 1) = ρ + 3 := by rw [(hA36 (pos + 1) (by omega)).2.1]; exact eM1
  have zL0 : L6 pos = τ := by rw [(hA36 pos (by omega)).2.2]; exact eL0
  have zL1 : L6 (pos + 1) = τ + 1 := by rw [(hA36 (pos + 1) (by omega)).2.2]; exact eL1
  have hN1p : N1 pos = n := by rw [(y2 pos (by omega)).1]; exact eN0
  have hN1p1 : N1 (pos + 1) = n + 1 := by rw [(y2 (pos + 1) (by omega)).1]; exact eN1
  have hM1p1 : M1 (pos + 1) = ρ + 3 := by rw [(y2 (pos + 1) (by omega)).2.1]; exact eM1
  have g1 := CD.2.1
  have g3 := CD3.2.1
  -- no exception
  have noX : ∀ a j : Nat, a ≠ 9 → a ≠ 17 → a ≠ 18 → ¬ ∃ i, i ∈ tks fs ∧ D3.1 13 (N1 i) ≠ -1 ∧ ((j = N1 i ∧ (a = 17 ∨ a = 18)) ∨ (a = 9 ∧ j = kv i)) := fun a j u1 u2 u3 ⟨i, _, _, h⟩ => by omega
  have noK : ∀ a j : Nat, (j ≤ n ∨ n1 ≤ j) → ¬ ∃ i, i ∈ tks fs ∧ D3.1 13 (N1 i) ≠ -1 ∧ ((j = N1 i ∧ (a = 17 ∨ a = 18)) ∨ (a = 9 ∧ j = kv i)) := fun a j u ⟨i, hi, _, h⟩ => by
    have := hvar i hi
    have := hkv i hi
    omega
  have noV : ∀ j : Nat, (j ≤ n ∨ n1 ≤ j) → ¬ j ∈ (tks fs).map N1 := fun j u hj => by
    obtain ⟨i, hi, e⟩ := List.mem_map.mp hj
    have := hvar i hi
    omega
  -- from D3 to E
  have E3 : ∀ a j : Nat, 7 ≤ a → a ≤ 20 → j < n5 → (a ≠ 8 ∨ j ≠ n) → (¬ ∃ i, i ∈ tks fs ∧ D3.1 13 (N1 i) ≠ -1 ∧ ((j = N1 i ∧ (a = 17 ∨ a = 18)) ∨ (a = 9 ∧ j = kv i))) → E.1 a j = D3.1 a j := fun a j u1 u2 u3 u4 u5 => by
    rw [rE a j (by omega) (by omega) u4 (by omega), Fn a j u1 u2 u3, rB4 a j (by omega) (by omega) (by omega) u5]
  have E3l : ∀ j : Nat, j < n5 → E.2.1 21 j = D3.2.1 21 j := fun j u => by rw [rEl, F5.2.1 j u, rB4l]
  have E3r : ∀ r : Nat, r < ρ5 → E.1 27 r = D3.1 27 r ∧ (r ≠ ρ + 2 → E.1 26 r = D3.1 26 r) := fun r u => by
    refine ⟨?_, fun hne => ?_⟩
    · rw [rE 27 r (by omega) (by omega) (by omega) (by omega), (F5.2.2.1 r u).1, rB4 27 r (by omega) (by omega) (by omega) (noX 27 r (by omega) (by omega) (by omega))]
    · rw [rE 26 r (by omega) (by omega) (by omega) (by omega), (F5.2.2.1 r u).2 hne, rB4 26 r (by omega) (by omega) (by omega) (noX 26 r (by omega) (by omega) (by omega))]
  have E3t : ∀ t : Nat, t < τ5 → E.1 29 t = D3.1 29 t := fun t u => by
    rw [rE 29 t (by omega) (by omega) (by omega) (by omega), F5.2.2.2.1 t u, rB4 29 t (by omega) (by omega) (by omega) (noX 29 t (by omega) (by omega) (by omega))]
  -- the loop's own node
  have En : ∀ a : Nat, 7 ≤ a → a ≤ 20 → a ≠ 8 → a ≠ 12 → a ≠ 13 → E.1 a n = A.1 a n := fun a u1 u2 u3 u4 u5 => by
    rw [E3 a n u1 u2 (by omega) (by omega) (noK a n (by omega)), x4.1 a n u1 u2 (Nat.le_refl _) (by omega) (Or.inr (noV n (by omega))), dn a n u1 u2 (by omega) (by omega), y4.1 a n u1 u2 (Nat.le_refl _) (by omega) (by omega)]
  have E12 : E.1 12 n = D.1 12 n := by rw [E3 12 n (by omega) (by omega) (by omega) (by omega) (noK 12 n (by omega)), x4.1 12 n (by omega) (by omega) (Nat.le_refl _) (by omega) (Or.inl (by omega)), dn 12 n (by omega) (by omega) (by omega) (by omega)]
  have E13 : E.1 13 n = nI kc := by rw [E3 13 n (by omega) (by omega) (by omega) (by omega) (noK 13 n (by omega)), x4.1 13 n (by omega) (by omega) (Nat.le_refl _) (by omega) (Or.inr (noV n (by omega)))]; exact d13
  have E8 : E.1 8 n = nI (tyk K (tv V) g) := by rw [hE, uI_ne (by omega), uI_ne (by omega), hE1, uI_eq]
  have E21 : E.2.1 21 n = 0 := by rw [E3l n (by omega), x4.2.1 n (Nat.le_refl _) (by omega), dl n (by omega), y4.2.1 n (Nat.le_refl _) (by omega)]; exact n21
  have r27 : ∀ r : Nat, r < ρ + 3 → E.1 27 r = A.1 27 r := fun r u => by rw [(E3r r (by omega)).1, (x4.2.2.1 r (by omega)).1, (dr r (by omega)).1, (y4.2.2.1 r u).1]
  have r29 : ∀ t : Nat, t < τ + 1 → E.1 29 t = A.1 29 t := fun t u => by rw [E3t t (by omega), x4.2.2.2 t (by omega), dt t (by omega), y4.2.2.2 t u]
  have c26a : E.1 26 ρ = S'.1 26 ρ := by rw [(E3r ρ (by omega)).2 (by omega), (x4.2.2.1 ρ (by omega)).2 (by omega)]; exact d26
  have c26b : E.1 26 (ρ + 1) = D3.1 26 (ρ + 1) := (E3r (ρ + 1) (by omega)).2 (by omega)
  have c26c : E.1 26 (ρ + 2) = S5.1 26 (ρ + 2) := rE 26 (ρ + 2) (by omega) (by omega) (by omega) (by omega)
  have c26R : E.1 26 R = D.1 26 R := by rw [(E3r R (by omega)).2 (by omega), (x4.2.2.1 R (by omega)).2 (by omega), (dr R (by omega)).2 (by omega)]
  have b26a : B.1 26 ρ = -1 := by rw [rB 26 ρ (by omega) (by omega) (by omega), (y4.2.2.1 ρ (by omega)).2 (by omega)]; exact s0
  have b26b : D2.1 26 (ρ + 1) = -1 := by rw [(dr (ρ + 1) (by omega)).2 (by omega), (y4.2.2.1 (ρ + 1) (by omega)).2 (by omega)]; exact s1
  have b26c : B4.1 26 (ρ + 2) = -1 := by rw [rB4 26 (ρ + 2) (by omega) (by omega) (by omega) (noX 26 (ρ + 2) (by omega) (by omega) (by omega)), (x4.2.2.1 (ρ + 2) (by omega)).2 (by omega), (dr (ρ + 2) (by omega)).2 (by omega), (y4.2.2.1 (ρ + 2) (by omega)).2 (by omega)]; exact s2
  have heb : f_X7_endByItself fu S5 = some ((), E) := by
    unfold f_X7_endByItself
    rw [c_topK C5.1.sz_ (by omega), c35]
    simp only [Option.bind_some]
    rw [c_pop C5.1.sz_ (by omega), c36]
    simp only [Option.bind_some]
    rw [if_neg (show ¬ nI 22 = (15 : Int32) by decide), if_neg (show ¬ nI 22 = (18 : Int32) by decide), if_pos (show nI 22 = (22 : Int32) from rfl)]
    have c38 : (uI S5 34 3 (nI sz)).1 3 8 = nI kg := by rw [uI_ne (by omega)]; exact zt8
    rw [c38, c_conn hkg5]
    have c38' : (cnS (uI S5 34 3 (nI sz)) kg 7 (nI n) (-1)).1 3 8 = nI kg := by rw [cn_ne (by omega)]; exact c38
    have c8 : (cnS (uI S5 34 3 (nI sz)) kg 7 (nI n) (-1)).1 8 kg = nI (tyk K (tv V) g) := by rw [cn_ne (by omega), uI_ne (by omega)]; exact ztT
    have c12 : (cnS (uI S5 34 3 (nI sz)) kg 7 (nI n) (-1)).1 12 n = E1.1 12 n := by rw [hE1, uI_ne (by omega)]
    simp only [Option.bind_some, c38', mI_in (a := n) (n := 512) (by omega) (by omega), nI_clamp (show n < 2 ^ 31 by omega), mI_in (a := kg) (n := 512) (by omega) hkg5, nI_clamp (show kg < 2 ^ 31 by omega), gd_t, c8, c12]
    rw [← hE1]
    have chE : Chn E1 (E1.1 12 n) ((tks fs).map N1) := by
      have e1 : E1.1 12 n = D.1 12 n := by rw [← E12, hE, uI_ne (by omega), uI_ne (by omega)]
      rw [e1]
      refine Chn_cp _ _ (fun j hj => ?_) y6
      obtain ⟨i, hi, ei⟩ := List.mem_map.mp hj
      have hv := hvar i hi
      have e2 : E1.1 14 j = E.1 14 j := by rw [hE, uI_ne (by omega), uI_ne (by omega)]
      rw [e2, E3 14 j (by omega) (by omega) (by omega) (by omega) (noX 14 j (by omega) (by omega) (by omega)), x4.1 14 j (by omega) (by omega) (by omega) (by omega) (Or.inl (by omega)), dn 14 j (by omega) (by omega) (by omega) (by omega)]
    rw [c_len chE (by rw [List.length_map]; omega) hfu, List.length_map]
    simp only [Option.bind_some]
    unfold f_X7_forget
    have c35' : E1.1 3 5 = nI ((tks fs).length + γ.length) := by
      rw [rE1 3 5 (by omega) (by omega) (by omega), ← hlγ]
      exact C5.1.kn
    simp only [Option.bind_some, c35']
    rw [show nI ((tks fs).length + γ.length) - nI (tks fs).length = nI γ.length by rw [nI_sub (by omega), Nat.add_sub_cancel_left], hE]
  refine FZ_end hfu C5.1.sz_ (by omega) c35 (by omega) heb (by omega) ?_
  have E34 := CE.1.sz_
  have hTpE := Tp_Fr CE.2.2.2.2.2 hTp
  -- the condition
  have fxE : Fw S' E n1 n' ρ1 ρ' τ' kc := by
    have f1 := Fw_FN dFw x4 (by omega) (Nat.le_refl _) (Nat.le_refl _) (Nat.le_refl _) (fun j hj => by
      obtain ⟨i, hi, ei⟩ := List.mem_map.mp hj
      have := hvar i hi
      omega) (show ρ + 1 < ρ1 by omega)
    refine ⟨fun a j u1 u2 u0 u3 u4 => ?_, fun j u0 u3 => ?_, fun r hr => ⟨?_, fun hr2 => ?_⟩, fun t ht => ?_⟩
    · rw [E3 a j u1 u2 (by omega) (by omega) (noK a j (by omega))]; exact f1.1 a j u1 u2 u0 u3 u4
    · rw [E3l j (by omega)]; exact f1.2.1 j u0 u3
    · rw [(E3r r (by omega)).1]; exact (f1.2.2.1 r hr).1
    · rw [(E3r r (by omega)).2 (by omega)]; exact (f1.2.2.1 r hr).2 hr2
    · rw [E3t t (by omega)]; exact f1.2.2.2 t ht
  have gB := CB.2.1
  obtain ⟨Gx, Sx, nx1, nx2, -⟩ := PX_kw P' wx gB (show ρ < ρ1 by omega) (by omega) (by rw [hkc]; exact fxE) hA26
  rw [hkc] at nx2
  -- what give gives
  have fgE : Fw S5 E n5 n6 ρ5 ρ6 τ6 kg := by
    rw [hE, hE1]
    exact Fw_uI (Fw_uI (Fw_uI (Fw_cn (Fw_uI (Fw_refl S5 n5 n6 ρ5 ρ6 τ6 kg) (by omega)) (Or.inl rfl)) (by omega)) (by omega)) (by omega)
  obtain ⟨Gg, Sg, ng1, -, -⟩ := PX_kw P5 wg gB4 (show ρ + 2 < ρ5 by omega) (by omega) (by rw [hkg]; exact fgE) (fun j _ => ⟨rfl, rfl, rfl⟩)
  have kg9 : E.1 9 kg = 7 ∧ E.1 10 kg = nI n := by
    obtain ⟨c9, c10, -⟩ := cn_f (uI S5 34 3 (nI sz)) kg 7 (nI n) (-1)
    rw [hE, uI_ne (by omega), uI_ne (by omega), uI_ne (by omega), uI_ne (by omega), hE1, uI_ne (by omega), uI_ne (by omega)]
    exact ⟨c9, c10⟩
  have kcE : ∀ a : Nat, 9 ≤ a → a ≤ 10 → E.1 a kc = D2.1 a kc := fun a u1 u2 => by
    rw [E3 a kc (by omega) (by omega) (by omega) (by omega) (noK a kc (by omega)), x4.1 a kc (by omega) (by omega) (by omega) (by omega) (Or.inl (by omega))]
  -- the next values
  have fnE : Fw D3 E (N5 (c + 1)) (N5 d) (M5 (c + 1)) (M5 d) (L5 d) (N5 d) := by
    have q1 : N5 (c + 1) = n' := by rw [(x2 (c + 1) (Nat.le_refl _)).1, ex_gt (by omega)]
    have q2 : M5 (c + 1) = ρ' := by rw [(x2 (c + 1) (Nat.le_refl _)).2.1, ex_gt (by omega)]
    rw [q1, q2, g3.1, g3.2.1, g3.2.2.1]
    refine ⟨fun a j u1 u2 u0 u3 u4 => E3 a j u1 u2 (by omega) (by omega) (noK a j (by omega)), fun j u0 u3 => E3l j (by omega), fun r hr => ⟨(E3r r (by omega)).1, fun hr2 => (E3r r (by omega)).2 (by omega)⟩, fun t ht => E3t t (by omega)⟩
  have hBn := Sb_Fw fnE
  have hγ' : ∀ i, i ∈ bnd fs γ → i < c + 1 := fun i hi => by
    rcases bnd_in wfs' γ i hi with z | z
    · have := hγ i z; omega
    · omega
  have Gn : 4000 ≤ pfc K pl V ns (bnd fs γ) 105 [] (tks fs) → G K pl V E N6 M6 L6 ns (bnd fs γ) (ρ + 1) 105 pos .nil (tks fs) := fun hz => by
    have q2 : M5 (c + 1) = ρ' := by rw [(x2 (c + 1) (Nat.le_refl _)).2.1, ex_gt (by omega)]
    exact G_st0 (tsz ns) ns (c + 1) d 102 (Nat.le_refl _) wns' (N5 d) (bnd fs γ) (ρ + 1) 105 pos .nil (tks fs) g3.2.2.2.1 hA56 hBn (Or.inr (Or.inl (Nat.le_refl _))) hγ' (by omega) (by omega) (fun i hi => by have := hvar i hi; omega) (x6 hz)
  have Sn : Seg E N6 (E.1 26 (ρ + 1)) (lvs ns) (-1) := by
    rw [c26b, ← b26b]
    exact Seg_st hBn g3.2.2.2.1 hA56 (lvs ns) _ _ (lvs_in wns') x7
  -- the first values
  have bdD : ∀ i, i ∈ tks fs → (D3.1 13 (N1 i) ≠ -1 → ∃ p', p' ∈ (tks ns).reverse ++ [] ∧ fnd V (tks fs) p' = some i) ∧ ((∃ p', p' ∈ (tks ns).reverse ++ [] ∧ fnd V (tks fs) p' = some i) → D3.1 13 (N1 i) = nI n) ∧ ((¬ ∃ p', p' ∈ (tks ns).reverse ++ [] ∧ fnd V (tks fs) p' = some i) → D3.1 13 (N1 i) = -1) := fun i hi => by
    obtain ⟨q1, q2, q3, q4, q5, q6, q7, q8, q9⟩ := x5 i hi
    rw [(hkv i hi).2.2.2] at q8 q9
    exact ⟨fun h => Classical.byContradiction (fun z => h (q9 z)), q8, q9⟩
  have nn1 : n < 512 := by omega
  have Gf : 4000 ≤ pfc K pl V fs γ 102 [] [] → G K pl V E N6 M6 L6 fs γ R 102 pos ns [] := fun hz => by
    have hnd := (pfc_nd (V := V) (γ := γ) (fun j hj => T.pl_ hj) wfs (show b ≤ m by omega) [] hz).1
    refine G_fs (l := tks fs) (kv := kv) (Bd := fun i => ∃ p', p' ∈ (tks ns).reverse ++ [] ∧ fnd V (tks fs) p' = some i) (e0 := b) g1.2.2.2.1 hA16 ?_ ?_ ?_ ?_ (fun i hi => ⟨(hkv i hi).1, by have := hkv i hi; omega⟩) ?_ ?_ (fun i hi => by have := hγ i hi; omega) (by rw [hM1p1]; omega) (by rw [g1.1]; omega) (by rw [hN1p, hN1p1]; omega) wfs [] rfl (by omega) (Nat.le_refl _) (fun i hi => absurd hi List.not_mem_nil) (y9 hz)
    · intro a j u1 u2 u3 u4 u5 u6
      rw [hN1p] at u3 u5
      rw [g1.1] at u4
      rw [E3 a j u1 u2 (by omega) (by omega) (fun ⟨i, hi, hi2, hi3⟩ => u6 ⟨i, hi, (bdD i hi).1 hi2, by omega⟩)]
      by_cases hv : a = 13 ∧ j ∈ (tks fs).map N1
      · obtain ⟨ha, hj⟩ := hv
        obtain ⟨i, hi, ei⟩ := List.mem_map.mp hj
        have hnb : ¬ ∃ p', p' ∈ (tks ns).reverse ++ [] ∧ fnd V (tks fs) p' = some i := fun z => u6 ⟨i, hi, z, Or.inl ⟨ei.symm, Or.inl ha⟩⟩
        rw [ha, ← ei, (bdD i hi).2.2 hnb]
        exact ((y8 i hi).1.2.2.2.2.2.2.2.1).symm
      · rw [x4.1 a j u1 u2 u3 (by omega) (by
          by_cases ha : a = 13
          · exact Or.inr (fun z => hv ⟨ha, z⟩)
          · exact Or.inl ha), dn a j u1 u2 u4 (by omega)]
    · intro j u3 u4
      rw [hN1p] at u3
      rw [g1.1] at u4
      rw [E3l j (by omega), x4.2.1 j u3 (by omega), dl j u4]
    · intro r hr
      rw [g1.2.1] at hr
      rw [hM1p1]
      refine ⟨?_, fun hr2 => ?_⟩
      · rw [(E3r r (by omega)).1, (x4.2.2.1 r (by omega)).1, (dr r hr).1]
      · rw [(E3r r (by omega)).2 (by omega), (x4.2.2.1 r (by omega)).2 (by omega), (dr r hr).2 (by omega)]
    · intro t ht
      rw [g1.2.2.1] at ht
      rw [E3t t (by omega), x4.2.2.2 t (by omega), dt t ht]
    · intro i hi hbd
      have hv := hvar i hi
      have hk := hkv i hi
      have h13 := (bdD i hi).2.1 hbd
      have hne : D3.1 13 (N1 i) ≠ -1 := by rw [h13]; exact nI_m1' nn1
      obtain ⟨q1, q2⟩ := hB5 i hi hne
      refine ⟨?_, ?_, ?_⟩
      · rw [z0, E3 13 (N1 i) (by omega) (by omega) (by omega) (by omega) (noX 13 _ (by omega) (by omega) (by omega))]; exact h13
      · rw [rE 9 (kv i) (by omega) (by omega) (by omega) (by omega), Fn 9 (kv i) (by omega) (by omega) (by omega)]; exact q2
      · rw [zL0, rE 17 (N1 i) (by omega) (by omega) (by omega) (by omega), Fn 17 (N1 i) (by omega) (by omega) (by omega)]; exact q1
    · intro i hi
      rw [fnd_some_iff]
      refine ⟨fun ⟨p', h1, h2⟩ => ⟨p', by rw [List.append_nil]; exact List.mem_reverse.mpr h1, ?_⟩, fun ⟨p', h1, h2⟩ => ⟨p', by rw [List.append_nil] at h1; exact List.mem_reverse.mp h1, (fnd_V _ _ _ h2).symm⟩⟩
      have hs : (fnd V (tks fs) p').isSome = true := (fnd_some_iff (tks fs) p').mpr ⟨i, hi, h2.symm⟩
      rcases hq : fnd V (tks fs) p' with _ | j
      · rw [hq] at hs; exact absurd hs (by decide)
      · have := hnd j (fnd_in _ _ _ hq) i hi (by rw [fnd_V _ _ _ hq]; exact h2)
        rw [this]
  have Sf : Seg E N6 (E.1 26 R) (lvs fs ++ [pos]) (S.1 26 R) := by
    rw [c26R]
    have hseg : Seg E N6 (D.1 26 R) (lvs fs) (A.1 26 R) := by
      refine Seg_cp (lvs fs) _ _ (fun i hi hlt => ?_) y10
      have hi2 := lvs_in wfs' i hi
      have m1 := (g1.2.2.2.1 (pos + 1) i (by omega) (by omega)).1
      have m2 := (g1.2.2.2.1 (i + 1) b (by omega) (Nat.le_refl _)).1
      have m3 := (g1.2.2.2.1 i b (by omega) (Nat.le_refl _)).1
      rw [g1.1] at m2 m3
      rw [hN1p1] at m1
      refine ⟨(hA16 i (by omega)).1, (hA16 (i + 1) (by omega)).1, ?_⟩
      rw [E3 16 (N1 i) (by omega) (by omega) (by omega) (by omega) (noX 16 _ (by omega) (by omega) (by omega)), x4.1 16 (N1 i) (by omega) (by omega) (by omega) (by omega) (Or.inl (by omega)), dn 16 (N1 i) (by omega) (by omega) (by omega) (by omega)]
    refine Seg_app _ _ _ _ _ hseg ?_
    rw [A26]
    refine ⟨by rw [z0], by omega, ?_⟩
    show E.1 16 (N6 pos) = S.1 26 R
    rw [z0, En 16 (by omega) (by omega) (by omega) (by omega) (by omega)]
    exact A16
  have PE : PX K pl V m S N M L pos dep sz γ n ρ τ f R E N6 M6 L6 n6 ρ6 τ6 e (aLoop pos fs x ns g) := by
    refine ⟨?_, hA06, ⟨?_, ?_, ?_, ?_, ?_⟩, fun hz => ?_, Sf, ?_⟩
    · have hmin : f3 = min f (pfc K pl V (aLoop pos fs x ns g) γ 0 [] []) := by
        rw [pfc_loop, show f3 = _ from hf3, show f2 = _ from hf2]
        simp only [Nat.min_assoc]
      rw [← hmin]
      exact CE
    · show N6 pos < N6 (pos + 1); omega
    · show E.1 3 8 = nI (N6 pos); rw [z0, hE, uI_eq]
    · show E.1 8 (N6 pos) = nI (tyk K (tv V) g); rw [z0]; exact E8
    · show E.1 20 (N6 pos) = nI (pl pos); rw [z0, En 20 (by omega) (by omega) (by omega) (by omega) (by omega)]; exact n20
    · show E.1 14 (N6 pos) = -1; rw [z0, En 14 (by omega) (by omega) (by omega) (by omega) (by omega)]; exact n14
    · rw [pfc_loop] at hz
      simp only [Nat.le_min] at hz
      obtain ⟨hz1, hz2, -, hz3, hz4⟩ := hz
      rw [G_loop]
      refine ⟨⟨by omega, ?_, ?_, ?_, ?_, ?_⟩, ?_, ?_, ⟨nx1, ?_, ?_⟩, ⟨ng1, ?_, ?_⟩, by omega, by omega, ?_, ?_, ?_, ?_, ?_, ?_, ?_, ?_, Gf hz1, ?_, ?_, ?_⟩
      · rw [z0, En 7 (by omega) (by omega) (by omega) (by omega) (by omega)]; exact n7
      · rw [z0]; exact E8
      · rw [z0]; exact E21
      · rw [z0, En 17 (by omega) (by omega) (by omega) (by omega) (by omega), r27 R (by omega)]; exact n17
      · rw [z0, En 19 (by omega) (by omega) (by omega) (by omega) (by omega)]; exact n19
      · rw [z0, E12, y5]
        exact ((hd_ag wfs' (fun j hj => (hA16 j hj).1)).2).symm
      · rw [z0, nx2]; exact E13
      · rw [nx2, kcE 9 (by omega) (by omega)]; exact d9
      · rw [nx2, z0, kcE 10 (by omega) (by omega)]; exact dp10
      · rw [hkg]; exact kg9.1
      · rw [hkg, z0]; exact kg9.2
      · rw [z0, zM0, En 15 (by omega) (by omega) (by omega) (by omega) (by omega)]; exact n15
      · rw [zM0, zL0, r27 ρ (by omega)]; exact r0
      · rw [zM0, zL0, r27 (ρ + 1) (by omega)]; exact r1
      · rw [zM0, zL0, r27 (ρ + 2) (by omega)]; exact r2
      · rw [zL0]
        obtain ⟨T0, d0, q1, q2, q3, q4⟩ := Adp
        exact ⟨T0, d0, q1, by rw [r27 R (by omega)]; exact q2, by rw [r29 T0 (by omega)]; exact q3, by rw [r29 τ (by omega)]; exact q4⟩
      · rw [zM0, c26a, ← b26a]; exact Sx
      · rw [zM0]; exact Sn
      · rw [zM0, c26c, ← b26c]; exact Sg
      · rw [zM0]; exact Gx hz2
      · rw [zM0]; exact Gn hz3
      · rw [zM0]; exact Gg hz4
    · have CIx := PX_ci P' wx gB (by rw [hkc]; exact fxE.1) fxE.2.1 hA26
      have CIg := PX_ci P5 wg gB4 (by rw [hkg]; exact fgE.1) fgE.2.1 (fun j _ => ⟨rfl, rfl, rfl⟩)
      have CIf : CI K pl V E N6 (pos + 1) b pos (cls fs) := by
        refine CI_cp y14 (fun i j h1 h2 => (g1.2.2.2.1 i j h1 h2).1) (fun j hj => (hA16 j hj).1) (by omega) (fun a k u1 u2 u3 => ?_) (fun k u2 u3 => ?_) (fun a t u1 u2 u3 u4 u5 => ?_)
        · rw [hN1p1] at u2
          rw [g1.1] at u3
          rw [E3 a k (by omega) (by omega) (by omega) (by omega) (noX a k (by omega) (by omega) (by omega)), x4.1 a k (by omega) (by omega) (by omega) (by omega) (Or.inl (by omega)), dn a k (by omega) (by omega) (by omega) (by omega)]
        · rw [hN1p1] at u2
          rw [g1.1] at u3
          rw [E3l k (by omega), x4.2.1 k (by omega) (by omega), dl k (by omega)]
        · have m1 := (g1.2.2.2.1 (pos + 1) t u2 (by omega)).1
          have m2 := (g1.2.2.2.1 (t + 1) b (by omega) (Nat.le_refl _)).1
          rw [hN1p1] at m1
          rw [g1.1] at m2
          rw [E3 a (N1 t) (by omega) (by omega) (by omega) (by omega) (noX a _ (by omega) (by omega) (by omega)), x4.1 a (N1 t) (by omega) (by omega) (by omega) (by omega) (Or.inl (by omega)), dn a (N1 t) (by omega) (by omega) (by omega) (by omega)]
      have q1 : N5 (c + 1) = n' := by rw [(x2 (c + 1) (Nat.le_refl _)).1, ex_gt (by omega)]
      have CIn : CI K pl V E N6 (c + 1) d pos (cls ns) := by
        refine CI_cp x11 (fun i j h1 h2 => (g3.2.2.2.1 i j h1 h2).1) (fun j hj => (hA56 j hj).1) (by omega) (fun a k u1 u2 u3 => ?_) (fun k u2 u3 => ?_) (fun a t u1 u2 u3 u4 u5 => ?_)
        · rw [q1] at u2
          rw [g3.1] at u3
          exact E3 a k (by omega) (by omega) (by omega) (by omega) (noX a k (by omega) (by omega) (by omega))
        · rw [g3.1] at u3
          exact E3l k (by omega)
        · have m1 := (g3.2.2.2.1 (c + 1) t u2 (by omega)).1
          have m2 := (g3.2.2.2.1 (t + 1) d (by omega) (Nat.le_refl _)).1
          rw [q1] at m1
          rw [g3.1] at m2
          exact E3 a (N5 t) (by omega) (by omega) (by omega) (by omega) (noX a _ (by omega) (by omega) (by omega))
      show CI K pl V E N6 pos e pos (cls fs ++ (cls x ++ (cls ns ++ cls g)))
      have nb : N6 b = n1 := by rw [(hA16 b (Nat.le_refl _)).1]; exact g1.1
      have nb1 : N6 (b + 1) = n1 := by rw [(hA26 (b + 1) (by omega)).1, (P'.2.1 (b + 1) (Nat.le_refl _)).1, ex_gt (by omega)]
      have nc : N6 c = n' := by rw [(hA26 c (Nat.le_refl _)).1]; exact P'.1.2.1.1
      have nc1 : N6 (c + 1) = n' := by rw [(hA56 (c + 1) (by omega)).1]; exact q1
      have nd5 : N6 d = n5 := by rw [(hA56 d (Nat.le_refl _)).1]; exact g3.1
      have nd1 : N6 (d + 1) = n5 := by rw [(P5.2.1 (d + 1) (Nat.le_refl _)).1, ex_gt (by omega)]
      have h1 := CI_seq (t0 := pos) CIn CIg (by omega) (by omega) (by omega) (fun k k1 k2 => by rw [nd5] at k1; rw [nd1] at k2; omega) (Or.inl (by omega))
      have h2 := CI_seq (t0 := pos) CIx h1 (by omega) (by omega) (by omega) (fun k k1 k2 => by rw [nc] at k1; rw [nc1] at k2; omega) (Or.inl (by omega))
      have h3 := CI_seq (t0 := pos) CIf h2 (by omega) (by omega) (by omega) (fun k k1 k2 => by rw [nb] at k1; rw [nb1] at k2; omega) (Or.inl (by omega))
      refine CI_wid h3 (by omega) (Nat.le_refl _) (fun k k1 k2 => ?_) (fun k k1 k2 => absurd k1 (by omega)) (Or.inr (Or.inr rfl))
      rw [z0] at k1
      rw [z1] at k2
      have : k = n := by omega
      rw [this, En 7 (by omega) (by omega) (by omega) (by omega) (by omega), n7]; exact k8 (by omega) (by omega)
  have hfz := hK E N6 M6 L6 n6 ρ6 τ6 PE
  have q2 := hTpE.2.1
  obtain ⟨sz', hsz'⟩ : ∃ z, sz = z + 1 := ⟨sz - 1, by omega⟩
  rw [hsz'] at E34 q2 hfz ⊢
  exact Fl_Z hfu E34 (by omega) q2 hTpE.2.2.1 (by omega) (Or.inl rfl) hfz
end CLR
