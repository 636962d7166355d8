/-! (out of the old part 52 by wip/whole/mk75.py) the law from its entry to its loop: what the start gives, the two objects, the row for answers. Written out by wip/whole/mk52.py -/
def tw_cd : Cond → Bool
  | .castable .. => true
  | .declares .. => true
  | _ => false
theorem tw_cdA : ∀ w ∈ im_tw, tw_cd w = true := by decide +kernel
theorem tw_in : ∀ w ∈ im_tw, w ∈ lw_tbl := by decide +kernel
theorem Nw_warm {w : Cond} (h : tw_cd w = true) {s U : State} (hW : s.WarmedH U.vm) (hZ : va_Nw w s) : va_Nw w U := by
  cases w with
  | castable C T => exact va_Nw.warmC hW hZ
  | declares y => exact va_Nw.warmD hW hZ
  | _ => cases h
theorem nw_0 : Cond.methodLinkNest RX10 19 yX7_init "TagFlow" ∈ lw_tbl := by decide +kernel
theorem nw_1 : Cond.methodLinkNest RX7 11 yX1_init "TagFlow" ∈ lw_tbl := by decide +kernel
theorem nw_2 : Cond.methodLinkNest RX7 20 yX3_init "TagFlow" ∈ lw_tbl := by decide +kernel
theorem nw_3 : Cond.methodLinkNest RX3 11 yX4_init "TagFlow" ∈ lw_tbl := by decide +kernel
theorem nw_4 : Cond.methodLinkNest RX7 27 yX9_init "TagFlow" ∈ lw_tbl := by decide +kernel
theorem nw_5 : Cond.methodLinkNest RX7 34 yX6_init "TagFlow" ∈ lw_tbl := by decide +kernel
theorem nw_6 : Cond.methodLinkNest RX10 26 yX5_init "TagFlow" ∈ lw_tbl := by decide +kernel
theorem nw_7 : Cond.methodLinkNest RX5 11 yX3_init "TagFlow" ∈ lw_tbl := by decide +kernel
theorem nw_8 : Cond.methodLinkNest RX5 20 yX8_init "TagFlow" ∈ lw_tbl := by decide +kernel
theorem nw_9 : Cond.methodLinkNest RX5 27 yX2_init "TagFlow" ∈ lw_tbl := by decide +kernel
theorem nw_10 : Cond.methodLinkNest RX5 34 yX0_init "TagFlow" ∈ lw_tbl := by decide +kernel
theorem zs_start (g : im_G) {args : Array Value} {s : State} (hg : g.2.2.1 = s.heap) (hts : ∀ w ∈ lw_tbl, w.before args s = true) (hgv : (Jvm.Cond.and given_1 narrow_1).before args s = true) : ∀ V : State, s.WarmedH V.vm → im_Zs g V := by
  intro V hW
  have hs := flat_of_before _ hgv
  have hA : ∀ a : Nat, a < s.heap.size → ¬ im_A g a := fun a ha h => by unfold im_A at h; rw [hg] at h; omega
  refine ⟨⟨va_Nw.warmM hW (va_Nw.of rfl (hts _ nw_0)), va_Nw.warmM hW (va_Nw.of rfl (hts _ nw_1)), va_Nw.warmM hW (va_Nw.of rfl (hts _ nw_2)), va_Nw.warmM hW (va_Nw.of rfl (hts _ nw_3)), va_Nw.warmM hW (va_Nw.of rfl (hts _ nw_4)), va_Nw.warmM hW (va_Nw.of rfl (hts _ nw_5)), va_Nw.warmM hW (va_Nw.of rfl (hts _ nw_6)), va_Nw.warmM hW (va_Nw.of rfl (hts _ nw_7)), va_Nw.warmM hW (va_Nw.of rfl (hts _ nw_8)), va_Nw.warmM hW (va_Nw.of rfl (hts _ nw_9)), va_Nw.warmM hW (va_Nw.of rfl (hts _ nw_10))⟩, fun w hw => Nw_warm (tw_cdA w hw) hW (va_Nw.of (tw_onA w hw) (hts w (tw_in w hw))), ?_, ?_, ?_, ?_, ?_⟩
  · rw [hg]; exact vx_Zq.moved hW.alike (vx_Zqof (hts _ (by decide +kernel)) (hts _ (by decide +kernel)) (hs _ (by decide +kernel)) hA)
  · rw [hg]; exact vx_Zq.moved hW.alike (vx_Zqof (hts _ (by decide +kernel)) (hts _ (by decide +kernel)) (hs _ (by decide +kernel)) hA)
  · exact va_Nc.moved hW.alike (va_Nc.of (hs _ (by decide +kernel)))
  · exact va_Nc.moved hW.alike (va_Nc.of (hs _ (by decide +kernel)))
  · exact va_Nc.moved hW.alike (va_Nc.of (hs _ (by decide +kernel)))
theorem inJ0w : ∀ w ∈ u_ws RJ0 TJ0 4, w ∈ lw_tbl := by decide +kernel
theorem inJ4w : ∀ w ∈ u_ws RJ4 TJ4 4, w ∈ lw_tbl := by decide +kernel
set_option maxHeartbeats 4000000 in
set_option maxRecDepth 100000 in
theorem law_begin {p : Program} {e : Env} {s : State} {m : MethodId} {below : List Frame} {meth : Method} {c : Code} (l : Launch) (hlT : l.stackTraces = false) {b L : Nat} {xs : Nat → Int32} (hL : L ≤ 5120) (C0 : lw_At p s m meth c b L xs) (fu n : Nat) (hgd : lw_good fu n S0) (hn : L < 10 * n + 10) (hn2 : n ≤ 512) : W p l e room_1 s m #[Value.ref b] below meth c s.heap [] 0 0 (lw_Z below #[Value.ref b] s) (entryFrame m ([Value.ref b] : List Value).toArray 8) := by
  obtain ⟨hx, hb, hr, hml, hown, hts, hX, hbl, hlocks, hgv⟩ := id C0
  have hal : ∀ w ∈ al_W, w.before #[Value.ref b] s = true := fun w hw => hts w (List.mem_filter.mp hw).1
  obtain ⟨k0, i0, hk0⟩ := u_known (C := RJ0) (T := TJ0) (N := 4) (n := 4) hts inJ0w (hal _ wt_J0)
  obtain ⟨k1, i1, hk1⟩ := u_known (C := RJ4) (T := TJ4) (N := 4) (n := 4) hts inJ4w (hal _ wt_J4)
  obtain ⟨k2, i2, hk2⟩ := u_known (C := RX0) (T := TX0) (N := 4) (n := 4) hal wx_X0 (hal _ wt_X0)
  obtain ⟨k3, i3, hk3⟩ := u_known (C := RX1) (T := TX1) (N := 2) (n := 2) hal wx_X1 (hal _ wt_X1)
  obtain ⟨k4, i4, hk4⟩ := u_known (C := RX2) (T := TX2) (N := 5) (n := 5) hal wx_X2 (hal _ wt_X2)
  obtain ⟨k5, i5, hk5⟩ := u_known (C := RX3) (T := TX3) (N := 17) (n := 17) hal wx_X3 (hal _ wt_X3)
  obtain ⟨k6, i6, hk6⟩ := u_known (C := RX4) (T := TX4) (N := 10) (n := 10) hal wx_X4 (hal _ wt_X4)
  obtain ⟨k7, i7, hk7⟩ := u_known (C := RX5) (T := TX5) (N := 16) (n := 16) hal wx_X5 (hal _ wt_X5)
  obtain ⟨k8, i8, hk8⟩ := u_known (C := RX6) (T := TX6) (N := 4) (n := 4) hal wx_X6 (hal _ wt_X6)
  obtain ⟨k9, i9, hk9⟩ := u_known (C := RX7) (T := TX7) (N := 11) (n := 11) hal wx_X7 (hal _ wt_X7)
  obtain ⟨k10, i10, hk10⟩ := u_known (C := RX8) (T := TX8) (N := 3) (n := 3) hal wx_X8 (hal _ wt_X8)
  obtain ⟨k11, i11, hk11⟩ := u_known (C := RX9) (T := TX9) (N := 4) (n := 4) hal wx_X9 (hal _ wt_X9)
  obtain ⟨k12, i12, hk12⟩ := u_known (C := RX10) (T := TX10) (N := 7) (n := 7) hal wx_X10 (hal _ wt_X10)
  obtain ⟨k13, i13, hk13⟩ := u_known (C := RX11) (T := TX11) (N := 83) (n := 83) hal wx_X11 (hal _ wt_X11)
  obtain ⟨dC, dI, hKc⟩ : ∃ (dC : Nat → ClassId) (dI : Nat → Nat → Nat), ∀ (k : Nat) (q : vw_C), vwCl[k]? = some q → u_Kn s q.1 q.2.1 q.2.2 (dC k) (dI k) := by
    refine ⟨fun k => match k with | 0 => k0 | 1 => k1 | 2 => k2 | 3 => k3 | 4 => k4 | 5 => k5 | 6 => k6 | 7 => k7 | 8 => k8 | 9 => k9 | 10 => k10 | 11 => k11 | 12 => k12 | 13 => k13 | _ => k0, fun k => match k with | 0 => i0 | 1 => i1 | 2 => i2 | 3 => i3 | 4 => i4 | 5 => i5 | 6 => i6 | 7 => i7 | 8 => i8 | 9 => i9 | 10 => i10 | 11 => i11 | 12 => i12 | 13 => i13 | _ => i0, ?_⟩
    intro k q hq
    match k, hq with
    | 0, hq => cases hq; exact hk0
    | 1, hq => cases hq; exact hk1
    | 2, hq => cases hq; exact hk2
    | 3, hq => cases hq; exact hk3
    | 4, hq => cases hq; exact hk4
    | 5, hq => cases hq; exact hk5
    | 6, hq => cases hq; exact hk6
    | 7, hq => cases hq; exact hk7
    | 8, hq => cases hq; exact hk8
    | 9, hq => cases hq; exact hk9
    | 10, hq => cases hq; exact hk10
    | 11, hq => cases hq; exact hk11
    | 12, hq => cases hq; exact hk12
    | 13, hq => cases hq; exact hk13
    | k + 14, hq => simp at hq
  obtain ⟨cy0, ka0, co0, ey0, ez0, ew0⟩ := Cond.arrayClass_spec (hal _ wa_byte)
  obtain ⟨cy1, ka1, co1, ey1, ez1, ew1⟩ := Cond.arrayClass_spec (hal _ wa_int)
  obtain ⟨cy2, ka2, co2, ey2, ez2, ew2⟩ := Cond.arrayClass_spec (hal _ wa_long)
  obtain ⟨cy, hcy⟩ : ∃ cy : Nat → ClassId, cy 0 = cy0 ∧ cy 1 = cy1 ∧ cy 2 = cy2 := ⟨fun i => match i with | 0 => cy0 | 1 => cy1 | _ => cy2, rfl, rfl, rfl⟩
  have hK : va_K (dC, dI) vwCl (im_tys cy) s := by
    refine ⟨hKc, fun k q hq => ?_⟩
    match k, hq with
    | 0, hq => cases hq; rw [hcy.1]; exact ⟨fun n z => ⟨fun k h => (by cases h), ka0, ez0, co0, ew0⟩, ey0⟩
    | 1, hq => cases hq; rw [hcy.2.1]; exact ⟨fun n z => ⟨fun k h => (by cases h), ka1, ez1, co1, ew1⟩, ey1⟩
    | 2, hq => cases hq; rw [hcy.2.2]; exact ⟨fun n z => ⟨fun k h => (by cases h), ka2, ez2, co2, ew2⟩, ey2⟩
    | k + 3, hq => simp at hq
  obtain ⟨q1, q2, hzu⟩ := zu_start ((dC, dI), cy, s.heap, fun _ => True) rfl hts hgv
  obtain ⟨g, hg1, hg2, hg3, hg4⟩ : ∃ g : im_G, g.1 = (dC, dI) ∧ g.2.1 = cy ∧ g.2.2.1 = s.heap ∧ g.2.2.2 = fun V => im_Zs ((dC, dI), cy, s.heap, fun _ => True) V ∧ im_Zt ((dC, dI), cy, s.heap, fun _ => True) V ∧ im_Zu q1 q2 ((dC, dI), cy, s.heap, fun _ => True) V := ⟨((dC, dI), cy, s.heap, fun V => im_Zs ((dC, dI), cy, s.heap, fun _ => True) V ∧ im_Zt ((dC, dI), cy, s.heap, fun _ => True) V ∧ im_Zu q1 q2 ((dC, dI), cy, s.heap, fun _ => True) V), rfl, rfl, rfl, rfl⟩
  have hZ : ∀ V, g.2.2.2 V → im_Zs g V := by
    intro V hV
    rw [hg4] at hV
    have hV := hV.1
    unfold im_Zs im_A at hV ⊢
    rw [hg3]
    exact hV
  have hZt : ∀ V, g.2.2.2 V → im_Zt g V := by
    intro V hV
    rw [hg4] at hV
    have hV := hV.2.1
    unfold im_Zt im_A at hV ⊢
    rw [hg3]
    exact hV
  have hZu : ∀ V, g.2.2.2 V → im_Zu q1 q2 g V := by
    intro V hV
    rw [hg4] at hV
    have hV := hV.2.2
    unfold im_Zu im_A at hV ⊢
    rw [hg3]
    exact hV
  have hZs : ∀ V : State, s.WarmedH V.vm → g.2.2.2 V := by
    rw [hg4]
    exact fun V hW => ⟨zs_start _ rfl hts hgv V hW, zt_start _ rfl hts hgv V hW, hzu V hW⟩
  have hZn : ∀ V, g.2.2.2 V → im_nest V := fun V h => (hZ V h).1
  have X : im_X p l s m #[Value.ref b] meth c g cL_law 8 RL ret := ⟨hx, hb, hml, hown, hal, by rw [hg1, hg2]; exact hK, by rw [hg3]; exact Nat.le_refl _, fun q _ => by rw [hg3], hZs, hr, hlocks⟩
  have hbA : ¬ im_A g b := by unfold im_A; rw [hg3]; omega
  have key : im_W p l e room_1 s m #[Value.ref b] below meth c g 8 (lw_Z below #[Value.ref b] s) 601024 7293034 0 [(0, .ref b)] [] ([], fun _ => .inr (0, [])) := by
    refine ir_new (pc := 0) X 12 [.null, .null, .null, .null, .int 0, .int 0, .int 0] tyX10 tyX10_ok rfl wx_X10 wl_L_8 wt_X10 wn_X10 df_X10 dL_law_0 (bc' := 601023) (bs' := 7293027) rfl rfl (fun a ha _ => ?_)
    have h1 := im_L.new (al := []) (ct := []) (M := ([], fun _ => .inr (0, []))) ⟨rfl, rfl, List.nodup_nil, fun j a x h => by simp at h⟩ ha (.inr (12, [.null, .null, .null, .null, .int 0, .int 0, .int 0]))
    refine ir_dup (pc := 3) X dL_law_3 rfl ?_
    refine ir_callI (pc := 4) X [] [.ref a] (mk_X10 l g hZn [] [] a _ rfl h1) wm_L_33 wi_yX10_init wn_X10 wc_yX10_init rfl (by decide) (by decide) (by decide) (Nat.le_of_ble_eq_true rfl) rfl dL_law_4 (bc' := 600949) (bs' := 7265548) rfl rfl (fun r M1 hf => ?_)
    obtain ⟨rfl, q, h1⟩ := hf
    refine ir_astore_n (pc := 7) X dL_law_7 (by decide) (lv' := [(1, .ref a), (0, .ref b)]) rfl ?_
    refine ir_new (pc := 8) X 13 [.int 0, .null, .int 0, .int 0, .int 0, .int 0, .null, .null, .null, .null, .int 0, .null, .null, .null, .null, .null, .null, .null, .null, .null, .null, .null, .null, .null, .null, .null, .int 0, .int 0, .null, .null, .null, .null, .null, .null, .null, .int 0, .int 0, .int 0, .null, .null, .int 0, .null, .null, .null, .null, .null, .null, .null, .null, .null, .null, .null, .int 0, .null, .null, .null, .null, .int 0, .null, .null, .null, .null, .null, .null, .int 0, .null, .null, .null, .int 0, .null, .null, .null, .int 0, .int 0, .int 0, .int 0, .int 0, .int 0, .int 0, .null, .null, .int 0, .long 0] tyX11 tyX11_ok rfl wx_X11 wl_L_34 wt_X11 wn_X11 df_X11 dL_law_8 (bc' := 600948) (bs' := 7265465) rfl rfl (fun a2 ha2 _ => ?_)
    have h2 := im_L.new h1 ha2 (.inr (13, [.int 0, .null, .int 0, .int 0, .int 0, .int 0, .null, .null, .null, .null, .int 0, .null, .null, .null, .null, .null, .null, .null, .null, .null, .null, .null, .null, .null, .null, .null, .int 0, .int 0, .null, .null, .null, .null, .null, .null, .null, .int 0, .int 0, .int 0, .null, .null, .int 0, .null, .null, .null, .null, .null, .null, .null, .null, .null, .null, .null, .int 0, .null, .null, .null, .null, .int 0, .null, .null, .null, .null, .null, .null, .int 0, .null, .null, .null, .int 0, .null, .null, .null, .int 0, .int 0, .int 0, .int 0, .int 0, .int 0, .int 0, .null, .null, .int 0, .long 0]))
    refine ir_dup (pc := 11) X dL_law_11 rfl ?_
    refine ir_callI (pc := 12) X [] [.ref a2] (mk_X11 l g hZn _ _ a2 _ h1.2.1 h2) wm_L_36 wi_yX11_init wn_X11 wc_yX11_init rfl (by decide) (by decide) (by decide) (Nat.le_of_ble_eq_true rfl) rfl dL_law_12 (bc' := 600890) (bs' := 5523337) rfl rfl (fun r M2 hf => ?_)
    obtain ⟨rfl, q2, h2⟩ := hf
    refine ir_astore_n (pc := 15) X dL_law_15 (by decide) (lv' := [(2, .ref a2), (1, .ref a), (0, .ref b)]) rfl ?_
    refine ir_iconst (pc := 16) X dL_law_16 ic_1 ?_
    refine ir_newa (pc := 17) X 2 rfl rfl (fun C h => by cases h) wa_long (1, .inr (.inl (fun _ => 0))) (fun _ => rfl) (by decide) (N := 1) (by decide) (by decide) dL_law_17 (bc' := 600889) (bs' := 5523336) rfl rfl (fun a3 ha3 _ => ?_)
    have h3 := im_L.new h2 ha3 (.inl (g.2.1 2, 1, .inr (.inl (fun _ => 0))))
    refine ir_astore_n (pc := 19) X dL_law_19 (by decide) (lv' := [(3, .ref a3), (2, .ref a2), (1, .ref a), (0, .ref b)]) rfl ?_
    refine ir_iconst (pc := 20) X dL_law_20 ic_0 ?_
    refine ir_istore (pc := 21) X dL_law_21 (by decide) (lv' := [(4, .int 0), (3, .ref a3), (2, .ref a2), (1, .ref a), (0, .ref b)]) rfl ?_
    have hR := rep0 g a a2 a3 q q2 _ h3
    rw [fx_of (ad' := ad0 a a2 a3 q q2) (u := a) (v := a2) (w := a3) rfl rfl rfl] at hR
    refine iv_sub (nn := im_N) (cn := im_cn g (fx a a2 a3 (ad0 a a2 a3 q q2)) S0) (ad := fx a a2 a3 (ad0 a a2 a3 q q2)) [4, 3, 2, 1, 0] (lv2 := [(0, .ref b), (1, .ref a), (2, .ref a2), (3, .ref a3), (4, .int 0)]) rfl ?_ _ hR
    exact law_loop hL hlT hZ hZt hZu X hg3 hX hbl hbA fu n 0 S0 0 _ 600889 5523336 hgd (by decide) (by omega) (by omega) (by show (2228224 - 2816) / 64 + n ≤ 600889; omega) (by show 2 * 2228224 + 6 * n ≤ 2 * 2816 + 5523336; omega)
  rw [lg_entry_eq]
  exact key _ s.heap [] 0 0 (lv_entry [Value.ref b] (n := 8) (Nat.le_of_ble_eq_true rfl)) (fun k q h => by simp [va_pl] at h) ⟨fun i j p q h => by simp [va_pl] at h, fun k q h => by simp [va_pl] at h⟩ va_S.rf rfl rfl
