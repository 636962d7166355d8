def hk_value (o : String ⊕ Int64) : Int32 := match o with | .inl E => 1 | .inr _ => 0
def hs_value (o : String ⊕ Int64) (S : im_S) : im_S := match o with | .inl _ => S | .inr x => uJ S 134 (0 : Int32).toNatClampNeg x
set_option maxHeartbeats 4000000 in
set_option maxRecDepth 100000 in
theorem hl_value (l : Launch) (g : im_G) (u v w : Nat) (ad : Nat → Nat) (hlT : l.stackTraces = false) (hZ : ∀ V, g.2.2.2 V → im_Zs g V) (S : im_S) (o : String ⊕ Int64) (S1 : im_S) (hm : f_X10_valueL S = some (o, S1)) (hx : ∀ E, o = .inl E → E = xNSE) : im_EHL l g u v w ad 60 yL_value cL_value 3 (some .int) [(0, 7, 10, 27)] [.ref (fx u v w ad 0), .ref (fx u v w ad 134)] S (some (.int (hk_value o))) S1 (hs_value o S1) := by
  refine is_metHL (own := RL) (by decide +kernel) rfl (Nat.le_of_ble_eq_true rfl) (fun p e s m below meth c X htab => ?_)
  refine iv_aload_n (pc := 0) X dL_value_0 rfl ?_
  refine iv_iconst (pc := 1) X dL_value_1 ic_0 ?_
  refine iv_aload_n (pc := 2) X dL_value_2 rfl ?_
  refine is_callVXL (pc := 3) X 12 (i0 := 0) [] [.int 0, .ref (fx u v w ad 134)] 0 rfl (f_X10_valueL_x l g (fx u v w ad) hlT hZ  S o S1 hm) rfl (by decide) rfl wm_L_23 wi_yX10_value we_yX10_value wn_X10 wc_yX10_value (by decide) (by decide) (by decide) (Nat.le_of_ble_eq_true rfl) rfl dL_value_3 (fun r hr ad => ?_) (fun E hE => ?_)
  · cases o with
    | inl E => cases hr
    | inr x =>
      cases hr
      refine is_last (pc := 6) X dL_value_6 134 (by decide) rfl rfl (in_b_vp (i := 0) (n := 1) (by decide)) ?_
      refine iv_goto (pc := 7) X dL_value_7 (tgt := 13) rfl ?_
      refine iv_iconst (pc := 13) X dL_value_13 ic_0 ?_
      exact is_iretHL (pc := 14) X dL_value_14
  · cases o with
    | inr x => cases hE
    | inl E1 =>
      cases hE
      have hE := hx _ rfl
      subst hE
      refine ⟨[], ⟨0, 7, 10, 27⟩, [], xNSE, htab, (fun z hz => by cases hz), by decide, by decide, wl_LNSE, im_cst hZ X.2.2.2.2.2.2.2.2.1 tw_cNSE, fun q ad => ?_⟩
      refine iv_astore_n (pc := 10) X dL_value_10 (by decide) (lv' := [(2, .ref q), (0, .ref (fx u v w ad 0)), (1, .ref (fx u v w ad 134))]) rfl ?_
      refine iv_iconst (pc := 11) X dL_value_11 ic_1 ?_
      exact is_iretHL (pc := 12) X dL_value_12
def hk_compile (o : String ⊕ Int32) : Int32 := match o with | .inl E => 1 | .inr _ => 0
def hs_compile (o : String ⊕ Int32) (S : im_S) : im_S := match o with | .inl _ => S | .inr x => uJ S 134 (0 : Int32).toNatClampNeg x.toInt64
set_option maxHeartbeats 4000000 in
set_option maxRecDepth 100000 in
theorem hl_compile (l : Launch) (g : im_G) (u v w : Nat) (ad : Nat → Nat) (hZt : ∀ V, g.2.2.2 V → im_Zt g V) {q1 q2 : Nat} (hZu : ∀ V, g.2.2.2 V → im_Zu q1 q2 g V) (hlT : l.stackTraces = false) (hZ : ∀ V, g.2.2.2 V → im_Zs g V) (fu : Nat) (S : im_S) (o : String ⊕ Int32) (S1 : im_S) (hm : f_X10_compile fu  S = some (o, S1)) (hx : ∀ E, o = .inl E → E = xIAE) : im_EHL l g u v w ad 60 yL_compile cL_compile 3 (some .int) [(0, 8, 11, 13)] [.ref (fx u v w ad 0), .ref (fx u v w ad 134)] S (some (.int (hk_compile o))) S1 (hs_compile o S1) := by
  refine is_metHL (own := RL) (by decide +kernel) rfl (Nat.le_of_ble_eq_true rfl) (fun p e s m below meth c X htab => ?_)
  refine iv_aload_n (pc := 0) X dL_compile_0 rfl ?_
  refine iv_iconst (pc := 1) X dL_compile_1 ic_0 ?_
  refine iv_aload_n (pc := 2) X dL_compile_2 rfl ?_
  refine is_callVXL (pc := 3) X 12 (i0 := 0) [] [.int 0, .ref (fx u v w ad 134)] 0 rfl (f_X10_compile_x l g (fx u v w ad) hZt hZu hlT hZ fu  S o S1 hm) rfl (by decide) rfl wm_L_7 wi_yX10_compile we_yX10_compile wn_X10 wc_yX10_compile (by decide) (by decide) (by decide) (Nat.le_of_ble_eq_true rfl) rfl dL_compile_3 (fun r hr ad => ?_) (fun E hE => ?_)
  · cases o with
    | inl E => cases hr
    | inr x =>
      cases hr
      refine iv_i2l (pc := 6) X dL_compile_6 rfl ?_
      refine is_last (pc := 7) X dL_compile_7 134 (by decide) rfl rfl (in_b_vp (i := 0) (n := 1) (by decide)) ?_
      refine iv_goto (pc := 8) X dL_compile_8 (tgt := 14) rfl ?_
      refine iv_iconst (pc := 14) X dL_compile_14 ic_0 ?_
      exact is_iretHL (pc := 15) X dL_compile_15
  · cases o with
    | inr x => cases hE
    | inl E1 =>
      cases hE
      have hE := hx _ rfl
      subst hE
      refine ⟨[], ⟨0, 8, 11, 13⟩, [], xIAE, htab, (fun z hz => by cases hz), by decide, by decide, wl_LIAE, im_cst hZ X.2.2.2.2.2.2.2.2.1 tw_cIAE, fun q ad => ?_⟩
      refine iv_astore_n (pc := 11) X dL_compile_11 (by decide) (lv' := [(2, .ref q), (0, .ref (fx u v w ad 0)), (1, .ref (fx u v w ad 134))]) rfl ?_
      refine iv_iconst (pc := 12) X dL_compile_12 ic_1 ?_
      exact is_iretHL (pc := 13) X dL_compile_13
def hk_cell (o : String ⊕ Int64) : Int32 := match o with | .inl E => 1 | .inr _ => 0
def hs_cell (o : String ⊕ Int64) (S : im_S) : im_S := match o with | .inl _ => S | .inr x => uJ S 134 (0 : Int32).toNatClampNeg x
set_option maxHeartbeats 4000000 in
set_option maxRecDepth 100000 in
theorem hl_cell (l : Launch) (g : im_G) (u v w : Nat) (ad : Nat → Nat) (hlT : l.stackTraces = false) (hZ : ∀ V, g.2.2.2 V → im_Zs g V) (x1 : Int32) (x2 : Int32) (S : im_S) (o : String ⊕ Int64) (S1 : im_S) (hm : f_X10_cellL x1 x2 S = some (o, S1)) (hx : ∀ E, o = .inl E → E = xNSE) : im_EHL l g u v w ad 60 yL_cell cL_cell 5 (some .int) [(0, 9, 12, 27)] [.ref (fx u v w ad 0), .int x1, .int x2, .ref (fx u v w ad 134)] S (some (.int (hk_cell o))) S1 (hs_cell o S1) := by
  refine is_metHL (own := RL) (by decide +kernel) rfl (Nat.le_of_ble_eq_true rfl) (fun p e s m below meth c X htab => ?_)
  refine iv_aload_n (pc := 0) X dL_cell_0 rfl ?_
  refine iv_iconst (pc := 1) X dL_cell_1 ic_0 ?_
  refine iv_aload_n (pc := 2) X dL_cell_2 rfl ?_
  refine iv_iload_n (pc := 3) X dL_cell_3 rfl ?_
  refine iv_iload_n (pc := 4) X dL_cell_4 rfl ?_
  refine is_callVXL (pc := 5) X 12 (i0 := 0) [.int x1, .int x2] [.int 0, .ref (fx u v w ad 134)] 2 rfl (f_X10_cellL_x l g (fx u v w ad) hlT hZ x1 x2 S o S1 hm) rfl (by decide) rfl wm_L_29 wi_yX10_cell we_yX10_cell wn_X10 wc_yX10_cell (by decide) (by decide) (by decide) (Nat.le_of_ble_eq_true rfl) rfl dL_cell_5 (fun r hr ad => ?_) (fun E hE => ?_)
  · cases o with
    | inl E => cases hr
    | inr x =>
      cases hr
      refine is_last (pc := 8) X dL_cell_8 134 (by decide) rfl rfl (in_b_vp (i := 0) (n := 1) (by decide)) ?_
      refine iv_goto (pc := 9) X dL_cell_9 (tgt := 16) rfl ?_
      refine iv_iconst (pc := 16) X dL_cell_16 ic_0 ?_
      exact is_iretHL (pc := 17) X dL_cell_17
  · cases o with
    | inr x => cases hE
    | inl E1 =>
      cases hE
      have hE := hx _ rfl
      subst hE
      refine ⟨[], ⟨0, 9, 12, 27⟩, [], xNSE, htab, (fun z hz => by cases hz), by decide, by decide, wl_LNSE, im_cst hZ X.2.2.2.2.2.2.2.2.1 tw_cNSE, fun q ad => ?_⟩
      refine iv_astore (pc := 12) X dL_cell_12 (by decide) (lv' := [(4, .ref q), (0, .ref (fx u v w ad 0)), (1, .int x1), (2, .int x2), (3, .ref (fx u v w ad 134))]) rfl ?_
      refine iv_iconst (pc := 14) X dL_cell_14 ic_1 ?_
      exact is_iretHL (pc := 15) X dL_cell_15
def hk_fire (o : String ⊕ Int32) : Int32 := match o with | .inl E => if E = xISE then 1 else if E = xIAE then 2 else 3 | .inr _ => 0
def hs_fire (o : String ⊕ Int32) (S : im_S) : im_S := match o with | .inl _ => S | .inr x => uJ S 134 (0 : Int32).toNatClampNeg x.toInt64
set_option maxHeartbeats 4000000 in
set_option maxRecDepth 100000 in
theorem hl_fire (l : Launch) (g : im_G) (u v w : Nat) (ad : Nat → Nat) (hlT : l.stackTraces = false) (hZ : ∀ V, g.2.2.2 V → im_Zs g V) (fu : Nat) (x1 : Int32) (x2 : Int64) (S : im_S) (o : String ⊕ Int32) (S1 : im_S) (hm : f_X10_fire fu x1 x2 S = some (o, S1)) (hx : ∀ E, o = .inl E → E = xISE ∨ E = xIAE ∨ E = xAE) : im_EHL l g u v w ad 60 yL_fire cL_fire 6 (some .int) [(0, 11, 14, 19), (0, 11, 18, 13), (0, 11, 22, 21)] [.ref (fx u v w ad 0), .int x1, .long x2, .ref (fx u v w ad 134)] S (some (.int (hk_fire o))) S1 (hs_fire o S1) := by
  refine is_metHL (own := RL) (by decide +kernel) rfl (Nat.le_of_ble_eq_true rfl) (fun p e s m below meth c X htab => ?_)
  refine iv_aload (pc := 0) X dL_fire_0 rfl ?_
  refine iv_iconst (pc := 2) X dL_fire_2 ic_0 ?_
  refine iv_aload_n (pc := 3) X dL_fire_3 rfl ?_
  refine iv_iload_n (pc := 4) X dL_fire_4 rfl ?_
  refine iv_lload_n (pc := 5) X dL_fire_5 rfl ?_
  refine is_callVXL (pc := 6) X 12 (i0 := 0) [.int x1, .long x2] [.int 0, .ref (fx u v w ad 134)] 2 rfl (f_X10_fire_x l g (fx u v w ad) hlT hZ fu x1 x2 S o S1 hm) rfl (by decide) rfl wm_L_15 wi_yX10_fire we_yX10_fire wn_X10 wc_yX10_fire (by decide) (by decide) (by decide) (Nat.le_of_ble_eq_true rfl) rfl dL_fire_6 (fun r hr ad => ?_) (fun E hE => ?_)
  · cases o with
    | inl E => cases hr
    | inr x =>
      cases hr
      refine iv_i2l (pc := 9) X dL_fire_9 rfl ?_
      refine is_last (pc := 10) X dL_fire_10 134 (by decide) rfl rfl (in_b_vp (i := 0) (n := 1) (by decide)) ?_
      refine iv_goto (pc := 11) X dL_fire_11 (tgt := 26) rfl ?_
      refine iv_iconst (pc := 26) X dL_fire_26 ic_0 ?_
      exact is_iretHL (pc := 27) X dL_fire_27
  · cases o with
    | inr x => cases hE
    | inl E1 =>
      cases hE
      rcases hx _ rfl with rfl | rfl | rfl
      · refine ⟨[], ⟨0, 11, 14, 19⟩, [⟨0, 11, 18, 13⟩, ⟨0, 11, 22, 21⟩], xISE, htab, (fun z hz => by cases hz), by decide, by decide, wl_LISE, im_cst hZ X.2.2.2.2.2.2.2.2.1 tw_cISE, fun q ad => ?_⟩
        refine iv_astore (pc := 14) X dL_fire_14 (by decide) (lv' := [(5, .ref q), (0, .ref (fx u v w ad 0)), (1, .int x1), (2, .long x2), (4, .ref (fx u v w ad 134))]) rfl ?_
        refine iv_iconst (pc := 16) X dL_fire_16 ic_1 ?_
        exact is_iretHL (pc := 17) X dL_fire_17
      · refine ⟨[⟨0, 11, 14, 19⟩], ⟨0, 11, 18, 13⟩, [⟨0, 11, 22, 21⟩], xIAE, htab, (fun z hz => by
          simp only [List.mem_cons, List.not_mem_nil, or_false] at hz
          rcases hz with rfl
          · exact Or.inr ⟨by decide, xISE, wl_LISE, (hZ s (X.2.2.2.2.2.2.2.2.1 s (State.WarmedH.refl s))).2.2.2.2.1⟩), by decide, by decide, wl_LIAE, im_cst hZ X.2.2.2.2.2.2.2.2.1 tw_cIAE, fun q ad => ?_⟩
        refine iv_astore (pc := 18) X dL_fire_18 (by decide) (lv' := [(5, .ref q), (0, .ref (fx u v w ad 0)), (1, .int x1), (2, .long x2), (4, .ref (fx u v w ad 134))]) rfl ?_
        refine iv_iconst (pc := 20) X dL_fire_20 ic_2 ?_
        exact is_iretHL (pc := 21) X dL_fire_21
      · refine ⟨[⟨0, 11, 14, 19⟩, ⟨0, 11, 18, 13⟩], ⟨0, 11, 22, 21⟩, [], xAE, htab, (fun z hz => by
          simp only [List.mem_cons, List.not_mem_nil, or_false] at hz
          rcases hz with rfl | rfl
          · exact Or.inr ⟨by decide, xISE, wl_LISE, (hZ s (X.2.2.2.2.2.2.2.2.1 s (State.WarmedH.refl s))).2.2.2.2.2.1⟩
          · exact Or.inr ⟨by decide, xIAE, wl_LIAE, (hZ s (X.2.2.2.2.2.2.2.2.1 s (State.WarmedH.refl s))).2.2.2.2.2.2⟩), by decide, by decide, wl_LAE, im_cst hZ X.2.2.2.2.2.2.2.2.1 tw_cAE, fun q ad => ?_⟩
        refine iv_astore (pc := 22) X dL_fire_22 (by decide) (lv' := [(5, .ref q), (0, .ref (fx u v w ad 0)), (1, .int x1), (2, .long x2), (4, .ref (fx u v w ad 134))]) rfl ?_
        refine iv_iconst (pc := 24) X dL_fire_24 ic_3 ?_
        exact is_iretHL (pc := 25) X dL_fire_25
