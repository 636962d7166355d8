/-! written by program (wip/whole/walk.py): what grows -/
def f_X5_openFrame (fu : Nat) (x1 : Int32) (x2 : Int32) (x3 : Int32) (S : im_S) : Option (Int32 × im_S) := gd (in_b x1 512) (gd (in_b ((S.1 61) x1.toNatClampNeg) 512) ((f_X8_take fu ((S.1 62) (((S.1 61) x1.toNatClampNeg).toNatClampNeg)) S).bind (fun qS1 => (f_X2_add qS1.1 x2 x3 qS1.2).bind (fun qS4 => some (qS4.1, qS4.2)))))
theorem f_X5_openFrame_m (fu : Nat) (x1 : Int32) (x2 : Int32) (x3 : Int32) (S : im_S) : Mo (f_X5_openFrame fu x1 x2 x3 S) S := by
  unfold f_X5_openFrame
  repeat' first | with_reducible exact Mo_none _ | with_reducible refine Mo_gd ?_ | with_reducible refine Mo_ite ?_ ?_ | with_reducible refine Mo_bind ?_ (fun q => ?_) | with_reducible refine Mo_some ?_ | with_reducible refine Mo_of (f_gr65_m _ _) ?_ | with_reducible refine Mo_of (f_gr66_m _ _) ?_ | with_reducible refine Mo_of (f_gr68_m _ _) ?_ | with_reducible refine Mo_of (f_gr69_m _ _) ?_ | with_reducible refine Mo_of (f_gr70_m _ _) ?_ | with_reducible refine Mo_of (f_gr71_m _ _) ?_ | with_reducible refine Mo_of (f_gr73_m _ _) ?_ | with_reducible refine Mo_of (f_gr74_m _ _) ?_ | with_reducible refine Mo_of (f_X0_clear_m _) ?_ | with_reducible refine Mo_of (f_X0_release_m _ _) ?_ | with_reducible refine Mo_of (f_X2_clear_m _) ?_ | with_reducible refine Mo_of (f_X2_outward_L5_m _ _ _ _ _ _ _) ?_ | with_reducible refine Mo_of (f_X2_outward_m _ _ _ _) ?_ | with_reducible refine Mo_of (f_X3_takesNumbers_L12_m _ _ _ _ _ _) ?_ | with_reducible refine Mo_of (f_X3_takesNumbers_m _ _ _) ?_ | with_reducible refine Mo_of (f_X5_condition_m _) ?_ | with_reducible refine Mo_of (f_X5_slotOf_m _ _ _) ?_ | with_reducible refine Mo_of (f_X5_makeReady_m _ _ _) ?_ | with_reducible refine Mo_of (f_X5_send_m _ _ _ _ _) ?_ | with_reducible refine Mo_of (f_X5_leaveFunction_m _) ?_ | with_reducible refine Mo_of (f_X5_turn_m _ _ _) ?_ | with_reducible refine Mo_of (f_X5_leastError_m _ _ _) ?_ | with_reducible refine Mo_of (f_X5_calculate_m _ _ _ _) ?_ | with_reducible refine Mo_of (f_X8_clear_m _) ?_ | with_reducible refine Mo_of (f_X8_put_m _ _ _ _) ?_ | with_reducible refine Mo_of (f_X8_tableOf_m _ _ _) ?_ | with_reducible refine Mo_of (f_X8_firstCell_m _ _) ?_ | with_reducible refine Mo_of (f_X8_cellsIn_m _ _) ?_ | with_reducible refine Mo_of (f_J9_floorMod_f86c9_m _ _ _) ?_ | with_reducible refine Mo_of (f_J7_rangeCheck_23922_m _ _ _ _) ?_ | with_reducible refine Mo_of (f_J7_fill_bad5a_L10_m _ _ _ _ _ _ _) ?_ | with_reducible refine Mo_of (f_J7_fill_bad5a_m _ _ _ _ _) ?_ | with_reducible refine Mo_of (f_J7_fill_eb02e_L10_m _ _ _ _ _ _ _) ?_ | with_reducible refine Mo_of (f_J7_fill_eb02e_m _ _ _ _ _) ?_ | with_reducible refine Mo_of (f_X5_settle_L15_m _ _ _ _ _ _ _ _) ?_ | with_reducible refine Mo_of (f_X5_settle_m _ _ _ _ _) ?_ | with_reducible refine Mo_of (f_X5_handIn_m _ _ _ _ _) ?_ | with_reducible refine Mo_of (f_X5_cellAt_m _ _ _) ?_ | with_reducible refine Mo_of (f_X5_operate_m _ _ _) ?_ | with_reducible refine Mo_of (f_X5_pickCell_m _ _ _) ?_ | with_reducible refine Mo_of (f_X0_add_m _ _ _) ?_ | with_reducible refine Mo_of (f_X2_add_m _ _ _ _) ?_ | with_reducible refine Mo_of (f_X8_take_m _ _ _) ?_ | rfl
set_option maxHeartbeats 4000000 in
set_option maxRecDepth 100000 in
theorem f_X5_openFrame_e (l : Launch) (g : im_G) (ad : Nat → Nat) (fu : Nat) (x1 : Int32) (x2 : Int32) (x3 : Int32) (S : im_S) (r : Int32) (S' : im_S) (hm : f_X5_openFrame fu x1 x2 x3 S = some (r, S')) : im_EG gA l g ad 3 yX5_openFrame cX5_openFrame 5 (some Jvm.ClassFile.FieldType.int) [.ref (ad 38), .int x1, .int x2, .int x3] S (some (.int r)) S' := by
  unfold f_X5_openFrame at hm
  refine is_metG (own := RX5) (by decide +kernel) rfl (Nat.le_of_ble_eq_true rfl) (fun p e s m below meth c X ga bc bs b1 b2 => ?_)
  refine iv_aload_n (pc := 0) X dX5_openFrame_0 rfl ?_
  refine gF_X5_12_38 (pc := 1) X dX5_openFrame_1 ?_
  refine gF_X5_68_40 (pc := 4) X dX5_openFrame_4 ?_
  refine gF_X5_126_56 (pc := 7) X dX5_openFrame_7 ?_
  refine iv_aload_n (pc := 10) X dX5_openFrame_10 rfl ?_
  refine gF_X5_12_38 (pc := 11) X dX5_openFrame_11 ?_
  refine gF_X5_68_40 (pc := 14) X dX5_openFrame_14 ?_
  refine gF_X5_129_56 (pc := 17) X dX5_openFrame_17 ?_
  refine iv_iload_n (pc := 20) X dX5_openFrame_20 rfl ?_
  obtain ⟨hg, hm⟩ := gd_some hm
  refine aL_61 (pc := 21) X dX5_openFrame_21 hg (x := (S.1 61) x1.toNatClampNeg) rfl ?_
  obtain ⟨hg, hm⟩ := gd_some hm
  refine aL_62 (pc := 22) X dX5_openFrame_22 hg (x := (S.1 62) (((S.1 61) x1.toNatClampNeg).toNatClampNeg)) rfl ?_
  refine iv_istore (pc := 23) X dX5_openFrame_23 (by decide) (lv' := [(4, .int ((S.1 62) (((S.1 61) x1.toNatClampNeg).toNatClampNeg))), (0, .ref (mx gA ad ga 38)), (1, .int x1), (2, .int x2), (3, .int x3)]) rfl ?_
  refine iv_aload_n (pc := 25) X dX5_openFrame_25 rfl ?_
  refine gF_X5_28_38 (pc := 26) X dX5_openFrame_26 ?_
  refine iv_aload_n (pc := 29) X dX5_openFrame_29 rfl ?_
  refine gF_X5_21_38 (pc := 30) X dX5_openFrame_30 ?_
  refine iv_iload (pc := 33) X dX5_openFrame_33 rfl ?_
  obtain ⟨⟨r2, S1⟩, hc3, hm⟩ := bd_some hm
  have m2 := mo_use (S := S1) hm (by repeat' first | with_reducible exact Mo_none _ | with_reducible refine Mo_gd ?_ | with_reducible refine Mo_ite ?_ ?_ | with_reducible refine Mo_bind ?_ (fun q => ?_) | with_reducible refine Mo_some ?_ | with_reducible refine Mo_of (f_gr65_m _ _) ?_ | with_reducible refine Mo_of (f_gr66_m _ _) ?_ | with_reducible refine Mo_of (f_gr68_m _ _) ?_ | with_reducible refine Mo_of (f_gr69_m _ _) ?_ | with_reducible refine Mo_of (f_gr70_m _ _) ?_ | with_reducible refine Mo_of (f_gr71_m _ _) ?_ | with_reducible refine Mo_of (f_gr73_m _ _) ?_ | with_reducible refine Mo_of (f_gr74_m _ _) ?_ | with_reducible refine Mo_of (f_X0_clear_m _) ?_ | with_reducible refine Mo_of (f_X0_release_m _ _) ?_ | with_reducible refine Mo_of (f_X2_clear_m _) ?_ | with_reducible refine Mo_of (f_X2_outward_L5_m _ _ _ _ _ _ _) ?_ | with_reducible refine Mo_of (f_X2_outward_m _ _ _ _) ?_ | with_reducible refine Mo_of (f_X3_takesNumbers_L12_m _ _ _ _ _ _) ?_ | with_reducible refine Mo_of (f_X3_takesNumbers_m _ _ _) ?_ | with_reducible refine Mo_of (f_X5_condition_m _) ?_ | with_reducible refine Mo_of (f_X5_slotOf_m _ _ _) ?_ | with_reducible refine Mo_of (f_X5_makeReady_m _ _ _) ?_ | with_reducible refine Mo_of (f_X5_send_m _ _ _ _ _) ?_ | with_reducible refine Mo_of (f_X5_leaveFunction_m _) ?_ | with_reducible refine Mo_of (f_X5_turn_m _ _ _) ?_ | with_reducible refine Mo_of (f_X5_leastError_m _ _ _) ?_ | with_reducible refine Mo_of (f_X5_calculate_m _ _ _ _) ?_ | with_reducible refine Mo_of (f_X8_clear_m _) ?_ | with_reducible refine Mo_of (f_X8_put_m _ _ _ _) ?_ | with_reducible refine Mo_of (f_X8_tableOf_m _ _ _) ?_ | with_reducible refine Mo_of (f_X8_firstCell_m _ _) ?_ | with_reducible refine Mo_of (f_X8_cellsIn_m _ _) ?_ | with_reducible refine Mo_of (f_J9_floorMod_f86c9_m _ _ _) ?_ | with_reducible refine Mo_of (f_J7_rangeCheck_23922_m _ _ _ _) ?_ | with_reducible refine Mo_of (f_J7_fill_bad5a_L10_m _ _ _ _ _ _ _) ?_ | with_reducible refine Mo_of (f_J7_fill_bad5a_m _ _ _ _ _) ?_ | with_reducible refine Mo_of (f_J7_fill_eb02e_L10_m _ _ _ _ _ _ _) ?_ | with_reducible refine Mo_of (f_J7_fill_eb02e_m _ _ _ _ _) ?_ | with_reducible refine Mo_of (f_X5_settle_L15_m _ _ _ _ _ _ _ _) ?_ | with_reducible refine Mo_of (f_X5_settle_m _ _ _ _ _) ?_ | with_reducible refine Mo_of (f_X5_handIn_m _ _ _ _ _) ?_ | with_reducible refine Mo_of (f_X5_cellAt_m _ _ _) ?_ | with_reducible refine Mo_of (f_X5_operate_m _ _ _) ?_ | with_reducible refine Mo_of (f_X5_pickCell_m _ _ _) ?_ | with_reducible refine Mo_of (f_X0_add_m _ _ _) ?_ | with_reducible refine Mo_of (f_X2_add_m _ _ _ _) ?_ | with_reducible refine Mo_of (f_X8_take_m _ _ _) ?_ | with_reducible refine Mo_of (f_X5_openFrame_m _ _ _ _ _) ?_ | rfl)
  refine cG_X5_132_64_gA (pc := 35) X [.int ((S.1 62) (((S.1 61) x1.toNatClampNeg).toNatClampNeg))] [.ref (mx gA ad ga 67)] 1 rfl (f_X8_take_e l g (mx gA ad ga) fu ((S.1 62) (((S.1 61) x1.toNatClampNeg).toNatClampNeg)) S _ _ hc3) (Nat.le_of_ble_eq_true rfl) (Nat.le_of_ble_eq_true rfl) (Nat.le_of_ble_eq_true rfl) rfl dX5_openFrame_35 (mo_use hc3 (f_X8_take_m fu ((S.1 62) (((S.1 61) x1.toNatClampNeg).toNatClampNeg)) S)) m2 b1 b2 (fun ga bc bs b1 b2 => ?_)
  refine iv_iload_n (pc := 38) X dX5_openFrame_38 rfl ?_
  refine iv_iload_n (pc := 39) X dX5_openFrame_39 rfl ?_
  obtain ⟨⟨r5, S4⟩, hc6, hm⟩ := bd_some hm
  have m2 := mo_use (S := S4) hm (by repeat' first | with_reducible exact Mo_none _ | with_reducible refine Mo_gd ?_ | with_reducible refine Mo_ite ?_ ?_ | with_reducible refine Mo_bind ?_ (fun q => ?_) | with_reducible refine Mo_some ?_ | with_reducible refine Mo_of (f_gr65_m _ _) ?_ | with_reducible refine Mo_of (f_gr66_m _ _) ?_ | with_reducible refine Mo_of (f_gr68_m _ _) ?_ | with_reducible refine Mo_of (f_gr69_m _ _) ?_ | with_reducible refine Mo_of (f_gr70_m _ _) ?_ | with_reducible refine Mo_of (f_gr71_m _ _) ?_ | with_reducible refine Mo_of (f_gr73_m _ _) ?_ | with_reducible refine Mo_of (f_gr74_m _ _) ?_ | with_reducible refine Mo_of (f_X0_clear_m _) ?_ | with_reducible refine Mo_of (f_X0_release_m _ _) ?_ | with_reducible refine Mo_of (f_X2_clear_m _) ?_ | with_reducible refine Mo_of (f_X2_outward_L5_m _ _ _ _ _ _ _) ?_ | with_reducible refine Mo_of (f_X2_outward_m _ _ _ _) ?_ | with_reducible refine Mo_of (f_X3_takesNumbers_L12_m _ _ _ _ _ _) ?_ | with_reducible refine Mo_of (f_X3_takesNumbers_m _ _ _) ?_ | with_reducible refine Mo_of (f_X5_condition_m _) ?_ | with_reducible refine Mo_of (f_X5_slotOf_m _ _ _) ?_ | with_reducible refine Mo_of (f_X5_makeReady_m _ _ _) ?_ | with_reducible refine Mo_of (f_X5_send_m _ _ _ _ _) ?_ | with_reducible refine Mo_of (f_X5_leaveFunction_m _) ?_ | with_reducible refine Mo_of (f_X5_turn_m _ _ _) ?_ | with_reducible refine Mo_of (f_X5_leastError_m _ _ _) ?_ | with_reducible refine Mo_of (f_X5_calculate_m _ _ _ _) ?_ | with_reducible refine Mo_of (f_X8_clear_m _) ?_ | with_reducible refine Mo_of (f_X8_put_m _ _ _ _) ?_ | with_reducible refine Mo_of (f_X8_tableOf_m _ _ _) ?_ | with_reducible refine Mo_of (f_X8_firstCell_m _ _) ?_ | with_reducible refine Mo_of (f_X8_cellsIn_m _ _) ?_ | with_reducible refine Mo_of (f_J9_floorMod_f86c9_m _ _ _) ?_ | with_reducible refine Mo_of (f_J7_rangeCheck_23922_m _ _ _ _) ?_ | with_reducible refine Mo_of (f_J7_fill_bad5a_L10_m _ _ _ _ _ _ _) ?_ | with_reducible refine Mo_of (f_J7_fill_bad5a_m _ _ _ _ _) ?_ | with_reducible refine Mo_of (f_J7_fill_eb02e_L10_m _ _ _ _ _ _ _) ?_ | with_reducible refine Mo_of (f_J7_fill_eb02e_m _ _ _ _ _) ?_ | with_reducible refine Mo_of (f_X5_settle_L15_m _ _ _ _ _ _ _ _) ?_ | with_reducible refine Mo_of (f_X5_settle_m _ _ _ _ _) ?_ | with_reducible refine Mo_of (f_X5_handIn_m _ _ _ _ _) ?_ | with_reducible refine Mo_of (f_X5_cellAt_m _ _ _) ?_ | with_reducible refine Mo_of (f_X5_operate_m _ _ _) ?_ | with_reducible refine Mo_of (f_X5_pickCell_m _ _ _) ?_ | with_reducible refine Mo_of (f_X0_add_m _ _ _) ?_ | with_reducible refine Mo_of (f_X2_add_m _ _ _ _) ?_ | with_reducible refine Mo_of (f_X8_take_m _ _ _) ?_ | with_reducible refine Mo_of (f_X5_openFrame_m _ _ _ _ _) ?_ | rfl)
  refine cG_X5_136_67_gA (pc := 40) X [.int r2, .int x2, .int x3] [] 3 rfl (f_X2_add_e l g (mx gA ad ga) r2 x2 x3 S1 _ _ hc6) (Nat.le_of_ble_eq_true rfl) (Nat.le_of_ble_eq_true rfl) (Nat.le_of_ble_eq_true rfl) rfl dX5_openFrame_40 (mo_use hc6 (f_X2_add_m r2 x2 x3 S1)) m2 b1 b2 (fun ga bc bs b1 b2 => ?_)
  cases hm
  exact is_iretG (pc := 43) X dX5_openFrame_43
def f_X5_enter_L16 (fu : Nat) : Nat → Int32 → Int32 → Int32 → Int32 → im_S → Option (Unit × im_S)
  | 0, _, _, _, _, _ => none
  | nf + 1, z1, z2, z3, z4, S => if (512 : Int32) ≤ z4 then (some ((), S)) else (if (z3 : Int32) = (-1) then (some ((), S)) else ((f_X0_add ((z1 * 512) + z3) (S.1 38 10) S).bind (fun qS3 => gd (in_b z3 512) (f_X5_enter_L16 fu nf z1 z2 ((qS3.2.1 50) z3.toNatClampNeg) (z4 + 1) (uI qS3.2 38 10 qS3.1)))))
theorem f_X5_enter_L16_m (fu : Nat) : ∀ (nf : Nat) (z1 : Int32) (z2 : Int32) (z3 : Int32) (z4 : Int32) (S : im_S), Mo (f_X5_enter_L16 fu nf z1 z2 z3 z4 S) S := by
  intro nf
  induction nf with
  | zero => intro z1 z2 z3 z4 S; exact Mo_none _
  | succ nf ih =>
    intro z1 z2 z3 z4 S
    unfold f_X5_enter_L16
    repeat' first | with_reducible exact Mo_none _ | with_reducible refine Mo_gd ?_ | with_reducible refine Mo_ite ?_ ?_ | with_reducible refine Mo_bind ?_ (fun q => ?_) | with_reducible refine Mo_some ?_ | with_reducible refine Mo_of (ih _ _ _ _ _) ?_ | with_reducible refine Mo_of (f_gr65_m _ _) ?_ | with_reducible refine Mo_of (f_gr66_m _ _) ?_ | with_reducible refine Mo_of (f_gr68_m _ _) ?_ | with_reducible refine Mo_of (f_gr69_m _ _) ?_ | with_reducible refine Mo_of (f_gr70_m _ _) ?_ | with_reducible refine Mo_of (f_gr71_m _ _) ?_ | with_reducible refine Mo_of (f_gr73_m _ _) ?_ | with_reducible refine Mo_of (f_gr74_m _ _) ?_ | with_reducible refine Mo_of (f_X0_clear_m _) ?_ | with_reducible refine Mo_of (f_X0_release_m _ _) ?_ | with_reducible refine Mo_of (f_X2_clear_m _) ?_ | with_reducible refine Mo_of (f_X2_outward_L5_m _ _ _ _ _ _ _) ?_ | with_reducible refine Mo_of (f_X2_outward_m _ _ _ _) ?_ | with_reducible refine Mo_of (f_X3_takesNumbers_L12_m _ _ _ _ _ _) ?_ | with_reducible refine Mo_of (f_X3_takesNumbers_m _ _ _) ?_ | with_reducible refine Mo_of (f_X5_condition_m _) ?_ | with_reducible refine Mo_of (f_X5_slotOf_m _ _ _) ?_ | with_reducible refine Mo_of (f_X5_makeReady_m _ _ _) ?_ | with_reducible refine Mo_of (f_X5_send_m _ _ _ _ _) ?_ | with_reducible refine Mo_of (f_X5_leaveFunction_m _) ?_ | with_reducible refine Mo_of (f_X5_turn_m _ _ _) ?_ | with_reducible refine Mo_of (f_X5_leastError_m _ _ _) ?_ | with_reducible refine Mo_of (f_X5_calculate_m _ _ _ _) ?_ | with_reducible refine Mo_of (f_X8_clear_m _) ?_ | with_reducible refine Mo_of (f_X8_put_m _ _ _ _) ?_ | with_reducible refine Mo_of (f_X8_tableOf_m _ _ _) ?_ | with_reducible refine Mo_of (f_X8_firstCell_m _ _) ?_ | with_reducible refine Mo_of (f_X8_cellsIn_m _ _) ?_ | with_reducible refine Mo_of (f_J9_floorMod_f86c9_m _ _ _) ?_ | with_reducible refine Mo_of (f_J7_rangeCheck_23922_m _ _ _ _) ?_ | with_reducible refine Mo_of (f_J7_fill_bad5a_L10_m _ _ _ _ _ _ _) ?_ | with_reducible refine Mo_of (f_J7_fill_bad5a_m _ _ _ _ _) ?_ | with_reducible refine Mo_of (f_J7_fill_eb02e_L10_m _ _ _ _ _ _ _) ?_ | with_reducible refine Mo_of (f_J7_fill_eb02e_m _ _ _ _ _) ?_ | with_reducible refine Mo_of (f_X5_settle_L15_m _ _ _ _ _ _ _ _) ?_ | with_reducible refine Mo_of (f_X5_settle_m _ _ _ _ _) ?_ | with_reducible refine Mo_of (f_X5_handIn_m _ _ _ _ _) ?_ | with_reducible refine Mo_of (f_X5_cellAt_m _ _ _) ?_ | with_reducible refine Mo_of (f_X5_operate_m _ _ _) ?_ | with_reducible refine Mo_of (f_X5_pickCell_m _ _ _) ?_ | with_reducible refine Mo_of (f_X0_add_m _ _ _) ?_ | with_reducible refine Mo_of (f_X2_add_m _ _ _ _) ?_ | with_reducible refine Mo_of (f_X8_take_m _ _ _) ?_ | with_reducible refine Mo_of (f_X5_openFrame_m _ _ _ _ _) ?_ | rfl
set_option maxHeartbeats 4000000 in
set_option maxRecDepth 100000 in
theorem f_X5_enter_L16_w {fu : Nat} (l : Launch) (g : im_G) (ad : Nat → Nat) {p : Program} {e : Env} {s : State} {m : MethodId} {below : List Frame} {meth : Method} {c : Code} {args : Array Value} {mc ms : Nat} (X : im_X p l s m args meth c g cX5_enter 5 RX5 none) : ∀ (nf : Nat) (z1 : Int32) (z2 : Int32) (z3 : Int32) (z4 : Int32) (S : im_S) (r : Unit) (S' : im_S), f_X5_enter_L16 fu nf z1 z2 z3 z4 S = some (r, S') → ∀ (ga : Nat → Nat) (bc bs : Nat), (gP S' - gP S) / 64 + 0 ≤ bc → 2 * gP S' + 0 ≤ 2 * gP S + bs → im_V p l e (im_R 3 mc ms) s m args below meth c g 5 (im_ZG gC below g ad args s mc ms none S') (mx gC ad ga) im_N (im_cn g (mx gC ad ga) S) bc bs 16 [(0, .ref (mx gC ad ga 38)), (1, .int z1), (2, .int z2), (3, .int z3), (4, .int z4)] [] := by
  intro nf
  induction nf with
  | zero =>
    intro z1 z2 z3 z4 S r S' hm
    cases hm
  | succ nf ih =>
    intro z1 z2 z3 z4 S r S' hm ga bc bs b1 b2
    unfold f_X5_enter_L16 at hm
    refine iv_iload (pc := 16) X dX5_enter_16 rfl ?_
    refine iv_sipush (pc := 18) X dX5_enter_18 sc_512 ?_
    refine iv_icmp_ge (pc := 21) X dX5_enter_21 (tgt := 67) rfl (fun hb1 => ?_) (fun hb1 => ?_)
    · rw [if_pos hb1] at hm
      cases hm
      exact is_vretG (pc := 67) X dX5_enter_67
    · rw [if_neg hb1] at hm
      refine iv_iload_n (pc := 24) X dX5_enter_24 rfl ?_
      refine iv_iconst (pc := 25) X dX5_enter_25 ic_m1 ?_
      refine iv_icmp_eq (pc := 26) X dX5_enter_26 (tgt := 67) rfl (fun hb2 => ?_) (fun hb2 => ?_)
      · rw [if_pos hb2] at hm
        cases hm
        exact is_vretG (pc := 67) X dX5_enter_67
      · rw [if_neg hb2] at hm
        refine iv_aload_n (pc := 29) X dX5_enter_29 rfl ?_
        refine iv_aload_n (pc := 30) X dX5_enter_30 rfl ?_
        refine gF_X5_35_38 (pc := 31) X dX5_enter_31 ?_
        refine iv_iload_n (pc := 34) X dX5_enter_34 rfl ?_
        refine iv_sipush (pc := 35) X dX5_enter_35 sc_512 ?_
        refine iv_imul (pc := 38) X dX5_enter_38 ?_
        refine iv_iload_n (pc := 39) X dX5_enter_39 rfl ?_
        refine iv_iadd (pc := 40) X dX5_enter_40 ?_
        refine iv_aload_n (pc := 41) X dX5_enter_41 rfl ?_
        refine gF_X5_57_38 (pc := 42) X dX5_enter_42 (x := S.1 38 10) rfl ?_
        obtain ⟨⟨r4, S3⟩, hc5, hm⟩ := bd_some hm
        have m2 := mo_use (S := S3) hm (by repeat' first | with_reducible exact Mo_none _ | with_reducible refine Mo_gd ?_ | with_reducible refine Mo_ite ?_ ?_ | with_reducible refine Mo_bind ?_ (fun q => ?_) | with_reducible refine Mo_some ?_ | with_reducible refine Mo_of (f_gr65_m _ _) ?_ | with_reducible refine Mo_of (f_gr66_m _ _) ?_ | with_reducible refine Mo_of (f_gr68_m _ _) ?_ | with_reducible refine Mo_of (f_gr69_m _ _) ?_ | with_reducible refine Mo_of (f_gr70_m _ _) ?_ | with_reducible refine Mo_of (f_gr71_m _ _) ?_ | with_reducible refine Mo_of (f_gr73_m _ _) ?_ | with_reducible refine Mo_of (f_gr74_m _ _) ?_ | with_reducible refine Mo_of (f_X0_clear_m _) ?_ | with_reducible refine Mo_of (f_X0_release_m _ _) ?_ | with_reducible refine Mo_of (f_X2_clear_m _) ?_ | with_reducible refine Mo_of (f_X2_outward_L5_m _ _ _ _ _ _ _) ?_ | with_reducible refine Mo_of (f_X2_outward_m _ _ _ _) ?_ | with_reducible refine Mo_of (f_X3_takesNumbers_L12_m _ _ _ _ _ _) ?_ | with_reducible refine Mo_of (f_X3_takesNumbers_m _ _ _) ?_ | with_reducible refine Mo_of (f_X5_condition_m _) ?_ | with_reducible refine Mo_of (f_X5_slotOf_m _ _ _) ?_ | with_reducible refine Mo_of (f_X5_makeReady_m _ _ _) ?_ | with_reducible refine Mo_of (f_X5_send_m _ _ _ _ _) ?_ | with_reducible refine Mo_of (f_X5_leaveFunction_m _) ?_ | with_reducible refine Mo_of (f_X5_turn_m _ _ _) ?_ | with_reducible refine Mo_of (f_X5_leastError_m _ _ _) ?_ | with_reducible refine Mo_of (f_X5_calculate_m _ _ _ _) ?_ | with_reducible refine Mo_of (f_X8_clear_m _) ?_ | with_reducible refine Mo_of (f_X8_put_m _ _ _ _) ?_ | with_reducible refine Mo_of (f_X8_tableOf_m _ _ _) ?_ | with_reducible refine Mo_of (f_X8_firstCell_m _ _) ?_ | with_reducible refine Mo_of (f_X8_cellsIn_m _ _) ?_ | with_reducible refine Mo_of (f_J9_floorMod_f86c9_m _ _ _) ?_ | with_reducible refine Mo_of (f_J7_rangeCheck_23922_m _ _ _ _) ?_ | with_reducible refine Mo_of (f_J7_fill_bad5a_L10_m _ _ _ _ _ _ _) ?_ | with_reducible refine Mo_of (f_J7_fill_bad5a_m _ _ _ _ _) ?_ | with_reducible refine Mo_of (f_J7_fill_eb02e_L10_m _ _ _ _ _ _ _) ?_ | with_reducible refine Mo_of (f_J7_fill_eb02e_m _ _ _ _ _) ?_ | with_reducible refine Mo_of (f_X5_settle_L15_m _ _ _ _ _ _ _ _) ?_ | with_reducible refine Mo_of (f_X5_settle_m _ _ _ _ _) ?_ | with_reducible refine Mo_of (f_X5_handIn_m _ _ _ _ _) ?_ | with_reducible refine Mo_of (f_X5_cellAt_m _ _ _) ?_ | with_reducible refine Mo_of (f_X5_operate_m _ _ _) ?_ | with_reducible refine Mo_of (f_X5_pickCell_m _ _ _) ?_ | with_reducible refine Mo_of (f_X0_add_m _ _ _) ?_ | with_reducible refine Mo_of (f_X2_add_m _ _ _ _) ?_ | with_reducible refine Mo_of (f_X8_take_m _ _ _) ?_ | with_reducible refine Mo_of (f_X5_openFrame_m _ _ _ _ _) ?_ | with_reducible refine Mo_of (f_X5_enter_L16_m _ _ _ _ _ _ _) ?_ | rfl)
        refine cG_X5_142_72_gC (pc := 45) X [.int ((z1 * 512) + z3), .int (S.1 38 10)] [.ref (mx gC ad ga 38)] 2 rfl (f_X0_add_e l g (mx gC ad ga) ((z1 * 512) + z3) (S.1 38 10) S _ _ hc5) (Nat.le_of_ble_eq_true rfl) (Nat.le_of_ble_eq_true rfl) (Nat.le_of_ble_eq_true rfl) rfl dX5_enter_45 (mo_use hc5 (f_X0_add_m ((z1 * 512) + z3) (S.1 38 10) S)) m2 b1 b2 (fun ga bc bs b1 b2 => ?_)
        refine pF_X5_57_38 (pc := 48) X dX5_enter_48 ?_
        refine iv_aload_n (pc := 51) X dX5_enter_51 rfl ?_
        refine gF_X5_12_38 (pc := 52) X dX5_enter_52 ?_
        refine gF_X5_144_40 (pc := 55) X dX5_enter_55 ?_
        refine iv_iload_n (pc := 58) X dX5_enter_58 rfl ?_
        obtain ⟨hg, hm⟩ := gd_some hm
        refine aL_50 (pc := 59) X dX5_enter_59 hg (x := (S3.1 50) z3.toNatClampNeg) rfl ?_
        refine iv_istore_n (pc := 60) X dX5_enter_60 (by decide) (lv' := [(3, .int ((S3.1 50) z3.toNatClampNeg)), (0, .ref (mx gC ad ga 38)), (1, .int z1), (2, .int z2), (4, .int z4)]) rfl ?_
        refine iv_iinc (pc := 61) X dX5_enter_61 rfl (by decide) (v := z4 + 1) rfl (lv' := [(4, .int (z4 + 1)), (3, .int ((S3.1 50) z3.toNatClampNeg)), (0, .ref (mx gC ad ga 38)), (1, .int z1), (2, .int z2)]) rfl ?_
        refine iv_goto (pc := 64) X dX5_enter_64 (tgt := 16) rfl ?_
        refine iv_sub [2, 3, 4, 1, 0] (lv2 := [(0, .ref (mx gC ad ga 38)), (1, .int z1), (2, .int z2), (3, .int ((S3.1 50) z3.toNatClampNeg)), (4, .int (z4 + 1))]) rfl ?_
        exact ih z1 z2 ((S3.1 50) z3.toNatClampNeg) (z4 + 1) (uI S3 38 10 r4) _ _ hm ga bc bs b1 b2
def f_X5_enter (fu : Nat) (x1 : Int32) (x2 : Int32) (S : im_S) : Option (Unit × im_S) := gd (in_b x2 512) (f_X5_enter_L16 fu fu x1 x2 ((S.1 60) x2.toNatClampNeg) 0 S)
theorem f_X5_enter_m (fu : Nat) (x1 : Int32) (x2 : Int32) (S : im_S) : Mo (f_X5_enter fu x1 x2 S) S := by
  unfold f_X5_enter
  repeat' first | with_reducible exact Mo_none _ | with_reducible refine Mo_gd ?_ | with_reducible refine Mo_ite ?_ ?_ | with_reducible refine Mo_bind ?_ (fun q => ?_) | with_reducible refine Mo_some ?_ | with_reducible refine Mo_of (f_gr65_m _ _) ?_ | with_reducible refine Mo_of (f_gr66_m _ _) ?_ | with_reducible refine Mo_of (f_gr68_m _ _) ?_ | with_reducible refine Mo_of (f_gr69_m _ _) ?_ | with_reducible refine Mo_of (f_gr70_m _ _) ?_ | with_reducible refine Mo_of (f_gr71_m _ _) ?_ | with_reducible refine Mo_of (f_gr73_m _ _) ?_ | with_reducible refine Mo_of (f_gr74_m _ _) ?_ | with_reducible refine Mo_of (f_X0_clear_m _) ?_ | with_reducible refine Mo_of (f_X0_release_m _ _) ?_ | with_reducible refine Mo_of (f_X2_clear_m _) ?_ | with_reducible refine Mo_of (f_X2_outward_L5_m _ _ _ _ _ _ _) ?_ | with_reducible refine Mo_of (f_X2_outward_m _ _ _ _) ?_ | with_reducible refine Mo_of (f_X3_takesNumbers_L12_m _ _ _ _ _ _) ?_ | with_reducible refine Mo_of (f_X3_takesNumbers_m _ _ _) ?_ | with_reducible refine Mo_of (f_X5_condition_m _) ?_ | with_reducible refine Mo_of (f_X5_slotOf_m _ _ _) ?_ | with_reducible refine Mo_of (f_X5_makeReady_m _ _ _) ?_ | with_reducible refine Mo_of (f_X5_send_m _ _ _ _ _) ?_ | with_reducible refine Mo_of (f_X5_leaveFunction_m _) ?_ | with_reducible refine Mo_of (f_X5_turn_m _ _ _) ?_ | with_reducible refine Mo_of (f_X5_leastError_m _ _ _) ?_ | with_reducible refine Mo_of (f_X5_calculate_m _ _ _ _) ?_ | with_reducible refine Mo_of (f_X8_clear_m _) ?_ | with_reducible refine Mo_of (f_X8_put_m _ _ _ _) ?_ | with_reducible refine Mo_of (f_X8_tableOf_m _ _ _) ?_ | with_reducible refine Mo_of (f_X8_firstCell_m _ _) ?_ | with_reducible refine Mo_of (f_X8_cellsIn_m _ _) ?_ | with_reducible refine Mo_of (f_J9_floorMod_f86c9_m _ _ _) ?_ | with_reducible refine Mo_of (f_J7_rangeCheck_23922_m _ _ _ _) ?_ | with_reducible refine Mo_of (f_J7_fill_bad5a_L10_m _ _ _ _ _ _ _) ?_ | with_reducible refine Mo_of (f_J7_fill_bad5a_m _ _ _ _ _) ?_ | with_reducible refine Mo_of (f_J7_fill_eb02e_L10_m _ _ _ _ _ _ _) ?_ | with_reducible refine Mo_of (f_J7_fill_eb02e_m _ _ _ _ _) ?_ | with_reducible refine Mo_of (f_X5_settle_L15_m _ _ _ _ _ _ _ _) ?_ | with_reducible refine Mo_of (f_X5_settle_m _ _ _ _ _) ?_ | with_reducible refine Mo_of (f_X5_handIn_m _ _ _ _ _) ?_ | with_reducible refine Mo_of (f_X5_cellAt_m _ _ _) ?_ | with_reducible refine Mo_of (f_X5_operate_m _ _ _) ?_ | with_reducible refine Mo_of (f_X5_pickCell_m _ _ _) ?_ | with_reducible refine Mo_of (f_X0_add_m _ _ _) ?_ | with_reducible refine Mo_of (f_X2_add_m _ _ _ _) ?_ | with_reducible refine Mo_of (f_X8_take_m _ _ _) ?_ | with_reducible refine Mo_of (f_X5_openFrame_m _ _ _ _ _) ?_ | with_reducible refine Mo_of (f_X5_enter_L16_m _ _ _ _ _ _ _) ?_ | rfl
set_option maxHeartbeats 4000000 in
set_option maxRecDepth 100000 in
theorem f_X5_enter_e (l : Launch) (g : im_G) (ad : Nat → Nat) (fu : Nat) (x1 : Int32) (x2 : Int32) (S : im_S) (r : Unit) (S' : im_S) (hm : f_X5_enter fu x1 x2 S = some (r, S')) : im_EG gC l g ad 3 yX5_enter cX5_enter 5 none [.ref (ad 38), .int x1, .int x2] S none S' := by
  unfold f_X5_enter at hm
  refine is_metG (own := RX5) (by decide +kernel) rfl (Nat.le_of_ble_eq_true rfl) (fun p e s m below meth c X ga bc bs b1 b2 => ?_)
  refine iv_aload_n (pc := 0) X dX5_enter_0 rfl ?_
  refine gF_X5_12_38 (pc := 1) X dX5_enter_1 ?_
  refine gF_X5_68_40 (pc := 4) X dX5_enter_4 ?_
  refine gF_X5_139_56 (pc := 7) X dX5_enter_7 ?_
  refine iv_iload_n (pc := 10) X dX5_enter_10 rfl ?_
  obtain ⟨hg, hm⟩ := gd_some hm
  refine aL_60 (pc := 11) X dX5_enter_11 hg (x := (S.1 60) x2.toNatClampNeg) rfl ?_
  refine iv_istore_n (pc := 12) X dX5_enter_12 (by decide) (lv' := [(3, .int ((S.1 60) x2.toNatClampNeg)), (0, .ref (mx gC ad ga 38)), (1, .int x1), (2, .int x2)]) rfl ?_
  refine iv_iconst (pc := 13) X dX5_enter_13 ic_0 ?_
  refine iv_istore (pc := 14) X dX5_enter_14 (by decide) (lv' := [(4, .int 0), (3, .int ((S.1 60) x2.toNatClampNeg)), (0, .ref (mx gC ad ga 38)), (1, .int x1), (2, .int x2)]) rfl ?_
  refine iv_sub [2, 3, 4, 1, 0] (lv2 := [(0, .ref (mx gC ad ga 38)), (1, .int x1), (2, .int x2), (3, .int ((S.1 60) x2.toNatClampNeg)), (4, .int 0)]) rfl ?_
  exact f_X5_enter_L16_w (fu := fu) l g ad X fu x1 x2 ((S.1 60) x2.toNatClampNeg) 0 S _ _ hm ga bc bs b1 b2
def f_X5_await (x1 : Int32) (x2 : Int32) (x3 : Int32) (S : im_S) : Option (Unit × im_S) := gd (in_b x1 (S.2.2 66)) ((f_X0_add ((x2 * 512) + x3) (((S.2.1 66) x1.toNatClampNeg).toInt32) S).bind (fun qS1 => gd (in_b x1 (qS1.2.2.2 66)) (some ((), (uJ qS1.2 66 x1.toNatClampNeg qS1.1.toInt64)))))
theorem f_X5_await_m (x1 : Int32) (x2 : Int32) (x3 : Int32) (S : im_S) : Mo (f_X5_await x1 x2 x3 S) S := by
  unfold f_X5_await
  repeat' first | with_reducible exact Mo_none _ | with_reducible refine Mo_gd ?_ | with_reducible refine Mo_ite ?_ ?_ | with_reducible refine Mo_bind ?_ (fun q => ?_) | with_reducible refine Mo_some ?_ | with_reducible refine Mo_of (f_gr65_m _ _) ?_ | with_reducible refine Mo_of (f_gr66_m _ _) ?_ | with_reducible refine Mo_of (f_gr68_m _ _) ?_ | with_reducible refine Mo_of (f_gr69_m _ _) ?_ | with_reducible refine Mo_of (f_gr70_m _ _) ?_ | with_reducible refine Mo_of (f_gr71_m _ _) ?_ | with_reducible refine Mo_of (f_gr73_m _ _) ?_ | with_reducible refine Mo_of (f_gr74_m _ _) ?_ | with_reducible refine Mo_of (f_X0_clear_m _) ?_ | with_reducible refine Mo_of (f_X0_release_m _ _) ?_ | with_reducible refine Mo_of (f_X2_clear_m _) ?_ | with_reducible refine Mo_of (f_X2_outward_L5_m _ _ _ _ _ _ _) ?_ | with_reducible refine Mo_of (f_X2_outward_m _ _ _ _) ?_ | with_reducible refine Mo_of (f_X3_takesNumbers_L12_m _ _ _ _ _ _) ?_ | with_reducible refine Mo_of (f_X3_takesNumbers_m _ _ _) ?_ | with_reducible refine Mo_of (f_X5_condition_m _) ?_ | with_reducible refine Mo_of (f_X5_slotOf_m _ _ _) ?_ | with_reducible refine Mo_of (f_X5_makeReady_m _ _ _) ?_ | with_reducible refine Mo_of (f_X5_send_m _ _ _ _ _) ?_ | with_reducible refine Mo_of (f_X5_leaveFunction_m _) ?_ | with_reducible refine Mo_of (f_X5_turn_m _ _ _) ?_ | with_reducible refine Mo_of (f_X5_leastError_m _ _ _) ?_ | with_reducible refine Mo_of (f_X5_calculate_m _ _ _ _) ?_ | with_reducible refine Mo_of (f_X8_clear_m _) ?_ | with_reducible refine Mo_of (f_X8_put_m _ _ _ _) ?_ | with_reducible refine Mo_of (f_X8_tableOf_m _ _ _) ?_ | with_reducible refine Mo_of (f_X8_firstCell_m _ _) ?_ | with_reducible refine Mo_of (f_X8_cellsIn_m _ _) ?_ | with_reducible refine Mo_of (f_J9_floorMod_f86c9_m _ _ _) ?_ | with_reducible refine Mo_of (f_J7_rangeCheck_23922_m _ _ _ _) ?_ | with_reducible refine Mo_of (f_J7_fill_bad5a_L10_m _ _ _ _ _ _ _) ?_ | with_reducible refine Mo_of (f_J7_fill_bad5a_m _ _ _ _ _) ?_ | with_reducible refine Mo_of (f_J7_fill_eb02e_L10_m _ _ _ _ _ _ _) ?_ | with_reducible refine Mo_of (f_J7_fill_eb02e_m _ _ _ _ _) ?_ | with_reducible refine Mo_of (f_X5_settle_L15_m _ _ _ _ _ _ _ _) ?_ | with_reducible refine Mo_of (f_X5_settle_m _ _ _ _ _) ?_ | with_reducible refine Mo_of (f_X5_handIn_m _ _ _ _ _) ?_ | with_reducible refine Mo_of (f_X5_cellAt_m _ _ _) ?_ | with_reducible refine Mo_of (f_X5_operate_m _ _ _) ?_ | with_reducible refine Mo_of (f_X5_pickCell_m _ _ _) ?_ | with_reducible refine Mo_of (f_X0_add_m _ _ _) ?_ | with_reducible refine Mo_of (f_X2_add_m _ _ _ _) ?_ | with_reducible refine Mo_of (f_X8_take_m _ _ _) ?_ | with_reducible refine Mo_of (f_X5_openFrame_m _ _ _ _ _) ?_ | with_reducible refine Mo_of (f_X5_enter_L16_m _ _ _ _ _ _ _) ?_ | with_reducible refine Mo_of (f_X5_enter_m _ _ _ _) ?_ | rfl
set_option maxHeartbeats 4000000 in
set_option maxRecDepth 100000 in
theorem f_X5_await_e (l : Launch) (g : im_G) (ad : Nat → Nat) (x1 : Int32) (x2 : Int32) (x3 : Int32) (S : im_S) (r : Unit) (S' : im_S) (hm : f_X5_await x1 x2 x3 S = some (r, S')) : im_EG gC l g ad 3 yX5_await cX5_await 5 none [.ref (ad 38), .int x1, .int x2, .int x3] S none S' := by
  unfold f_X5_await at hm
  refine is_metG (own := RX5) (by decide +kernel) rfl (Nat.le_of_ble_eq_true rfl) (fun p e s m below meth c X ga bc bs b1 b2 => ?_)
  refine iv_iload_n (pc := 0) X dX5_await_0 rfl ?_
  refine iv_sipush (pc := 1) X dX5_await_1 sc_512 ?_
  refine iv_imul (pc := 4) X dX5_await_4 ?_
  refine iv_iload_n (pc := 5) X dX5_await_5 rfl ?_
  refine iv_iadd (pc := 6) X dX5_await_6 ?_
  refine iv_istore (pc := 7) X dX5_await_7 (by decide) (lv' := [(4, .int ((x2 * 512) + x3)), (0, .ref (mx gC ad ga 38)), (1, .int x1), (2, .int x2), (3, .int x3)]) rfl ?_
  refine iv_aload_n (pc := 9) X dX5_await_9 rfl ?_
  refine gF_X5_21_38 (pc := 10) X dX5_await_10 ?_
  refine gF_X5_160_64 (pc := 13) X dX5_await_13 ?_
  refine iv_iload_n (pc := 16) X dX5_await_16 rfl ?_
  refine iv_aload_n (pc := 17) X dX5_await_17 rfl ?_
  refine gF_X5_35_38 (pc := 18) X dX5_await_18 ?_
  refine iv_iload (pc := 21) X dX5_await_21 rfl ?_
  refine iv_aload_n (pc := 23) X dX5_await_23 rfl ?_
  refine gF_X5_21_38 (pc := 24) X dX5_await_24 ?_
  refine gF_X5_160_64 (pc := 27) X dX5_await_27 ?_
  refine iv_iload_n (pc := 30) X dX5_await_30 rfl ?_
  obtain ⟨hg, hm⟩ := gd_some hm
  refine aL_66 (pc := 31) X dX5_await_31 hg (x := (S.2.1 66) x1.toNatClampNeg) rfl ?_
  refine iv_l2i (pc := 32) X dX5_await_32 rfl ?_
  obtain ⟨⟨r2, S1⟩, hc3, hm⟩ := bd_some hm
  have m2 := mo_use (S := S1) hm (by repeat' first | with_reducible exact Mo_none _ | with_reducible refine Mo_gd ?_ | with_reducible refine Mo_ite ?_ ?_ | with_reducible refine Mo_bind ?_ (fun q => ?_) | with_reducible refine Mo_some ?_ | with_reducible refine Mo_of (f_gr65_m _ _) ?_ | with_reducible refine Mo_of (f_gr66_m _ _) ?_ | with_reducible refine Mo_of (f_gr68_m _ _) ?_ | with_reducible refine Mo_of (f_gr69_m _ _) ?_ | with_reducible refine Mo_of (f_gr70_m _ _) ?_ | with_reducible refine Mo_of (f_gr71_m _ _) ?_ | with_reducible refine Mo_of (f_gr73_m _ _) ?_ | with_reducible refine Mo_of (f_gr74_m _ _) ?_ | with_reducible refine Mo_of (f_X0_clear_m _) ?_ | with_reducible refine Mo_of (f_X0_release_m _ _) ?_ | with_reducible refine Mo_of (f_X2_clear_m _) ?_ | with_reducible refine Mo_of (f_X2_outward_L5_m _ _ _ _ _ _ _) ?_ | with_reducible refine Mo_of (f_X2_outward_m _ _ _ _) ?_ | with_reducible refine Mo_of (f_X3_takesNumbers_L12_m _ _ _ _ _ _) ?_ | with_reducible refine Mo_of (f_X3_takesNumbers_m _ _ _) ?_ | with_reducible refine Mo_of (f_X5_condition_m _) ?_ | with_reducible refine Mo_of (f_X5_slotOf_m _ _ _) ?_ | with_reducible refine Mo_of (f_X5_makeReady_m _ _ _) ?_ | with_reducible refine Mo_of (f_X5_send_m _ _ _ _ _) ?_ | with_reducible refine Mo_of (f_X5_leaveFunction_m _) ?_ | with_reducible refine Mo_of (f_X5_turn_m _ _ _) ?_ | with_reducible refine Mo_of (f_X5_leastError_m _ _ _) ?_ | with_reducible refine Mo_of (f_X5_calculate_m _ _ _ _) ?_ | with_reducible refine Mo_of (f_X8_clear_m _) ?_ | with_reducible refine Mo_of (f_X8_put_m _ _ _ _) ?_ | with_reducible refine Mo_of (f_X8_tableOf_m _ _ _) ?_ | with_reducible refine Mo_of (f_X8_firstCell_m _ _) ?_ | with_reducible refine Mo_of (f_X8_cellsIn_m _ _) ?_ | with_reducible refine Mo_of (f_J9_floorMod_f86c9_m _ _ _) ?_ | with_reducible refine Mo_of (f_J7_rangeCheck_23922_m _ _ _ _) ?_ | with_reducible refine Mo_of (f_J7_fill_bad5a_L10_m _ _ _ _ _ _ _) ?_ | with_reducible refine Mo_of (f_J7_fill_bad5a_m _ _ _ _ _) ?_ | with_reducible refine Mo_of (f_J7_fill_eb02e_L10_m _ _ _ _ _ _ _) ?_ | with_reducible refine Mo_of (f_J7_fill_eb02e_m _ _ _ _ _) ?_ | with_reducible refine Mo_of (f_X5_settle_L15_m _ _ _ _ _ _ _ _) ?_ | with_reducible refine Mo_of (f_X5_settle_m _ _ _ _ _) ?_ | with_reducible refine Mo_of (f_X5_handIn_m _ _ _ _ _) ?_ | with_reducible refine Mo_of (f_X5_cellAt_m _ _ _) ?_ | with_reducible refine Mo_of (f_X5_operate_m _ _ _) ?_ | with_reducible refine Mo_of (f_X5_pickCell_m _ _ _) ?_ | with_reducible refine Mo_of (f_X0_add_m _ _ _) ?_ | with_reducible refine Mo_of (f_X2_add_m _ _ _ _) ?_ | with_reducible refine Mo_of (f_X8_take_m _ _ _) ?_ | with_reducible refine Mo_of (f_X5_openFrame_m _ _ _ _ _) ?_ | with_reducible refine Mo_of (f_X5_enter_L16_m _ _ _ _ _ _ _) ?_ | with_reducible refine Mo_of (f_X5_enter_m _ _ _ _) ?_ | with_reducible refine Mo_of (f_X5_await_m _ _ _ _) ?_ | rfl)
  refine cG_X5_142_72_gC (pc := 33) X [.int ((x2 * 512) + x3), .int (((S.2.1 66) x1.toNatClampNeg).toInt32)] [.int x1, .ref (mx gC ad ga 66)] 2 rfl (f_X0_add_e l g (mx gC ad ga) ((x2 * 512) + x3) (((S.2.1 66) x1.toNatClampNeg).toInt32) S _ _ hc3) (Nat.le_of_ble_eq_true rfl) (Nat.le_of_ble_eq_true rfl) (Nat.le_of_ble_eq_true rfl) rfl dX5_await_33 (mo_use hc3 (f_X0_add_m ((x2 * 512) + x3) (((S.2.1 66) x1.toNatClampNeg).toInt32) S)) m2 b1 b2 (fun ga bc bs b1 b2 => ?_)
  refine iv_i2l (pc := 36) X dX5_await_36 rfl ?_
  obtain ⟨hg, hm⟩ := gd_some hm
  refine aS_66 (pc := 37) X dX5_await_37 hg ?_
  cases hm
  exact is_vretG (pc := 38) X dX5_await_38
def f_X5_lookUp (fu : Nat) (x1 : Int32) (x2 : Int32) (S : im_S) : Option (Unit × im_S) := gd (in_b x2 512) (gd (in_b x2 512) (gd (in_b ((S.1 51) x2.toNatClampNeg) 512) (gd (in_b ((S.1 46) x2.toNatClampNeg) 512) (gd (in_b ((S.1 51) (((S.1 46) x2.toNatClampNeg).toNatClampNeg)) 512) ((f_X2_outward fu x1 (((S.1 63) (((S.1 51) x2.toNatClampNeg).toNatClampNeg)) - ((S.1 63) (((S.1 51) (((S.1 46) x2.toNatClampNeg).toNatClampNeg)).toNatClampNeg))) S).bind (fun qS1 => (f_X5_slotOf qS1.1 ((S.1 46) x2.toNatClampNeg) qS1.2).bind (fun qS4 => gd (in_b qS4.1 (qS4.2.2.2 65)) (if ((qS4.2.1 65) qS4.1.toNatClampNeg : Int32) ≠ 0 then (gd (in_b qS4.1 (qS4.2.2.2 65)) (gd (in_b qS4.1 (qS4.2.2.2 66)) ((f_X5_send x1 x2 ((qS4.2.1 65) qS4.1.toNatClampNeg) ((qS4.2.2.1 66) qS4.1.toNatClampNeg) qS4.2).bind (fun qS8 => some ((), qS8.2))))) else ((f_X5_await qS4.1 x1 x2 qS4.2).bind (fun qS11 => some ((), qS11.2)))))))))))
theorem f_X5_lookUp_m (fu : Nat) (x1 : Int32) (x2 : Int32) (S : im_S) : Mo (f_X5_lookUp fu x1 x2 S) S := by
  unfold f_X5_lookUp
  repeat' first | with_reducible exact Mo_none _ | with_reducible refine Mo_gd ?_ | with_reducible refine Mo_ite ?_ ?_ | with_reducible refine Mo_bind ?_ (fun q => ?_) | with_reducible refine Mo_some ?_ | with_reducible refine Mo_of (f_gr65_m _ _) ?_ | with_reducible refine Mo_of (f_gr66_m _ _) ?_ | with_reducible refine Mo_of (f_gr68_m _ _) ?_ | with_reducible refine Mo_of (f_gr69_m _ _) ?_ | with_reducible refine Mo_of (f_gr70_m _ _) ?_ | with_reducible refine Mo_of (f_gr71_m _ _) ?_ | with_reducible refine Mo_of (f_gr73_m _ _) ?_ | with_reducible refine Mo_of (f_gr74_m _ _) ?_ | with_reducible refine Mo_of (f_X0_clear_m _) ?_ | with_reducible refine Mo_of (f_X0_release_m _ _) ?_ | with_reducible refine Mo_of (f_X2_clear_m _) ?_ | with_reducible refine Mo_of (f_X2_outward_L5_m _ _ _ _ _ _ _) ?_ | with_reducible refine Mo_of (f_X2_outward_m _ _ _ _) ?_ | with_reducible refine Mo_of (f_X3_takesNumbers_L12_m _ _ _ _ _ _) ?_ | with_reducible refine Mo_of (f_X3_takesNumbers_m _ _ _) ?_ | with_reducible refine Mo_of (f_X5_condition_m _) ?_ | with_reducible refine Mo_of (f_X5_slotOf_m _ _ _) ?_ | with_reducible refine Mo_of (f_X5_makeReady_m _ _ _) ?_ | with_reducible refine Mo_of (f_X5_send_m _ _ _ _ _) ?_ | with_reducible refine Mo_of (f_X5_leaveFunction_m _) ?_ | with_reducible refine Mo_of (f_X5_turn_m _ _ _) ?_ | with_reducible refine Mo_of (f_X5_leastError_m _ _ _) ?_ | with_reducible refine Mo_of (f_X5_calculate_m _ _ _ _) ?_ | with_reducible refine Mo_of (f_X8_clear_m _) ?_ | with_reducible refine Mo_of (f_X8_put_m _ _ _ _) ?_ | with_reducible refine Mo_of (f_X8_tableOf_m _ _ _) ?_ | with_reducible refine Mo_of (f_X8_firstCell_m _ _) ?_ | with_reducible refine Mo_of (f_X8_cellsIn_m _ _) ?_ | with_reducible refine Mo_of (f_J9_floorMod_f86c9_m _ _ _) ?_ | with_reducible refine Mo_of (f_J7_rangeCheck_23922_m _ _ _ _) ?_ | with_reducible refine Mo_of (f_J7_fill_bad5a_L10_m _ _ _ _ _ _ _) ?_ | with_reducible refine Mo_of (f_J7_fill_bad5a_m _ _ _ _ _) ?_ | with_reducible refine Mo_of (f_J7_fill_eb02e_L10_m _ _ _ _ _ _ _) ?_ | with_reducible refine Mo_of (f_J7_fill_eb02e_m _ _ _ _ _) ?_ | with_reducible refine Mo_of (f_X5_settle_L15_m _ _ _ _ _ _ _ _) ?_ | with_reducible refine Mo_of (f_X5_settle_m _ _ _ _ _) ?_ | with_reducible refine Mo_of (f_X5_handIn_m _ _ _ _ _) ?_ | with_reducible refine Mo_of (f_X5_cellAt_m _ _ _) ?_ | with_reducible refine Mo_of (f_X5_operate_m _ _ _) ?_ | with_reducible refine Mo_of (f_X5_pickCell_m _ _ _) ?_ | with_reducible refine Mo_of (f_X0_add_m _ _ _) ?_ | with_reducible refine Mo_of (f_X2_add_m _ _ _ _) ?_ | with_reducible refine Mo_of (f_X8_take_m _ _ _) ?_ | with_reducible refine Mo_of (f_X5_openFrame_m _ _ _ _ _) ?_ | with_reducible refine Mo_of (f_X5_enter_L16_m _ _ _ _ _ _ _) ?_ | with_reducible refine Mo_of (f_X5_enter_m _ _ _ _) ?_ | with_reducible refine Mo_of (f_X5_await_m _ _ _ _) ?_ | rfl
set_option maxHeartbeats 4000000 in
set_option maxRecDepth 100000 in
theorem f_X5_lookUp_e (l : Launch) (g : im_G) (ad : Nat → Nat) (fu : Nat) (x1 : Int32) (x2 : Int32) (S : im_S) (r : Unit) (S' : im_S) (hm : f_X5_lookUp fu x1 x2 S = some (r, S')) : im_EG gC l g ad 4 yX5_lookUp cX5_lookUp 7 none [.ref (ad 38), .int x1, .int x2] S none S' := by
  unfold f_X5_lookUp at hm
  refine is_metG (own := RX5) (by decide +kernel) rfl (Nat.le_of_ble_eq_true rfl) (fun p e s m below meth c X ga bc bs b1 b2 => ?_)
  refine iv_aload_n (pc := 0) X dX5_lookUp_0 rfl ?_
  refine gF_X5_12_38 (pc := 1) X dX5_lookUp_1 ?_
  refine gF_X5_201_40 (pc := 4) X dX5_lookUp_4 ?_
  refine iv_iload_n (pc := 7) X dX5_lookUp_7 rfl ?_
  obtain ⟨hg, hm⟩ := gd_some hm
  refine aL_46 (pc := 8) X dX5_lookUp_8 hg (x := (S.1 46) x2.toNatClampNeg) rfl ?_
  refine iv_istore_n (pc := 9) X dX5_lookUp_9 (by decide) (lv' := [(3, .int ((S.1 46) x2.toNatClampNeg)), (0, .ref (mx gC ad ga 38)), (1, .int x1), (2, .int x2)]) rfl ?_
  refine iv_aload_n (pc := 10) X dX5_lookUp_10 rfl ?_
  refine gF_X5_12_38 (pc := 11) X dX5_lookUp_11 ?_
  refine gF_X5_68_40 (pc := 14) X dX5_lookUp_14 ?_
  refine gF_X5_204_56 (pc := 17) X dX5_lookUp_17 ?_
  refine iv_aload_n (pc := 20) X dX5_lookUp_20 rfl ?_
  refine gF_X5_12_38 (pc := 21) X dX5_lookUp_21 ?_
  refine gF_X5_207_40 (pc := 24) X dX5_lookUp_24 ?_
  refine iv_iload_n (pc := 27) X dX5_lookUp_27 rfl ?_
  obtain ⟨hg, hm⟩ := gd_some hm
  refine aL_51 (pc := 28) X dX5_lookUp_28 hg (x := (S.1 51) x2.toNatClampNeg) rfl ?_
  obtain ⟨hg, hm⟩ := gd_some hm
  refine aL_63 (pc := 29) X dX5_lookUp_29 hg (x := (S.1 63) (((S.1 51) x2.toNatClampNeg).toNatClampNeg)) rfl ?_
  refine iv_istore (pc := 30) X dX5_lookUp_30 (by decide) (lv' := [(4, .int ((S.1 63) (((S.1 51) x2.toNatClampNeg).toNatClampNeg))), (3, .int ((S.1 46) x2.toNatClampNeg)), (0, .ref (mx gC ad ga 38)), (1, .int x1), (2, .int x2)]) rfl ?_
  refine iv_aload_n (pc := 32) X dX5_lookUp_32 rfl ?_
  refine gF_X5_12_38 (pc := 33) X dX5_lookUp_33 ?_
  refine gF_X5_68_40 (pc := 36) X dX5_lookUp_36 ?_
  refine gF_X5_204_56 (pc := 39) X dX5_lookUp_39 ?_
  refine iv_aload_n (pc := 42) X dX5_lookUp_42 rfl ?_
  refine gF_X5_12_38 (pc := 43) X dX5_lookUp_43 ?_
  refine gF_X5_207_40 (pc := 46) X dX5_lookUp_46 ?_
  refine iv_iload_n (pc := 49) X dX5_lookUp_49 rfl ?_
  obtain ⟨hg, hm⟩ := gd_some hm
  refine aL_51 (pc := 50) X dX5_lookUp_50 hg (x := (S.1 51) (((S.1 46) x2.toNatClampNeg).toNatClampNeg)) rfl ?_
  obtain ⟨hg, hm⟩ := gd_some hm
  refine aL_63 (pc := 51) X dX5_lookUp_51 hg (x := (S.1 63) (((S.1 51) (((S.1 46) x2.toNatClampNeg).toNatClampNeg)).toNatClampNeg)) rfl ?_
  refine iv_istore (pc := 52) X dX5_lookUp_52 (by decide) (lv' := [(5, .int ((S.1 63) (((S.1 51) (((S.1 46) x2.toNatClampNeg).toNatClampNeg)).toNatClampNeg))), (4, .int ((S.1 63) (((S.1 51) x2.toNatClampNeg).toNatClampNeg))), (3, .int ((S.1 46) x2.toNatClampNeg)), (0, .ref (mx gC ad ga 38)), (1, .int x1), (2, .int x2)]) rfl ?_
  refine iv_aload_n (pc := 54) X dX5_lookUp_54 rfl ?_
  refine iv_aload_n (pc := 55) X dX5_lookUp_55 rfl ?_
  refine gF_X5_28_38 (pc := 56) X dX5_lookUp_56 ?_
  refine iv_iload_n (pc := 59) X dX5_lookUp_59 rfl ?_
  refine iv_iload (pc := 60) X dX5_lookUp_60 rfl ?_
  refine iv_iload (pc := 62) X dX5_lookUp_62 rfl ?_
  refine iv_isub (pc := 64) X dX5_lookUp_64 ?_
  obtain ⟨⟨r2, S1⟩, hc3, hm⟩ := bd_some hm
  refine cV_X5_208_67 (pc := 65) X [.int x1, .int (((S.1 63) (((S.1 51) x2.toNatClampNeg).toNatClampNeg)) - ((S.1 63) (((S.1 51) (((S.1 46) x2.toNatClampNeg).toNatClampNeg)).toNatClampNeg)))] [.ref (mx gC ad ga 38)] 2 rfl (f_X2_outward_e l g (mx gC ad ga) fu x1 (((S.1 63) (((S.1 51) x2.toNatClampNeg).toNatClampNeg)) - ((S.1 63) (((S.1 51) (((S.1 46) x2.toNatClampNeg).toNatClampNeg)).toNatClampNeg))) S _ _ hc3) (Nat.le_of_ble_eq_true rfl) (Nat.le_of_ble_eq_true rfl) (Nat.le_of_ble_eq_true rfl) rfl dX5_lookUp_65 ?_
  have b1 := gb_step (mo_use hc3 (f_X2_outward_m fu x1 (((S.1 63) (((S.1 51) x2.toNatClampNeg).toNatClampNeg)) - ((S.1 63) (((S.1 51) (((S.1 46) x2.toNatClampNeg).toNatClampNeg)).toNatClampNeg))) S)) b1
  have b2 := gb_step2 (mo_use hc3 (f_X2_outward_m fu x1 (((S.1 63) (((S.1 51) x2.toNatClampNeg).toNatClampNeg)) - ((S.1 63) (((S.1 51) (((S.1 46) x2.toNatClampNeg).toNatClampNeg)).toNatClampNeg))) S)) b2
  refine iv_iload_n (pc := 68) X dX5_lookUp_68 rfl ?_
  obtain ⟨⟨r5, S4⟩, hc6, hm⟩ := bd_some hm
  refine cV_X5_84_38 (pc := 69) X [.int r2, .int ((S.1 46) x2.toNatClampNeg)] [] 2 rfl (f_X5_slotOf_e l g (mx gC ad ga) r2 ((S.1 46) x2.toNatClampNeg) S1 _ _ hc6) (Nat.le_of_ble_eq_true rfl) (Nat.le_of_ble_eq_true rfl) (Nat.le_of_ble_eq_true rfl) rfl dX5_lookUp_69 ?_
  have b1 := gb_step (mo_use hc6 (f_X5_slotOf_m r2 ((S.1 46) x2.toNatClampNeg) S1)) b1
  have b2 := gb_step2 (mo_use hc6 (f_X5_slotOf_m r2 ((S.1 46) x2.toNatClampNeg) S1)) b2
  refine iv_istore (pc := 72) X dX5_lookUp_72 (by decide) (lv' := [(6, .int r5), (5, .int ((S.1 63) (((S.1 51) (((S.1 46) x2.toNatClampNeg).toNatClampNeg)).toNatClampNeg))), (4, .int ((S.1 63) (((S.1 51) x2.toNatClampNeg).toNatClampNeg))), (3, .int ((S.1 46) x2.toNatClampNeg)), (0, .ref (mx gC ad ga 38)), (1, .int x1), (2, .int x2)]) rfl ?_
  refine iv_aload_n (pc := 74) X dX5_lookUp_74 rfl ?_
  refine gF_X5_21_38 (pc := 75) X dX5_lookUp_75 ?_
  refine gF_X5_211_64 (pc := 78) X dX5_lookUp_78 ?_
  refine iv_iload (pc := 81) X dX5_lookUp_81 rfl ?_
  obtain ⟨hg, hm⟩ := gd_some hm
  refine aL_65 (pc := 83) X dX5_lookUp_83 hg (x := (S4.1 65) r5.toNatClampNeg) rfl ?_
  refine iv_if_ne (pc := 84) X dX5_lookUp_84 (tgt := 98) rfl (fun hb7 => ?_) (fun hb7 => ?_)
  · rw [if_pos hb7] at hm
    refine iv_aload_n (pc := 98) X dX5_lookUp_98 rfl ?_
    refine iv_iload_n (pc := 99) X dX5_lookUp_99 rfl ?_
    refine iv_iload_n (pc := 100) X dX5_lookUp_100 rfl ?_
    refine iv_aload_n (pc := 101) X dX5_lookUp_101 rfl ?_
    refine gF_X5_21_38 (pc := 102) X dX5_lookUp_102 ?_
    refine gF_X5_211_64 (pc := 105) X dX5_lookUp_105 ?_
    refine iv_iload (pc := 108) X dX5_lookUp_108 rfl ?_
    obtain ⟨hg, hm⟩ := gd_some hm
    refine aL_65 (pc := 110) X dX5_lookUp_110 hg (x := (S4.1 65) r5.toNatClampNeg) rfl ?_
    refine iv_aload_n (pc := 111) X dX5_lookUp_111 rfl ?_
    refine gF_X5_21_38 (pc := 112) X dX5_lookUp_112 ?_
    refine gF_X5_160_64 (pc := 115) X dX5_lookUp_115 ?_
    refine iv_iload (pc := 118) X dX5_lookUp_118 rfl ?_
    obtain ⟨hg, hm⟩ := gd_some hm
    refine aL_66 (pc := 120) X dX5_lookUp_120 hg (x := (S4.2.1 66) r5.toNatClampNeg) rfl ?_
    obtain ⟨⟨r9, S8⟩, hc10, hm⟩ := bd_some hm
    refine cV_X5_188_38 (pc := 121) X [.int x1, .int x2, .int ((S4.1 65) r5.toNatClampNeg), .long ((S4.2.1 66) r5.toNatClampNeg)] [] 4 rfl (f_X5_send_e l g (mx gC ad ga) x1 x2 ((S4.1 65) r5.toNatClampNeg) ((S4.2.1 66) r5.toNatClampNeg) S4 _ _ hc10) (Nat.le_of_ble_eq_true rfl) (Nat.le_of_ble_eq_true rfl) (Nat.le_of_ble_eq_true rfl) rfl dX5_lookUp_121 ?_
    have b1 := gb_step (mo_use hc10 (f_X5_send_m x1 x2 ((S4.1 65) r5.toNatClampNeg) ((S4.2.1 66) r5.toNatClampNeg) S4)) b1
    have b2 := gb_step2 (mo_use hc10 (f_X5_send_m x1 x2 ((S4.1 65) r5.toNatClampNeg) ((S4.2.1 66) r5.toNatClampNeg) S4)) b2
    cases hm
    exact is_vretG (pc := 124) X dX5_lookUp_124
  · rw [if_neg hb7] at hm
    refine iv_aload_n (pc := 87) X dX5_lookUp_87 rfl ?_
    refine iv_iload (pc := 88) X dX5_lookUp_88 rfl ?_
    refine iv_iload_n (pc := 90) X dX5_lookUp_90 rfl ?_
    refine iv_iload_n (pc := 91) X dX5_lookUp_91 rfl ?_
    obtain ⟨⟨r12, S11⟩, hc13, hm⟩ := bd_some hm
    have m2 := mo_use (S := S11) hm (by repeat' first | with_reducible exact Mo_none _ | with_reducible refine Mo_gd ?_ | with_reducible refine Mo_ite ?_ ?_ | with_reducible refine Mo_bind ?_ (fun q => ?_) | with_reducible refine Mo_some ?_ | with_reducible refine Mo_of (f_gr65_m _ _) ?_ | with_reducible refine Mo_of (f_gr66_m _ _) ?_ | with_reducible refine Mo_of (f_gr68_m _ _) ?_ | with_reducible refine Mo_of (f_gr69_m _ _) ?_ | with_reducible refine Mo_of (f_gr70_m _ _) ?_ | with_reducible refine Mo_of (f_gr71_m _ _) ?_ | with_reducible refine Mo_of (f_gr73_m _ _) ?_ | with_reducible refine Mo_of (f_gr74_m _ _) ?_ | with_reducible refine Mo_of (f_X0_clear_m _) ?_ | with_reducible refine Mo_of (f_X0_release_m _ _) ?_ | with_reducible refine Mo_of (f_X2_clear_m _) ?_ | with_reducible refine Mo_of (f_X2_outward_L5_m _ _ _ _ _ _ _) ?_ | with_reducible refine Mo_of (f_X2_outward_m _ _ _ _) ?_ | with_reducible refine Mo_of (f_X3_takesNumbers_L12_m _ _ _ _ _ _) ?_ | with_reducible refine Mo_of (f_X3_takesNumbers_m _ _ _) ?_ | with_reducible refine Mo_of (f_X5_condition_m _) ?_ | with_reducible refine Mo_of (f_X5_slotOf_m _ _ _) ?_ | with_reducible refine Mo_of (f_X5_makeReady_m _ _ _) ?_ | with_reducible refine Mo_of (f_X5_send_m _ _ _ _ _) ?_ | with_reducible refine Mo_of (f_X5_leaveFunction_m _) ?_ | with_reducible refine Mo_of (f_X5_turn_m _ _ _) ?_ | with_reducible refine Mo_of (f_X5_leastError_m _ _ _) ?_ | with_reducible refine Mo_of (f_X5_calculate_m _ _ _ _) ?_ | with_reducible refine Mo_of (f_X8_clear_m _) ?_ | with_reducible refine Mo_of (f_X8_put_m _ _ _ _) ?_ | with_reducible refine Mo_of (f_X8_tableOf_m _ _ _) ?_ | with_reducible refine Mo_of (f_X8_firstCell_m _ _) ?_ | with_reducible refine Mo_of (f_X8_cellsIn_m _ _) ?_ | with_reducible refine Mo_of (f_J9_floorMod_f86c9_m _ _ _) ?_ | with_reducible refine Mo_of (f_J7_rangeCheck_23922_m _ _ _ _) ?_ | with_reducible refine Mo_of (f_J7_fill_bad5a_L10_m _ _ _ _ _ _ _) ?_ | with_reducible refine Mo_of (f_J7_fill_bad5a_m _ _ _ _ _) ?_ | with_reducible refine Mo_of (f_J7_fill_eb02e_L10_m _ _ _ _ _ _ _) ?_ | with_reducible refine Mo_of (f_J7_fill_eb02e_m _ _ _ _ _) ?_ | with_reducible refine Mo_of (f_X5_settle_L15_m _ _ _ _ _ _ _ _) ?_ | with_reducible refine Mo_of (f_X5_settle_m _ _ _ _ _) ?_ | with_reducible refine Mo_of (f_X5_handIn_m _ _ _ _ _) ?_ | with_reducible refine Mo_of (f_X5_cellAt_m _ _ _) ?_ | with_reducible refine Mo_of (f_X5_operate_m _ _ _) ?_ | with_reducible refine Mo_of (f_X5_pickCell_m _ _ _) ?_ | with_reducible refine Mo_of (f_X0_add_m _ _ _) ?_ | with_reducible refine Mo_of (f_X2_add_m _ _ _ _) ?_ | with_reducible refine Mo_of (f_X8_take_m _ _ _) ?_ | with_reducible refine Mo_of (f_X5_openFrame_m _ _ _ _ _) ?_ | with_reducible refine Mo_of (f_X5_enter_L16_m _ _ _ _ _ _ _) ?_ | with_reducible refine Mo_of (f_X5_enter_m _ _ _ _) ?_ | with_reducible refine Mo_of (f_X5_await_m _ _ _ _) ?_ | with_reducible refine Mo_of (f_X5_lookUp_m _ _ _ _) ?_ | rfl)
    refine cG_X5_214_38_gC (pc := 92) X [.int r5, .int x1, .int x2] [] 3 rfl (f_X5_await_e l g (mx gC ad ga) r5 x1 x2 S4 _ _ hc13) (Nat.le_of_ble_eq_true rfl) (Nat.le_of_ble_eq_true rfl) (Nat.le_of_ble_eq_true rfl) rfl dX5_lookUp_92 (mo_use hc13 (f_X5_await_m r5 x1 x2 S4)) m2 b1 b2 (fun ga bc bs b1 b2 => ?_)
    refine iv_goto (pc := 95) X dX5_lookUp_95 (tgt := 124) rfl ?_
    cases hm
    exact is_vretG (pc := 124) X dX5_lookUp_124
def f_X5_beginLoop_L52 (fu : Nat) : Nat → Int32 → Int32 → Int32 → Int32 → Int32 → Int32 → im_S → Option (Unit × im_S)
  | 0, _, _, _, _, _, _, _ => none
  | nf + 1, z1, z2, z3, z4, z5, z6, S => if (4 : Int32) ≤ z6 then ((f_X5_enter fu z4 z3 S).bind (fun qS2 => some ((), qS2.2))) else (if (z5 : Int32) = (-1) then ((f_X5_enter fu z4 z3 S).bind (fun qS6 => some ((), qS6.2))) else (gd (in_b z5 512) (gd (in_b ((S.1 46) z5.toNatClampNeg) 512) (if ((S.1 43) (((S.1 46) z5.toNatClampNeg).toNatClampNeg) : Int32) ≠ 5 then (gd (in_b z5 512) (f_X5_beginLoop_L52 fu nf z1 z2 z3 z4 ((S.1 48) z5.toNatClampNeg) (z6 + 1) S)) else (gd (in_b z5 512) ((f_X5_handIn fu z1 ((S.1 46) z5.toNatClampNeg) z4 S).bind (fun qS10 => gd (in_b z5 512) (f_X5_beginLoop_L52 fu nf z1 z2 z3 z4 ((qS10.2.1 48) z5.toNatClampNeg) (z6 + 1) qS10.2))))))))
theorem f_X5_beginLoop_L52_m (fu : Nat) : ∀ (nf : Nat) (z1 : Int32) (z2 : Int32) (z3 : Int32) (z4 : Int32) (z5 : Int32) (z6 : Int32) (S : im_S), Mo (f_X5_beginLoop_L52 fu nf z1 z2 z3 z4 z5 z6 S) S := by
  intro nf
  induction nf with
  | zero => intro z1 z2 z3 z4 z5 z6 S; exact Mo_none _
  | succ nf ih =>
    intro z1 z2 z3 z4 z5 z6 S
    unfold f_X5_beginLoop_L52
    repeat' first | with_reducible exact Mo_none _ | with_reducible refine Mo_gd ?_ | with_reducible refine Mo_ite ?_ ?_ | with_reducible refine Mo_bind ?_ (fun q => ?_) | with_reducible refine Mo_some ?_ | with_reducible refine Mo_of (ih _ _ _ _ _ _ _) ?_ | with_reducible refine Mo_of (f_gr65_m _ _) ?_ | with_reducible refine Mo_of (f_gr66_m _ _) ?_ | with_reducible refine Mo_of (f_gr68_m _ _) ?_ | with_reducible refine Mo_of (f_gr69_m _ _) ?_ | with_reducible refine Mo_of (f_gr70_m _ _) ?_ | with_reducible refine Mo_of (f_gr71_m _ _) ?_ | with_reducible refine Mo_of (f_gr73_m _ _) ?_ | with_reducible refine Mo_of (f_gr74_m _ _) ?_ | with_reducible refine Mo_of (f_X0_clear_m _) ?_ | with_reducible refine Mo_of (f_X0_release_m _ _) ?_ | with_reducible refine Mo_of (f_X2_clear_m _) ?_ | with_reducible refine Mo_of (f_X2_outward_L5_m _ _ _ _ _ _ _) ?_ | with_reducible refine Mo_of (f_X2_outward_m _ _ _ _) ?_ | with_reducible refine Mo_of (f_X3_takesNumbers_L12_m _ _ _ _ _ _) ?_ | with_reducible refine Mo_of (f_X3_takesNumbers_m _ _ _) ?_ | with_reducible refine Mo_of (f_X5_condition_m _) ?_ | with_reducible refine Mo_of (f_X5_slotOf_m _ _ _) ?_ | with_reducible refine Mo_of (f_X5_makeReady_m _ _ _) ?_ | with_reducible refine Mo_of (f_X5_send_m _ _ _ _ _) ?_ | with_reducible refine Mo_of (f_X5_leaveFunction_m _) ?_ | with_reducible refine Mo_of (f_X5_turn_m _ _ _) ?_ | with_reducible refine Mo_of (f_X5_leastError_m _ _ _) ?_ | with_reducible refine Mo_of (f_X5_calculate_m _ _ _ _) ?_ | with_reducible refine Mo_of (f_X8_clear_m _) ?_ | with_reducible refine Mo_of (f_X8_put_m _ _ _ _) ?_ | with_reducible refine Mo_of (f_X8_tableOf_m _ _ _) ?_ | with_reducible refine Mo_of (f_X8_firstCell_m _ _) ?_ | with_reducible refine Mo_of (f_X8_cellsIn_m _ _) ?_ | with_reducible refine Mo_of (f_J9_floorMod_f86c9_m _ _ _) ?_ | with_reducible refine Mo_of (f_J7_rangeCheck_23922_m _ _ _ _) ?_ | with_reducible refine Mo_of (f_J7_fill_bad5a_L10_m _ _ _ _ _ _ _) ?_ | with_reducible refine Mo_of (f_J7_fill_bad5a_m _ _ _ _ _) ?_ | with_reducible refine Mo_of (f_J7_fill_eb02e_L10_m _ _ _ _ _ _ _) ?_ | with_reducible refine Mo_of (f_J7_fill_eb02e_m _ _ _ _ _) ?_ | with_reducible refine Mo_of (f_X5_settle_L15_m _ _ _ _ _ _ _ _) ?_ | with_reducible refine Mo_of (f_X5_settle_m _ _ _ _ _) ?_ | with_reducible refine Mo_of (f_X5_handIn_m _ _ _ _ _) ?_ | with_reducible refine Mo_of (f_X5_cellAt_m _ _ _) ?_ | with_reducible refine Mo_of (f_X5_operate_m _ _ _) ?_ | with_reducible refine Mo_of (f_X5_pickCell_m _ _ _) ?_ | with_reducible refine Mo_of (f_X0_add_m _ _ _) ?_ | with_reducible refine Mo_of (f_X2_add_m _ _ _ _) ?_ | with_reducible refine Mo_of (f_X8_take_m _ _ _) ?_ | with_reducible refine Mo_of (f_X5_openFrame_m _ _ _ _ _) ?_ | with_reducible refine Mo_of (f_X5_enter_L16_m _ _ _ _ _ _ _) ?_ | with_reducible refine Mo_of (f_X5_enter_m _ _ _ _) ?_ | with_reducible refine Mo_of (f_X5_await_m _ _ _ _) ?_ | with_reducible refine Mo_of (f_X5_lookUp_m _ _ _ _) ?_ | rfl
set_option maxHeartbeats 4000000 in
set_option maxRecDepth 100000 in
theorem f_X5_beginLoop_L52_w {fu : Nat} (l : Launch) (g : im_G) (ad : Nat → Nat) {p : Program} {e : Env} {s : State} {m : MethodId} {below : List Frame} {meth : Method} {c : Code} {args : Array Value} {mc ms : Nat} (X : im_X p l s m args meth c g cX5_beginLoop 7 RX5 none) : ∀ (nf : Nat) (z1 : Int32) (z2 : Int32) (z3 : Int32) (z4 : Int32) (z5 : Int32) (z6 : Int32) (S : im_S) (r : Unit) (S' : im_S), f_X5_beginLoop_L52 fu nf z1 z2 z3 z4 z5 z6 S = some (r, S') → ∀ (ga : Nat → Nat) (bc bs : Nat), (gP S' - gP S) / 64 + 0 ≤ bc → 2 * gP S' + 0 ≤ 2 * gP S + bs → im_V p l e (im_R 4 mc ms) s m args below meth c g 7 (im_ZG gA below g ad args s mc ms none S') (mx gA ad ga) im_N (im_cn g (mx gA ad ga) S) bc bs 52 [(0, .ref (mx gA ad ga 38)), (1, .int z1), (2, .int z2), (3, .int z3), (4, .int z4), (5, .int z5), (6, .int z6)] [] := by
  intro nf
  induction nf with
  | zero =>
    intro z1 z2 z3 z4 z5 z6 S r S' hm
    cases hm
  | succ nf ih =>
    intro z1 z2 z3 z4 z5 z6 S r S' hm ga bc bs b1 b2
    unfold f_X5_beginLoop_L52 at hm
    refine iv_iload (pc := 52) X dX5_beginLoop_52 rfl ?_
    refine iv_iconst (pc := 54) X dX5_beginLoop_54 ic_4 ?_
    refine iv_icmp_ge (pc := 55) X dX5_beginLoop_55 (tgt := 121) rfl (fun hb1 => ?_) (fun hb1 => ?_)
    · rw [if_pos hb1] at hm
      refine iv_aload_n (pc := 121) X dX5_beginLoop_121 rfl ?_
      refine iv_iload (pc := 122) X dX5_beginLoop_122 rfl ?_
      refine iv_iload_n (pc := 124) X dX5_beginLoop_124 rfl ?_
      obtain ⟨⟨r3, S2⟩, hc4, hm⟩ := bd_some hm
      have m2 := mo_use (S := S2) hm (by repeat' first | with_reducible exact Mo_none _ | with_reducible refine Mo_gd ?_ | with_reducible refine Mo_ite ?_ ?_ | with_reducible refine Mo_bind ?_ (fun q => ?_) | with_reducible refine Mo_some ?_ | with_reducible refine Mo_of (f_gr65_m _ _) ?_ | with_reducible refine Mo_of (f_gr66_m _ _) ?_ | with_reducible refine Mo_of (f_gr68_m _ _) ?_ | with_reducible refine Mo_of (f_gr69_m _ _) ?_ | with_reducible refine Mo_of (f_gr70_m _ _) ?_ | with_reducible refine Mo_of (f_gr71_m _ _) ?_ | with_reducible refine Mo_of (f_gr73_m _ _) ?_ | with_reducible refine Mo_of (f_gr74_m _ _) ?_ | with_reducible refine Mo_of (f_X0_clear_m _) ?_ | with_reducible refine Mo_of (f_X0_release_m _ _) ?_ | with_reducible refine Mo_of (f_X2_clear_m _) ?_ | with_reducible refine Mo_of (f_X2_outward_L5_m _ _ _ _ _ _ _) ?_ | with_reducible refine Mo_of (f_X2_outward_m _ _ _ _) ?_ | with_reducible refine Mo_of (f_X3_takesNumbers_L12_m _ _ _ _ _ _) ?_ | with_reducible refine Mo_of (f_X3_takesNumbers_m _ _ _) ?_ | with_reducible refine Mo_of (f_X5_condition_m _) ?_ | with_reducible refine Mo_of (f_X5_slotOf_m _ _ _) ?_ | with_reducible refine Mo_of (f_X5_makeReady_m _ _ _) ?_ | with_reducible refine Mo_of (f_X5_send_m _ _ _ _ _) ?_ | with_reducible refine Mo_of (f_X5_leaveFunction_m _) ?_ | with_reducible refine Mo_of (f_X5_turn_m _ _ _) ?_ | with_reducible refine Mo_of (f_X5_leastError_m _ _ _) ?_ | with_reducible refine Mo_of (f_X5_calculate_m _ _ _ _) ?_ | with_reducible refine Mo_of (f_X8_clear_m _) ?_ | with_reducible refine Mo_of (f_X8_put_m _ _ _ _) ?_ | with_reducible refine Mo_of (f_X8_tableOf_m _ _ _) ?_ | with_reducible refine Mo_of (f_X8_firstCell_m _ _) ?_ | with_reducible refine Mo_of (f_X8_cellsIn_m _ _) ?_ | with_reducible refine Mo_of (f_J9_floorMod_f86c9_m _ _ _) ?_ | with_reducible refine Mo_of (f_J7_rangeCheck_23922_m _ _ _ _) ?_ | with_reducible refine Mo_of (f_J7_fill_bad5a_L10_m _ _ _ _ _ _ _) ?_ | with_reducible refine Mo_of (f_J7_fill_bad5a_m _ _ _ _ _) ?_ | with_reducible refine Mo_of (f_J7_fill_eb02e_L10_m _ _ _ _ _ _ _) ?_ | with_reducible refine Mo_of (f_J7_fill_eb02e_m _ _ _ _ _) ?_ | with_reducible refine Mo_of (f_X5_settle_L15_m _ _ _ _ _ _ _ _) ?_ | with_reducible refine Mo_of (f_X5_settle_m _ _ _ _ _) ?_ | with_reducible refine Mo_of (f_X5_handIn_m _ _ _ _ _) ?_ | with_reducible refine Mo_of (f_X5_cellAt_m _ _ _) ?_ | with_reducible refine Mo_of (f_X5_operate_m _ _ _) ?_ | with_reducible refine Mo_of (f_X5_pickCell_m _ _ _) ?_ | with_reducible refine Mo_of (f_X0_add_m _ _ _) ?_ | with_reducible refine Mo_of (f_X2_add_m _ _ _ _) ?_ | with_reducible refine Mo_of (f_X8_take_m _ _ _) ?_ | with_reducible refine Mo_of (f_X5_openFrame_m _ _ _ _ _) ?_ | with_reducible refine Mo_of (f_X5_enter_L16_m _ _ _ _ _ _ _) ?_ | with_reducible refine Mo_of (f_X5_enter_m _ _ _ _) ?_ | with_reducible refine Mo_of (f_X5_await_m _ _ _ _) ?_ | with_reducible refine Mo_of (f_X5_lookUp_m _ _ _ _) ?_ | with_reducible refine Mo_of (f_X5_beginLoop_L52_m _ _ _ _ _ _ _ _ _) ?_ | rfl)
      refine cG_X5_95_38_gA (pc := 125) X [.int z4, .int z3] [] 2 rfl (f_X5_enter_e l g (mx gA ad ga) fu z4 z3 S _ _ hc4) (Nat.le_of_ble_eq_true rfl) (Nat.le_of_ble_eq_true rfl) (Nat.le_of_ble_eq_true rfl) rfl dX5_beginLoop_125 (mo_use hc4 (f_X5_enter_m fu z4 z3 S)) m2 b1 b2 (fun ga bc bs b1 b2 => ?_)
      cases hm
      exact is_vretG (pc := 128) X dX5_beginLoop_128
    · rw [if_neg hb1] at hm
      refine iv_iload (pc := 58) X dX5_beginLoop_58 rfl ?_
      refine iv_iconst (pc := 60) X dX5_beginLoop_60 ic_m1 ?_
      refine iv_icmp_eq (pc := 61) X dX5_beginLoop_61 (tgt := 121) rfl (fun hb5 => ?_) (fun hb5 => ?_)
      · rw [if_pos hb5] at hm
        refine iv_aload_n (pc := 121) X dX5_beginLoop_121 rfl ?_
        refine iv_iload (pc := 122) X dX5_beginLoop_122 rfl ?_
        refine iv_iload_n (pc := 124) X dX5_beginLoop_124 rfl ?_
        obtain ⟨⟨r7, S6⟩, hc8, hm⟩ := bd_some hm
        have m2 := mo_use (S := S6) hm (by repeat' first | with_reducible exact Mo_none _ | with_reducible refine Mo_gd ?_ | with_reducible refine Mo_ite ?_ ?_ | with_reducible refine Mo_bind ?_ (fun q => ?_) | with_reducible refine Mo_some ?_ | with_reducible refine Mo_of (f_gr65_m _ _) ?_ | with_reducible refine Mo_of (f_gr66_m _ _) ?_ | with_reducible refine Mo_of (f_gr68_m _ _) ?_ | with_reducible refine Mo_of (f_gr69_m _ _) ?_ | with_reducible refine Mo_of (f_gr70_m _ _) ?_ | with_reducible refine Mo_of (f_gr71_m _ _) ?_ | with_reducible refine Mo_of (f_gr73_m _ _) ?_ | with_reducible refine Mo_of (f_gr74_m _ _) ?_ | with_reducible refine Mo_of (f_X0_clear_m _) ?_ | with_reducible refine Mo_of (f_X0_release_m _ _) ?_ | with_reducible refine Mo_of (f_X2_clear_m _) ?_ | with_reducible refine Mo_of (f_X2_outward_L5_m _ _ _ _ _ _ _) ?_ | with_reducible refine Mo_of (f_X2_outward_m _ _ _ _) ?_ | with_reducible refine Mo_of (f_X3_takesNumbers_L12_m _ _ _ _ _ _) ?_ | with_reducible refine Mo_of (f_X3_takesNumbers_m _ _ _) ?_ | with_reducible refine Mo_of (f_X5_condition_m _) ?_ | with_reducible refine Mo_of (f_X5_slotOf_m _ _ _) ?_ | with_reducible refine Mo_of (f_X5_makeReady_m _ _ _) ?_ | with_reducible refine Mo_of (f_X5_send_m _ _ _ _ _) ?_ | with_reducible refine Mo_of (f_X5_leaveFunction_m _) ?_ | with_reducible refine Mo_of (f_X5_turn_m _ _ _) ?_ | with_reducible refine Mo_of (f_X5_leastError_m _ _ _) ?_ | with_reducible refine Mo_of (f_X5_calculate_m _ _ _ _) ?_ | with_reducible refine Mo_of (f_X8_clear_m _) ?_ | with_reducible refine Mo_of (f_X8_put_m _ _ _ _) ?_ | with_reducible refine Mo_of (f_X8_tableOf_m _ _ _) ?_ | with_reducible refine Mo_of (f_X8_firstCell_m _ _) ?_ | with_reducible refine Mo_of (f_X8_cellsIn_m _ _) ?_ | with_reducible refine Mo_of (f_J9_floorMod_f86c9_m _ _ _) ?_ | with_reducible refine Mo_of (f_J7_rangeCheck_23922_m _ _ _ _) ?_ | with_reducible refine Mo_of (f_J7_fill_bad5a_L10_m _ _ _ _ _ _ _) ?_ | with_reducible refine Mo_of (f_J7_fill_bad5a_m _ _ _ _ _) ?_ | with_reducible refine Mo_of (f_J7_fill_eb02e_L10_m _ _ _ _ _ _ _) ?_ | with_reducible refine Mo_of (f_J7_fill_eb02e_m _ _ _ _ _) ?_ | with_reducible refine Mo_of (f_X5_settle_L15_m _ _ _ _ _ _ _ _) ?_ | with_reducible refine Mo_of (f_X5_settle_m _ _ _ _ _) ?_ | with_reducible refine Mo_of (f_X5_handIn_m _ _ _ _ _) ?_ | with_reducible refine Mo_of (f_X5_cellAt_m _ _ _) ?_ | with_reducible refine Mo_of (f_X5_operate_m _ _ _) ?_ | with_reducible refine Mo_of (f_X5_pickCell_m _ _ _) ?_ | with_reducible refine Mo_of (f_X0_add_m _ _ _) ?_ | with_reducible refine Mo_of (f_X2_add_m _ _ _ _) ?_ | with_reducible refine Mo_of (f_X8_take_m _ _ _) ?_ | with_reducible refine Mo_of (f_X5_openFrame_m _ _ _ _ _) ?_ | with_reducible refine Mo_of (f_X5_enter_L16_m _ _ _ _ _ _ _) ?_ | with_reducible refine Mo_of (f_X5_enter_m _ _ _ _) ?_ | with_reducible refine Mo_of (f_X5_await_m _ _ _ _) ?_ | with_reducible refine Mo_of (f_X5_lookUp_m _ _ _ _) ?_ | with_reducible refine Mo_of (f_X5_beginLoop_L52_m _ _ _ _ _ _ _ _ _) ?_ | rfl)
        refine cG_X5_95_38_gA (pc := 125) X [.int z4, .int z3] [] 2 rfl (f_X5_enter_e l g (mx gA ad ga) fu z4 z3 S _ _ hc8) (Nat.le_of_ble_eq_true rfl) (Nat.le_of_ble_eq_true rfl) (Nat.le_of_ble_eq_true rfl) rfl dX5_beginLoop_125 (mo_use hc8 (f_X5_enter_m fu z4 z3 S)) m2 b1 b2 (fun ga bc bs b1 b2 => ?_)
        cases hm
        exact is_vretG (pc := 128) X dX5_beginLoop_128
      · rw [if_neg hb5] at hm
        refine iv_aload_n (pc := 64) X dX5_beginLoop_64 rfl ?_
        refine gF_X5_12_38 (pc := 65) X dX5_beginLoop_65 ?_
        refine gF_X5_221_40 (pc := 68) X dX5_beginLoop_68 ?_
        refine iv_aload_n (pc := 71) X dX5_beginLoop_71 rfl ?_
        refine gF_X5_12_38 (pc := 72) X dX5_beginLoop_72 ?_
        refine gF_X5_201_40 (pc := 75) X dX5_beginLoop_75 ?_
        refine iv_iload (pc := 78) X dX5_beginLoop_78 rfl ?_
        obtain ⟨hg, hm⟩ := gd_some hm
        refine aL_46 (pc := 80) X dX5_beginLoop_80 hg (x := (S.1 46) z5.toNatClampNeg) rfl ?_
        obtain ⟨hg, hm⟩ := gd_some hm
        refine aL_43 (pc := 81) X dX5_beginLoop_81 hg (x := (S.1 43) (((S.1 46) z5.toNatClampNeg).toNatClampNeg)) rfl ?_
        refine iv_iconst (pc := 82) X dX5_beginLoop_82 ic_5 ?_
        refine iv_icmp_ne (pc := 83) X dX5_beginLoop_83 (tgt := 103) rfl (fun hb9 => ?_) (fun hb9 => ?_)
        · rw [if_pos hb9] at hm
          refine iv_aload_n (pc := 103) X dX5_beginLoop_103 rfl ?_
          refine gF_X5_12_38 (pc := 104) X dX5_beginLoop_104 ?_
          refine gF_X5_92_40 (pc := 107) X dX5_beginLoop_107 ?_
          refine iv_iload (pc := 110) X dX5_beginLoop_110 rfl ?_
          obtain ⟨hg, hm⟩ := gd_some hm
          refine aL_48 (pc := 112) X dX5_beginLoop_112 hg (x := (S.1 48) z5.toNatClampNeg) rfl ?_
          refine iv_istore (pc := 113) X dX5_beginLoop_113 (by decide) (lv' := [(5, .int ((S.1 48) z5.toNatClampNeg)), (0, .ref (mx gA ad ga 38)), (1, .int z1), (2, .int z2), (3, .int z3), (4, .int z4), (6, .int z6)]) rfl ?_
          refine iv_iinc (pc := 115) X dX5_beginLoop_115 rfl (by decide) (v := z6 + 1) rfl (lv' := [(6, .int (z6 + 1)), (5, .int ((S.1 48) z5.toNatClampNeg)), (0, .ref (mx gA ad ga 38)), (1, .int z1), (2, .int z2), (3, .int z3), (4, .int z4)]) rfl ?_
          refine iv_goto (pc := 118) X dX5_beginLoop_118 (tgt := 52) rfl ?_
          refine iv_sub [2, 3, 4, 5, 6, 1, 0] (lv2 := [(0, .ref (mx gA ad ga 38)), (1, .int z1), (2, .int z2), (3, .int z3), (4, .int z4), (5, .int ((S.1 48) z5.toNatClampNeg)), (6, .int (z6 + 1))]) rfl ?_
          exact ih z1 z2 z3 z4 ((S.1 48) z5.toNatClampNeg) (z6 + 1) S _ _ hm ga bc bs b1 b2
        · rw [if_neg hb9] at hm
          refine iv_aload_n (pc := 86) X dX5_beginLoop_86 rfl ?_
          refine iv_iload_n (pc := 87) X dX5_beginLoop_87 rfl ?_
          refine iv_aload_n (pc := 88) X dX5_beginLoop_88 rfl ?_
          refine gF_X5_12_38 (pc := 89) X dX5_beginLoop_89 ?_
          refine gF_X5_201_40 (pc := 92) X dX5_beginLoop_92 ?_
          refine iv_iload (pc := 95) X dX5_beginLoop_95 rfl ?_
          obtain ⟨hg, hm⟩ := gd_some hm
          refine aL_46 (pc := 97) X dX5_beginLoop_97 hg (x := (S.1 46) z5.toNatClampNeg) rfl ?_
          refine iv_iload (pc := 98) X dX5_beginLoop_98 rfl ?_
          obtain ⟨⟨r11, S10⟩, hc12, hm⟩ := bd_some hm
          refine cV_X5_224_38 (pc := 100) X [.int z1, .int ((S.1 46) z5.toNatClampNeg), .int z4] [] 3 rfl (f_X5_handIn_e l g (mx gA ad ga) fu z1 ((S.1 46) z5.toNatClampNeg) z4 S _ _ hc12) (Nat.le_of_ble_eq_true rfl) (Nat.le_of_ble_eq_true rfl) (Nat.le_of_ble_eq_true rfl) rfl dX5_beginLoop_100 ?_
          have b1 := gb_step (mo_use hc12 (f_X5_handIn_m fu z1 ((S.1 46) z5.toNatClampNeg) z4 S)) b1
          have b2 := gb_step2 (mo_use hc12 (f_X5_handIn_m fu z1 ((S.1 46) z5.toNatClampNeg) z4 S)) b2
          refine iv_aload_n (pc := 103) X dX5_beginLoop_103 rfl ?_
          refine gF_X5_12_38 (pc := 104) X dX5_beginLoop_104 ?_
          refine gF_X5_92_40 (pc := 107) X dX5_beginLoop_107 ?_
          refine iv_iload (pc := 110) X dX5_beginLoop_110 rfl ?_
          obtain ⟨hg, hm⟩ := gd_some hm
          refine aL_48 (pc := 112) X dX5_beginLoop_112 hg (x := (S10.1 48) z5.toNatClampNeg) rfl ?_
          refine iv_istore (pc := 113) X dX5_beginLoop_113 (by decide) (lv' := [(5, .int ((S10.1 48) z5.toNatClampNeg)), (0, .ref (mx gA ad ga 38)), (1, .int z1), (2, .int z2), (3, .int z3), (4, .int z4), (6, .int z6)]) rfl ?_
          refine iv_iinc (pc := 115) X dX5_beginLoop_115 rfl (by decide) (v := z6 + 1) rfl (lv' := [(6, .int (z6 + 1)), (5, .int ((S10.1 48) z5.toNatClampNeg)), (0, .ref (mx gA ad ga 38)), (1, .int z1), (2, .int z2), (3, .int z3), (4, .int z4)]) rfl ?_
          refine iv_goto (pc := 118) X dX5_beginLoop_118 (tgt := 52) rfl ?_
          refine iv_sub [2, 3, 4, 5, 6, 1, 0] (lv2 := [(0, .ref (mx gA ad ga 38)), (1, .int z1), (2, .int z2), (3, .int z3), (4, .int z4), (5, .int ((S10.1 48) z5.toNatClampNeg)), (6, .int (z6 + 1))]) rfl ?_
          exact ih z1 z2 z3 z4 ((S10.1 48) z5.toNatClampNeg) (z6 + 1) S10 _ _ hm ga bc bs b1 b2
def f_X5_beginLoop (fu : Nat) (x1 : Int32) (x2 : Int32) (S : im_S) : Option (Unit × im_S) := gd (in_b x2 512) ((f_X5_openFrame fu ((S.1 49) x2.toNatClampNeg) x1 x2 S).bind (fun qS1 => (f_X5_slotOf x1 x2 qS1.2).bind (fun qS4 => gd (in_b (qS4.1 + 1) (qS4.2.2.2 66)) (gd (in_b x2 512) (f_X5_beginLoop_L52 fu fu x1 x2 ((S.1 49) x2.toNatClampNeg) qS1.1 ((qS4.2.1 46) x2.toNatClampNeg) 0 (uJ qS4.2 66 ((qS4.1 + 1).toNatClampNeg) qS1.1.toInt64))))))
theorem f_X5_beginLoop_m (fu : Nat) (x1 : Int32) (x2 : Int32) (S : im_S) : Mo (f_X5_beginLoop fu x1 x2 S) S := by
  unfold f_X5_beginLoop
  repeat' first | with_reducible exact Mo_none _ | with_reducible refine Mo_gd ?_ | with_reducible refine Mo_ite ?_ ?_ | with_reducible refine Mo_bind ?_ (fun q => ?_) | with_reducible refine Mo_some ?_ | with_reducible refine Mo_of (f_gr65_m _ _) ?_ | with_reducible refine Mo_of (f_gr66_m _ _) ?_ | with_reducible refine Mo_of (f_gr68_m _ _) ?_ | with_reducible refine Mo_of (f_gr69_m _ _) ?_ | with_reducible refine Mo_of (f_gr70_m _ _) ?_ | with_reducible refine Mo_of (f_gr71_m _ _) ?_ | with_reducible refine Mo_of (f_gr73_m _ _) ?_ | with_reducible refine Mo_of (f_gr74_m _ _) ?_ | with_reducible refine Mo_of (f_X0_clear_m _) ?_ | with_reducible refine Mo_of (f_X0_release_m _ _) ?_ | with_reducible refine Mo_of (f_X2_clear_m _) ?_ | with_reducible refine Mo_of (f_X2_outward_L5_m _ _ _ _ _ _ _) ?_ | with_reducible refine Mo_of (f_X2_outward_m _ _ _ _) ?_ | with_reducible refine Mo_of (f_X3_takesNumbers_L12_m _ _ _ _ _ _) ?_ | with_reducible refine Mo_of (f_X3_takesNumbers_m _ _ _) ?_ | with_reducible refine Mo_of (f_X5_condition_m _) ?_ | with_reducible refine Mo_of (f_X5_slotOf_m _ _ _) ?_ | with_reducible refine Mo_of (f_X5_makeReady_m _ _ _) ?_ | with_reducible refine Mo_of (f_X5_send_m _ _ _ _ _) ?_ | with_reducible refine Mo_of (f_X5_leaveFunction_m _) ?_ | with_reducible refine Mo_of (f_X5_turn_m _ _ _) ?_ | with_reducible refine Mo_of (f_X5_leastError_m _ _ _) ?_ | with_reducible refine Mo_of (f_X5_calculate_m _ _ _ _) ?_ | with_reducible refine Mo_of (f_X8_clear_m _) ?_ | with_reducible refine Mo_of (f_X8_put_m _ _ _ _) ?_ | with_reducible refine Mo_of (f_X8_tableOf_m _ _ _) ?_ | with_reducible refine Mo_of (f_X8_firstCell_m _ _) ?_ | with_reducible refine Mo_of (f_X8_cellsIn_m _ _) ?_ | with_reducible refine Mo_of (f_J9_floorMod_f86c9_m _ _ _) ?_ | with_reducible refine Mo_of (f_J7_rangeCheck_23922_m _ _ _ _) ?_ | with_reducible refine Mo_of (f_J7_fill_bad5a_L10_m _ _ _ _ _ _ _) ?_ | with_reducible refine Mo_of (f_J7_fill_bad5a_m _ _ _ _ _) ?_ | with_reducible refine Mo_of (f_J7_fill_eb02e_L10_m _ _ _ _ _ _ _) ?_ | with_reducible refine Mo_of (f_J7_fill_eb02e_m _ _ _ _ _) ?_ | with_reducible refine Mo_of (f_X5_settle_L15_m _ _ _ _ _ _ _ _) ?_ | with_reducible refine Mo_of (f_X5_settle_m _ _ _ _ _) ?_ | with_reducible refine Mo_of (f_X5_handIn_m _ _ _ _ _) ?_ | with_reducible refine Mo_of (f_X5_cellAt_m _ _ _) ?_ | with_reducible refine Mo_of (f_X5_operate_m _ _ _) ?_ | with_reducible refine Mo_of (f_X5_pickCell_m _ _ _) ?_ | with_reducible refine Mo_of (f_X0_add_m _ _ _) ?_ | with_reducible refine Mo_of (f_X2_add_m _ _ _ _) ?_ | with_reducible refine Mo_of (f_X8_take_m _ _ _) ?_ | with_reducible refine Mo_of (f_X5_openFrame_m _ _ _ _ _) ?_ | with_reducible refine Mo_of (f_X5_enter_L16_m _ _ _ _ _ _ _) ?_ | with_reducible refine Mo_of (f_X5_enter_m _ _ _ _) ?_ | with_reducible refine Mo_of (f_X5_await_m _ _ _ _) ?_ | with_reducible refine Mo_of (f_X5_lookUp_m _ _ _ _) ?_ | with_reducible refine Mo_of (f_X5_beginLoop_L52_m _ _ _ _ _ _ _ _ _) ?_ | rfl
set_option maxHeartbeats 4000000 in
set_option maxRecDepth 100000 in
theorem f_X5_beginLoop_e (l : Launch) (g : im_G) (ad : Nat → Nat) (fu : Nat) (x1 : Int32) (x2 : Int32) (S : im_S) (r : Unit) (S' : im_S) (hm : f_X5_beginLoop fu x1 x2 S = some (r, S')) : im_EG gA l g ad 4 yX5_beginLoop cX5_beginLoop 7 none [.ref (ad 38), .int x1, .int x2] S none S' := by
  unfold f_X5_beginLoop at hm
  refine is_metG (own := RX5) (by decide +kernel) rfl (Nat.le_of_ble_eq_true rfl) (fun p e s m below meth c X ga bc bs b1 b2 => ?_)
  refine iv_aload_n (pc := 0) X dX5_beginLoop_0 rfl ?_
  refine gF_X5_12_38 (pc := 1) X dX5_beginLoop_1 ?_
  refine gF_X5_218_40 (pc := 4) X dX5_beginLoop_4 ?_
  refine iv_iload_n (pc := 7) X dX5_beginLoop_7 rfl ?_
  obtain ⟨hg, hm⟩ := gd_some hm
  refine aL_49 (pc := 8) X dX5_beginLoop_8 hg (x := (S.1 49) x2.toNatClampNeg) rfl ?_
  refine iv_istore_n (pc := 9) X dX5_beginLoop_9 (by decide) (lv' := [(3, .int ((S.1 49) x2.toNatClampNeg)), (0, .ref (mx gA ad ga 38)), (1, .int x1), (2, .int x2)]) rfl ?_
  refine iv_aload_n (pc := 10) X dX5_beginLoop_10 rfl ?_
  refine iv_iload_n (pc := 11) X dX5_beginLoop_11 rfl ?_
  refine iv_iload_n (pc := 12) X dX5_beginLoop_12 rfl ?_
  refine iv_iload_n (pc := 13) X dX5_beginLoop_13 rfl ?_
  obtain ⟨⟨r2, S1⟩, hc3, hm⟩ := bd_some hm
  have m2 := mo_use (S := S1) hm (by repeat' first | with_reducible exact Mo_none _ | with_reducible refine Mo_gd ?_ | with_reducible refine Mo_ite ?_ ?_ | with_reducible refine Mo_bind ?_ (fun q => ?_) | with_reducible refine Mo_some ?_ | with_reducible refine Mo_of (f_gr65_m _ _) ?_ | with_reducible refine Mo_of (f_gr66_m _ _) ?_ | with_reducible refine Mo_of (f_gr68_m _ _) ?_ | with_reducible refine Mo_of (f_gr69_m _ _) ?_ | with_reducible refine Mo_of (f_gr70_m _ _) ?_ | with_reducible refine Mo_of (f_gr71_m _ _) ?_ | with_reducible refine Mo_of (f_gr73_m _ _) ?_ | with_reducible refine Mo_of (f_gr74_m _ _) ?_ | with_reducible refine Mo_of (f_X0_clear_m _) ?_ | with_reducible refine Mo_of (f_X0_release_m _ _) ?_ | with_reducible refine Mo_of (f_X2_clear_m _) ?_ | with_reducible refine Mo_of (f_X2_outward_L5_m _ _ _ _ _ _ _) ?_ | with_reducible refine Mo_of (f_X2_outward_m _ _ _ _) ?_ | with_reducible refine Mo_of (f_X3_takesNumbers_L12_m _ _ _ _ _ _) ?_ | with_reducible refine Mo_of (f_X3_takesNumbers_m _ _ _) ?_ | with_reducible refine Mo_of (f_X5_condition_m _) ?_ | with_reducible refine Mo_of (f_X5_slotOf_m _ _ _) ?_ | with_reducible refine Mo_of (f_X5_makeReady_m _ _ _) ?_ | with_reducible refine Mo_of (f_X5_send_m _ _ _ _ _) ?_ | with_reducible refine Mo_of (f_X5_leaveFunction_m _) ?_ | with_reducible refine Mo_of (f_X5_turn_m _ _ _) ?_ | with_reducible refine Mo_of (f_X5_leastError_m _ _ _) ?_ | with_reducible refine Mo_of (f_X5_calculate_m _ _ _ _) ?_ | with_reducible refine Mo_of (f_X8_clear_m _) ?_ | with_reducible refine Mo_of (f_X8_put_m _ _ _ _) ?_ | with_reducible refine Mo_of (f_X8_tableOf_m _ _ _) ?_ | with_reducible refine Mo_of (f_X8_firstCell_m _ _) ?_ | with_reducible refine Mo_of (f_X8_cellsIn_m _ _) ?_ | with_reducible refine Mo_of (f_J9_floorMod_f86c9_m _ _ _) ?_ | with_reducible refine Mo_of (f_J7_rangeCheck_23922_m _ _ _ _) ?_ | with_reducible refine Mo_of (f_J7_fill_bad5a_L10_m _ _ _ _ _ _ _) ?_ | with_reducible refine Mo_of (f_J7_fill_bad5a_m _ _ _ _ _) ?_ | with_reducible refine Mo_of (f_J7_fill_eb02e_L10_m _ _ _ _ _ _ _) ?_ | with_reducible refine Mo_of (f_J7_fill_eb02e_m _ _ _ _ _) ?_ | with_reducible refine Mo_of (f_X5_settle_L15_m _ _ _ _ _ _ _ _) ?_ | with_reducible refine Mo_of (f_X5_settle_m _ _ _ _ _) ?_ | with_reducible refine Mo_of (f_X5_handIn_m _ _ _ _ _) ?_ | with_reducible refine Mo_of (f_X5_cellAt_m _ _ _) ?_ | with_reducible refine Mo_of (f_X5_operate_m _ _ _) ?_ | with_reducible refine Mo_of (f_X5_pickCell_m _ _ _) ?_ | with_reducible refine Mo_of (f_X0_add_m _ _ _) ?_ | with_reducible refine Mo_of (f_X2_add_m _ _ _ _) ?_ | with_reducible refine Mo_of (f_X8_take_m _ _ _) ?_ | with_reducible refine Mo_of (f_X5_openFrame_m _ _ _ _ _) ?_ | with_reducible refine Mo_of (f_X5_enter_L16_m _ _ _ _ _ _ _) ?_ | with_reducible refine Mo_of (f_X5_enter_m _ _ _ _) ?_ | with_reducible refine Mo_of (f_X5_await_m _ _ _ _) ?_ | with_reducible refine Mo_of (f_X5_lookUp_m _ _ _ _) ?_ | with_reducible refine Mo_of (f_X5_beginLoop_L52_m _ _ _ _ _ _ _ _ _) ?_ | with_reducible refine Mo_of (f_X5_beginLoop_m _ _ _ _) ?_ | rfl)
  refine cG_X5_77_38_gA (pc := 14) X [.int ((S.1 49) x2.toNatClampNeg), .int x1, .int x2] [] 3 rfl (f_X5_openFrame_e l g (mx gA ad ga) fu ((S.1 49) x2.toNatClampNeg) x1 x2 S _ _ hc3) (Nat.le_of_ble_eq_true rfl) (Nat.le_of_ble_eq_true rfl) (Nat.le_of_ble_eq_true rfl) rfl dX5_beginLoop_14 (mo_use hc3 (f_X5_openFrame_m fu ((S.1 49) x2.toNatClampNeg) x1 x2 S)) m2 b1 b2 (fun ga bc bs b1 b2 => ?_)
  refine iv_istore (pc := 17) X dX5_beginLoop_17 (by decide) (lv' := [(4, .int r2), (3, .int ((S.1 49) x2.toNatClampNeg)), (0, .ref (mx gA ad ga 38)), (1, .int x1), (2, .int x2)]) rfl ?_
  refine iv_aload_n (pc := 19) X dX5_beginLoop_19 rfl ?_
  refine gF_X5_21_38 (pc := 20) X dX5_beginLoop_20 ?_
  refine gF_X5_160_64 (pc := 23) X dX5_beginLoop_23 ?_
  refine iv_aload_n (pc := 26) X dX5_beginLoop_26 rfl ?_
  refine iv_iload_n (pc := 27) X dX5_beginLoop_27 rfl ?_
  refine iv_iload_n (pc := 28) X dX5_beginLoop_28 rfl ?_
  obtain ⟨⟨r5, S4⟩, hc6, hm⟩ := bd_some hm
  refine cV_X5_84_38 (pc := 29) X [.int x1, .int x2] [.ref (mx gA ad ga 66)] 2 rfl (f_X5_slotOf_e l g (mx gA ad ga) x1 x2 S1 _ _ hc6) (Nat.le_of_ble_eq_true rfl) (Nat.le_of_ble_eq_true rfl) (Nat.le_of_ble_eq_true rfl) rfl dX5_beginLoop_29 ?_
  have b1 := gb_step (mo_use hc6 (f_X5_slotOf_m x1 x2 S1)) b1
  have b2 := gb_step2 (mo_use hc6 (f_X5_slotOf_m x1 x2 S1)) b2
  refine iv_iconst (pc := 32) X dX5_beginLoop_32 ic_1 ?_
  refine iv_iadd (pc := 33) X dX5_beginLoop_33 ?_
  refine iv_iload (pc := 34) X dX5_beginLoop_34 rfl ?_
  refine iv_i2l (pc := 36) X dX5_beginLoop_36 rfl ?_
  obtain ⟨hg, hm⟩ := gd_some hm
  refine aS_66 (pc := 37) X dX5_beginLoop_37 hg ?_
  refine iv_aload_n (pc := 38) X dX5_beginLoop_38 rfl ?_
  refine gF_X5_12_38 (pc := 39) X dX5_beginLoop_39 ?_
  refine gF_X5_201_40 (pc := 42) X dX5_beginLoop_42 ?_
  refine iv_iload_n (pc := 45) X dX5_beginLoop_45 rfl ?_
  obtain ⟨hg, hm⟩ := gd_some hm
  refine aL_46 (pc := 46) X dX5_beginLoop_46 hg (x := (S4.1 46) x2.toNatClampNeg) rfl ?_
  refine iv_istore (pc := 47) X dX5_beginLoop_47 (by decide) (lv' := [(5, .int ((S4.1 46) x2.toNatClampNeg)), (4, .int r2), (3, .int ((S.1 49) x2.toNatClampNeg)), (0, .ref (mx gA ad ga 38)), (1, .int x1), (2, .int x2)]) rfl ?_
  refine iv_iconst (pc := 49) X dX5_beginLoop_49 ic_0 ?_
  refine iv_istore (pc := 50) X dX5_beginLoop_50 (by decide) (lv' := [(6, .int 0), (5, .int ((S4.1 46) x2.toNatClampNeg)), (4, .int r2), (3, .int ((S.1 49) x2.toNatClampNeg)), (0, .ref (mx gA ad ga 38)), (1, .int x1), (2, .int x2)]) rfl ?_
  refine iv_sub [4, 5, 6, 3, 2, 1, 0] (lv2 := [(0, .ref (mx gA ad ga 38)), (1, .int x1), (2, .int x2), (3, .int ((S.1 49) x2.toNatClampNeg)), (4, .int r2), (5, .int ((S4.1 46) x2.toNatClampNeg)), (6, .int 0)]) rfl ?_
  exact f_X5_beginLoop_L52_w (fu := fu) l g ad X fu x1 x2 ((S.1 49) x2.toNatClampNeg) r2 ((S4.1 46) x2.toNatClampNeg) 0 (uJ S4 66 ((r5 + 1).toNatClampNeg) r2.toInt64) _ _ hm ga bc bs b1 b2
def f_X5_visit (fu : Nat) (x1 : Int32) (x2 : Int32) (S : im_S) : Option (Unit × im_S) := gd (in_b x2 512) (if ((S.1 41) x2.toNatClampNeg) = (1 : Int32) then (gd (in_b x2 512) (gd (in_b x2 512) ((f_X5_send x1 x2 ((S.1 42) x2.toNatClampNeg) ((S.2.1 55) x2.toNatClampNeg) S).bind (fun qS2 => some ((), qS2.2))))) else (if ((S.1 41) x2.toNatClampNeg) = (2 : Int32) then ((f_X5_lookUp fu x1 x2 S).bind (fun qS6 => some ((), qS6.2))) else (if ((S.1 41) x2.toNatClampNeg) = (9 : Int32) then ((f_X5_beginLoop fu x1 x2 S).bind (fun qS10 => some ((), qS10.2))) else ((f_X5_makeReady x1 x2 S).bind (fun qS13 => some ((), qS13.2))))))
theorem f_X5_visit_m (fu : Nat) (x1 : Int32) (x2 : Int32) (S : im_S) : Mo (f_X5_visit fu x1 x2 S) S := by
  unfold f_X5_visit
  repeat' first | with_reducible exact Mo_none _ | with_reducible refine Mo_gd ?_ | with_reducible refine Mo_ite ?_ ?_ | with_reducible refine Mo_bind ?_ (fun q => ?_) | with_reducible refine Mo_some ?_ | with_reducible refine Mo_of (f_gr65_m _ _) ?_ | with_reducible refine Mo_of (f_gr66_m _ _) ?_ | with_reducible refine Mo_of (f_gr68_m _ _) ?_ | with_reducible refine Mo_of (f_gr69_m _ _) ?_ | with_reducible refine Mo_of (f_gr70_m _ _) ?_ | with_reducible refine Mo_of (f_gr71_m _ _) ?_ | with_reducible refine Mo_of (f_gr73_m _ _) ?_ | with_reducible refine Mo_of (f_gr74_m _ _) ?_ | with_reducible refine Mo_of (f_X0_clear_m _) ?_ | with_reducible refine Mo_of (f_X0_release_m _ _) ?_ | with_reducible refine Mo_of (f_X2_clear_m _) ?_ | with_reducible refine Mo_of (f_X2_outward_L5_m _ _ _ _ _ _ _) ?_ | with_reducible refine Mo_of (f_X2_outward_m _ _ _ _) ?_ | with_reducible refine Mo_of (f_X3_takesNumbers_L12_m _ _ _ _ _ _) ?_ | with_reducible refine Mo_of (f_X3_takesNumbers_m _ _ _) ?_ | with_reducible refine Mo_of (f_X5_condition_m _) ?_ | with_reducible refine Mo_of (f_X5_slotOf_m _ _ _) ?_ | with_reducible refine Mo_of (f_X5_makeReady_m _ _ _) ?_ | with_reducible refine Mo_of (f_X5_send_m _ _ _ _ _) ?_ | with_reducible refine Mo_of (f_X5_leaveFunction_m _) ?_ | with_reducible refine Mo_of (f_X5_turn_m _ _ _) ?_ | with_reducible refine Mo_of (f_X5_leastError_m _ _ _) ?_ | with_reducible refine Mo_of (f_X5_calculate_m _ _ _ _) ?_ | with_reducible refine Mo_of (f_X8_clear_m _) ?_ | with_reducible refine Mo_of (f_X8_put_m _ _ _ _) ?_ | with_reducible refine Mo_of (f_X8_tableOf_m _ _ _) ?_ | with_reducible refine Mo_of (f_X8_firstCell_m _ _) ?_ | with_reducible refine Mo_of (f_X8_cellsIn_m _ _) ?_ | with_reducible refine Mo_of (f_J9_floorMod_f86c9_m _ _ _) ?_ | with_reducible refine Mo_of (f_J7_rangeCheck_23922_m _ _ _ _) ?_ | with_reducible refine Mo_of (f_J7_fill_bad5a_L10_m _ _ _ _ _ _ _) ?_ | with_reducible refine Mo_of (f_J7_fill_bad5a_m _ _ _ _ _) ?_ | with_reducible refine Mo_of (f_J7_fill_eb02e_L10_m _ _ _ _ _ _ _) ?_ | with_reducible refine Mo_of (f_J7_fill_eb02e_m _ _ _ _ _) ?_ | with_reducible refine Mo_of (f_X5_settle_L15_m _ _ _ _ _ _ _ _) ?_ | with_reducible refine Mo_of (f_X5_settle_m _ _ _ _ _) ?_ | with_reducible refine Mo_of (f_X5_handIn_m _ _ _ _ _) ?_ | with_reducible refine Mo_of (f_X5_cellAt_m _ _ _) ?_ | with_reducible refine Mo_of (f_X5_operate_m _ _ _) ?_ | with_reducible refine Mo_of (f_X5_pickCell_m _ _ _) ?_ | with_reducible refine Mo_of (f_X0_add_m _ _ _) ?_ | with_reducible refine Mo_of (f_X2_add_m _ _ _ _) ?_ | with_reducible refine Mo_of (f_X8_take_m _ _ _) ?_ | with_reducible refine Mo_of (f_X5_openFrame_m _ _ _ _ _) ?_ | with_reducible refine Mo_of (f_X5_enter_L16_m _ _ _ _ _ _ _) ?_ | with_reducible refine Mo_of (f_X5_enter_m _ _ _ _) ?_ | with_reducible refine Mo_of (f_X5_await_m _ _ _ _) ?_ | with_reducible refine Mo_of (f_X5_lookUp_m _ _ _ _) ?_ | with_reducible refine Mo_of (f_X5_beginLoop_L52_m _ _ _ _ _ _ _ _ _) ?_ | with_reducible refine Mo_of (f_X5_beginLoop_m _ _ _ _) ?_ | rfl
set_option maxHeartbeats 4000000 in
set_option maxRecDepth 100000 in
theorem f_X5_visit_e (l : Launch) (g : im_G) (ad : Nat → Nat) (fu : Nat) (x1 : Int32) (x2 : Int32) (S : im_S) (r : Unit) (S' : im_S) (hm : f_X5_visit fu x1 x2 S = some (r, S')) : im_EG gA l g ad 5 yX5_visit cX5_visit 3 none [.ref (ad 38), .int x1, .int x2] S none S' := by
  unfold f_X5_visit at hm
  refine is_metG (own := RX5) (by decide +kernel) rfl (Nat.le_of_ble_eq_true rfl) (fun p e s m below meth c X ga bc bs b1 b2 => ?_)
  refine iv_aload_n (pc := 0) X dX5_visit_0 rfl ?_
  refine gF_X5_12_38 (pc := 1) X dX5_visit_1 ?_
  refine gF_X5_179_40 (pc := 4) X dX5_visit_4 ?_
  refine iv_iload_n (pc := 7) X dX5_visit_7 rfl ?_
  obtain ⟨hg, hm⟩ := gd_some hm
  refine aL_41 (pc := 8) X dX5_visit_8 hg (x := (S.1 41) x2.toNatClampNeg) rfl ?_
  by_cases hb1 : ((S.1 41) x2.toNatClampNeg) = (1 : Int32)
  · rw [if_pos hb1] at hm
    refine iv_lookup X dX5_visit_9 (off := 35) (tgt := 44) (by decide) (by rw [hb1]; decide) (by decide) ?_
    refine iv_aload_n (pc := 44) X dX5_visit_44 rfl ?_
    refine iv_iload_n (pc := 45) X dX5_visit_45 rfl ?_
    refine iv_iload_n (pc := 46) X dX5_visit_46 rfl ?_
    refine iv_aload_n (pc := 47) X dX5_visit_47 rfl ?_
    refine gF_X5_12_38 (pc := 48) X dX5_visit_48 ?_
    refine gF_X5_182_40 (pc := 51) X dX5_visit_51 ?_
    refine iv_iload_n (pc := 54) X dX5_visit_54 rfl ?_
    obtain ⟨hg, hm⟩ := gd_some hm
    refine aL_42 (pc := 55) X dX5_visit_55 hg (x := (S.1 42) x2.toNatClampNeg) rfl ?_
    refine iv_aload_n (pc := 56) X dX5_visit_56 rfl ?_
    refine gF_X5_12_38 (pc := 57) X dX5_visit_57 ?_
    refine gF_X5_185_40 (pc := 60) X dX5_visit_60 ?_
    refine iv_iload_n (pc := 63) X dX5_visit_63 rfl ?_
    obtain ⟨hg, hm⟩ := gd_some hm
    refine aL_55 (pc := 64) X dX5_visit_64 hg (x := (S.2.1 55) x2.toNatClampNeg) rfl ?_
    obtain ⟨⟨r3, S2⟩, hc4, hm⟩ := bd_some hm
    refine cV_X5_188_38 (pc := 65) X [.int x1, .int x2, .int ((S.1 42) x2.toNatClampNeg), .long ((S.2.1 55) x2.toNatClampNeg)] [] 4 rfl (f_X5_send_e l g (mx gA ad ga) x1 x2 ((S.1 42) x2.toNatClampNeg) ((S.2.1 55) x2.toNatClampNeg) S _ _ hc4) (Nat.le_of_ble_eq_true rfl) (Nat.le_of_ble_eq_true rfl) (Nat.le_of_ble_eq_true rfl) rfl dX5_visit_65 ?_
    have b1 := gb_step (mo_use hc4 (f_X5_send_m x1 x2 ((S.1 42) x2.toNatClampNeg) ((S.2.1 55) x2.toNatClampNeg) S)) b1
    have b2 := gb_step2 (mo_use hc4 (f_X5_send_m x1 x2 ((S.1 42) x2.toNatClampNeg) ((S.2.1 55) x2.toNatClampNeg) S)) b2
    refine iv_goto (pc := 68) X dX5_visit_68 (tgt := 95) rfl ?_
    cases hm
    exact is_vretG (pc := 95) X dX5_visit_95
  · rw [if_neg hb1] at hm
    by_cases hb5 : ((S.1 41) x2.toNatClampNeg) = (2 : Int32)
    · rw [if_pos hb5] at hm
      refine iv_lookup X dX5_visit_9 (off := 62) (tgt := 71) (by decide) (by rw [hb5]; decide) (by decide) ?_
      refine iv_aload_n (pc := 71) X dX5_visit_71 rfl ?_
      refine iv_iload_n (pc := 72) X dX5_visit_72 rfl ?_
      refine iv_iload_n (pc := 73) X dX5_visit_73 rfl ?_
      obtain ⟨⟨r7, S6⟩, hc8, hm⟩ := bd_some hm
      have m2 := mo_use (S := S6) hm (by repeat' first | with_reducible exact Mo_none _ | with_reducible refine Mo_gd ?_ | with_reducible refine Mo_ite ?_ ?_ | with_reducible refine Mo_bind ?_ (fun q => ?_) | with_reducible refine Mo_some ?_ | with_reducible refine Mo_of (f_gr65_m _ _) ?_ | with_reducible refine Mo_of (f_gr66_m _ _) ?_ | with_reducible refine Mo_of (f_gr68_m _ _) ?_ | with_reducible refine Mo_of (f_gr69_m _ _) ?_ | with_reducible refine Mo_of (f_gr70_m _ _) ?_ | with_reducible refine Mo_of (f_gr71_m _ _) ?_ | with_reducible refine Mo_of (f_gr73_m _ _) ?_ | with_reducible refine Mo_of (f_gr74_m _ _) ?_ | with_reducible refine Mo_of (f_X0_clear_m _) ?_ | with_reducible refine Mo_of (f_X0_release_m _ _) ?_ | with_reducible refine Mo_of (f_X2_clear_m _) ?_ | with_reducible refine Mo_of (f_X2_outward_L5_m _ _ _ _ _ _ _) ?_ | with_reducible refine Mo_of (f_X2_outward_m _ _ _ _) ?_ | with_reducible refine Mo_of (f_X3_takesNumbers_L12_m _ _ _ _ _ _) ?_ | with_reducible refine Mo_of (f_X3_takesNumbers_m _ _ _) ?_ | with_reducible refine Mo_of (f_X5_condition_m _) ?_ | with_reducible refine Mo_of (f_X5_slotOf_m _ _ _) ?_ | with_reducible refine Mo_of (f_X5_makeReady_m _ _ _) ?_ | with_reducible refine Mo_of (f_X5_send_m _ _ _ _ _) ?_ | with_reducible refine Mo_of (f_X5_leaveFunction_m _) ?_ | with_reducible refine Mo_of (f_X5_turn_m _ _ _) ?_ | with_reducible refine Mo_of (f_X5_leastError_m _ _ _) ?_ | with_reducible refine Mo_of (f_X5_calculate_m _ _ _ _) ?_ | with_reducible refine Mo_of (f_X8_clear_m _) ?_ | with_reducible refine Mo_of (f_X8_put_m _ _ _ _) ?_ | with_reducible refine Mo_of (f_X8_tableOf_m _ _ _) ?_ | with_reducible refine Mo_of (f_X8_firstCell_m _ _) ?_ | with_reducible refine Mo_of (f_X8_cellsIn_m _ _) ?_ | with_reducible refine Mo_of (f_J9_floorMod_f86c9_m _ _ _) ?_ | with_reducible refine Mo_of (f_J7_rangeCheck_23922_m _ _ _ _) ?_ | with_reducible refine Mo_of (f_J7_fill_bad5a_L10_m _ _ _ _ _ _ _) ?_ | with_reducible refine Mo_of (f_J7_fill_bad5a_m _ _ _ _ _) ?_ | with_reducible refine Mo_of (f_J7_fill_eb02e_L10_m _ _ _ _ _ _ _) ?_ | with_reducible refine Mo_of (f_J7_fill_eb02e_m _ _ _ _ _) ?_ | with_reducible refine Mo_of (f_X5_settle_L15_m _ _ _ _ _ _ _ _) ?_ | with_reducible refine Mo_of (f_X5_settle_m _ _ _ _ _) ?_ | with_reducible refine Mo_of (f_X5_handIn_m _ _ _ _ _) ?_ | with_reducible refine Mo_of (f_X5_cellAt_m _ _ _) ?_ | with_reducible refine Mo_of (f_X5_operate_m _ _ _) ?_ | with_reducible refine Mo_of (f_X5_pickCell_m _ _ _) ?_ | with_reducible refine Mo_of (f_X0_add_m _ _ _) ?_ | with_reducible refine Mo_of (f_X2_add_m _ _ _ _) ?_ | with_reducible refine Mo_of (f_X8_take_m _ _ _) ?_ | with_reducible refine Mo_of (f_X5_openFrame_m _ _ _ _ _) ?_ | with_reducible refine Mo_of (f_X5_enter_L16_m _ _ _ _ _ _ _) ?_ | with_reducible refine Mo_of (f_X5_enter_m _ _ _ _) ?_ | with_reducible refine Mo_of (f_X5_await_m _ _ _ _) ?_ | with_reducible refine Mo_of (f_X5_lookUp_m _ _ _ _) ?_ | with_reducible refine Mo_of (f_X5_beginLoop_L52_m _ _ _ _ _ _ _ _ _) ?_ | with_reducible refine Mo_of (f_X5_beginLoop_m _ _ _ _) ?_ | with_reducible refine Mo_of (f_X5_visit_m _ _ _ _) ?_ | rfl)
      refine cG_X5_192_38_gA (pc := 74) X [.int x1, .int x2] [] 2 rfl (f_X5_lookUp_e l g (mx gA ad ga) fu x1 x2 S _ _ hc8) (Nat.le_of_ble_eq_true rfl) (Nat.le_of_ble_eq_true rfl) (Nat.le_of_ble_eq_true rfl) rfl dX5_visit_74 (mo_use hc8 (f_X5_lookUp_m fu x1 x2 S)) m2 b1 b2 (fun ga bc bs b1 b2 => ?_)
      refine iv_goto (pc := 77) X dX5_visit_77 (tgt := 95) rfl ?_
      cases hm
      exact is_vretG (pc := 95) X dX5_visit_95
    · rw [if_neg hb5] at hm
      by_cases hb9 : ((S.1 41) x2.toNatClampNeg) = (9 : Int32)
      · rw [if_pos hb9] at hm
        refine iv_lookup X dX5_visit_9 (off := 71) (tgt := 80) (by decide) (by rw [hb9]; decide) (by decide) ?_
        refine iv_aload_n (pc := 80) X dX5_visit_80 rfl ?_
        refine iv_iload_n (pc := 81) X dX5_visit_81 rfl ?_
        refine iv_iload_n (pc := 82) X dX5_visit_82 rfl ?_
        obtain ⟨⟨r11, S10⟩, hc12, hm⟩ := bd_some hm
        have m2 := mo_use (S := S10) hm (by repeat' first | with_reducible exact Mo_none _ | with_reducible refine Mo_gd ?_ | with_reducible refine Mo_ite ?_ ?_ | with_reducible refine Mo_bind ?_ (fun q => ?_) | with_reducible refine Mo_some ?_ | with_reducible refine Mo_of (f_gr65_m _ _) ?_ | with_reducible refine Mo_of (f_gr66_m _ _) ?_ | with_reducible refine Mo_of (f_gr68_m _ _) ?_ | with_reducible refine Mo_of (f_gr69_m _ _) ?_ | with_reducible refine Mo_of (f_gr70_m _ _) ?_ | with_reducible refine Mo_of (f_gr71_m _ _) ?_ | with_reducible refine Mo_of (f_gr73_m _ _) ?_ | with_reducible refine Mo_of (f_gr74_m _ _) ?_ | with_reducible refine Mo_of (f_X0_clear_m _) ?_ | with_reducible refine Mo_of (f_X0_release_m _ _) ?_ | with_reducible refine Mo_of (f_X2_clear_m _) ?_ | with_reducible refine Mo_of (f_X2_outward_L5_m _ _ _ _ _ _ _) ?_ | with_reducible refine Mo_of (f_X2_outward_m _ _ _ _) ?_ | with_reducible refine Mo_of (f_X3_takesNumbers_L12_m _ _ _ _ _ _) ?_ | with_reducible refine Mo_of (f_X3_takesNumbers_m _ _ _) ?_ | with_reducible refine Mo_of (f_X5_condition_m _) ?_ | with_reducible refine Mo_of (f_X5_slotOf_m _ _ _) ?_ | with_reducible refine Mo_of (f_X5_makeReady_m _ _ _) ?_ | with_reducible refine Mo_of (f_X5_send_m _ _ _ _ _) ?_ | with_reducible refine Mo_of (f_X5_leaveFunction_m _) ?_ | with_reducible refine Mo_of (f_X5_turn_m _ _ _) ?_ | with_reducible refine Mo_of (f_X5_leastError_m _ _ _) ?_ | with_reducible refine Mo_of (f_X5_calculate_m _ _ _ _) ?_ | with_reducible refine Mo_of (f_X8_clear_m _) ?_ | with_reducible refine Mo_of (f_X8_put_m _ _ _ _) ?_ | with_reducible refine Mo_of (f_X8_tableOf_m _ _ _) ?_ | with_reducible refine Mo_of (f_X8_firstCell_m _ _) ?_ | with_reducible refine Mo_of (f_X8_cellsIn_m _ _) ?_ | with_reducible refine Mo_of (f_J9_floorMod_f86c9_m _ _ _) ?_ | with_reducible refine Mo_of (f_J7_rangeCheck_23922_m _ _ _ _) ?_ | with_reducible refine Mo_of (f_J7_fill_bad5a_L10_m _ _ _ _ _ _ _) ?_ | with_reducible refine Mo_of (f_J7_fill_bad5a_m _ _ _ _ _) ?_ | with_reducible refine Mo_of (f_J7_fill_eb02e_L10_m _ _ _ _ _ _ _) ?_ | with_reducible refine Mo_of (f_J7_fill_eb02e_m _ _ _ _ _) ?_ | with_reducible refine Mo_of (f_X5_settle_L15_m _ _ _ _ _ _ _ _) ?_ | with_reducible refine Mo_of (f_X5_settle_m _ _ _ _ _) ?_ | with_reducible refine Mo_of (f_X5_handIn_m _ _ _ _ _) ?_ | with_reducible refine Mo_of (f_X5_cellAt_m _ _ _) ?_ | with_reducible refine Mo_of (f_X5_operate_m _ _ _) ?_ | with_reducible refine Mo_of (f_X5_pickCell_m _ _ _) ?_ | with_reducible refine Mo_of (f_X0_add_m _ _ _) ?_ | with_reducible refine Mo_of (f_X2_add_m _ _ _ _) ?_ | with_reducible refine Mo_of (f_X8_take_m _ _ _) ?_ | with_reducible refine Mo_of (f_X5_openFrame_m _ _ _ _ _) ?_ | with_reducible refine Mo_of (f_X5_enter_L16_m _ _ _ _ _ _ _) ?_ | with_reducible refine Mo_of (f_X5_enter_m _ _ _ _) ?_ | with_reducible refine Mo_of (f_X5_await_m _ _ _ _) ?_ | with_reducible refine Mo_of (f_X5_lookUp_m _ _ _ _) ?_ | with_reducible refine Mo_of (f_X5_beginLoop_L52_m _ _ _ _ _ _ _ _ _) ?_ | with_reducible refine Mo_of (f_X5_beginLoop_m _ _ _ _) ?_ | with_reducible refine Mo_of (f_X5_visit_m _ _ _ _) ?_ | rfl)
        refine cG_X5_195_38_gA (pc := 83) X [.int x1, .int x2] [] 2 rfl (f_X5_beginLoop_e l g (mx gA ad ga) fu x1 x2 S _ _ hc12) (Nat.le_of_ble_eq_true rfl) (Nat.le_of_ble_eq_true rfl) (Nat.le_of_ble_eq_true rfl) rfl dX5_visit_83 (mo_use hc12 (f_X5_beginLoop_m fu x1 x2 S)) m2 b1 b2 (fun ga bc bs b1 b2 => ?_)
        refine iv_goto (pc := 86) X dX5_visit_86 (tgt := 95) rfl ?_
        cases hm
        exact is_vretG (pc := 95) X dX5_visit_95
      · rw [if_neg hb9] at hm
        have k0 := sw_ne hb1 (n := 1) (by decide)
        have k1 := sw_ne hb5 (n := 2) (by decide)
        have k2 := sw_ne hb9 (n := 9) (by decide)
        refine iv_lookup X dX5_visit_9 (off := 80) (tgt := 89) (by decide) (by simp [Op.lookupswitch.offset, k0, k0.symm, k1, k1.symm, k2, k2.symm]) (by decide) ?_
        refine iv_aload_n (pc := 89) X dX5_visit_89 rfl ?_
        refine iv_iload_n (pc := 90) X dX5_visit_90 rfl ?_
        refine iv_iload_n (pc := 91) X dX5_visit_91 rfl ?_
        obtain ⟨⟨r14, S13⟩, hc15, hm⟩ := bd_some hm
        refine cV_X5_198_38 (pc := 92) X [.int x1, .int x2] [] 2 rfl (f_X5_makeReady_e l g (mx gA ad ga) x1 x2 S _ _ hc15) (Nat.le_of_ble_eq_true rfl) (Nat.le_of_ble_eq_true rfl) (Nat.le_of_ble_eq_true rfl) rfl dX5_visit_92 ?_
        have b1 := gb_step (mo_use hc15 (f_X5_makeReady_m x1 x2 S)) b1
        have b2 := gb_step2 (mo_use hc15 (f_X5_makeReady_m x1 x2 S)) b2
        cases hm
        exact is_vretG (pc := 95) X dX5_visit_95
def f_X5_meet (x1 : Int32) (S : im_S) : Option (Unit × im_S) := gd (in_b x1 512) ((f_X5_slotOf (S.1 38 12) ((S.1 46) x1.toNatClampNeg) S).bind (fun qS1 => gd (in_b x1 512) ((f_X5_slotOf (qS1.2.1 38 12) ((qS1.2.1 47) x1.toNatClampNeg) qS1.2).bind (fun qS4 => gd (in_b qS1.1 (qS4.2.2.2 65)) (if ((qS4.2.1 65) qS1.1.toNatClampNeg : Int32) = 0 then (some ((), qS4.2)) else (gd (in_b qS4.1 (qS4.2.2.2 65)) (if ((qS4.2.1 65) qS4.1.toNatClampNeg : Int32) ≠ 0 then (gd (in_b x1 512) (if ((qS4.2.1 41) x1.toNatClampNeg : Int32) ≠ 6 then ((f_X5_makeReady (qS4.2.1 38 12) x1 qS4.2).bind (fun qS11 => some ((), qS11.2))) else ((f_X5_cellAt qS1.1 qS4.1 qS4.2).bind (fun qS14 => if (qS14.1 : Int32) = (-1) then ((f_X5_makeReady (qS14.2.1 38 12) x1 qS14.2).bind (fun qS18 => some ((), qS18.2))) else (gd (in_b qS14.1 (qS14.2.2.2 65)) (if ((qS14.2.1 65) qS14.1.toNatClampNeg : Int32) ≠ 0 then ((f_X5_makeReady (qS14.2.1 38 12) x1 qS14.2).bind (fun qS22 => some ((), qS22.2))) else ((f_X5_await qS14.1 (qS14.2.1 38 12) x1 qS14.2).bind (fun qS25 => some ((), qS25.2))))))))) else (some ((), qS4.2)))))))))
theorem f_X5_meet_m (x1 : Int32) (S : im_S) : Mo (f_X5_meet x1 S) S := by
  unfold f_X5_meet
  repeat' first | with_reducible exact Mo_none _ | with_reducible refine Mo_gd ?_ | with_reducible refine Mo_ite ?_ ?_ | with_reducible refine Mo_bind ?_ (fun q => ?_) | with_reducible refine Mo_some ?_ | with_reducible refine Mo_of (f_gr65_m _ _) ?_ | with_reducible refine Mo_of (f_gr66_m _ _) ?_ | with_reducible refine Mo_of (f_gr68_m _ _) ?_ | with_reducible refine Mo_of (f_gr69_m _ _) ?_ | with_reducible refine Mo_of (f_gr70_m _ _) ?_ | with_reducible refine Mo_of (f_gr71_m _ _) ?_ | with_reducible refine Mo_of (f_gr73_m _ _) ?_ | with_reducible refine Mo_of (f_gr74_m _ _) ?_ | with_reducible refine Mo_of (f_X0_clear_m _) ?_ | with_reducible refine Mo_of (f_X0_release_m _ _) ?_ | with_reducible refine Mo_of (f_X2_clear_m _) ?_ | with_reducible refine Mo_of (f_X2_outward_L5_m _ _ _ _ _ _ _) ?_ | with_reducible refine Mo_of (f_X2_outward_m _ _ _ _) ?_ | with_reducible refine Mo_of (f_X3_takesNumbers_L12_m _ _ _ _ _ _) ?_ | with_reducible refine Mo_of (f_X3_takesNumbers_m _ _ _) ?_ | with_reducible refine Mo_of (f_X5_condition_m _) ?_ | with_reducible refine Mo_of (f_X5_slotOf_m _ _ _) ?_ | with_reducible refine Mo_of (f_X5_makeReady_m _ _ _) ?_ | with_reducible refine Mo_of (f_X5_send_m _ _ _ _ _) ?_ | with_reducible refine Mo_of (f_X5_leaveFunction_m _) ?_ | with_reducible refine Mo_of (f_X5_turn_m _ _ _) ?_ | with_reducible refine Mo_of (f_X5_leastError_m _ _ _) ?_ | with_reducible refine Mo_of (f_X5_calculate_m _ _ _ _) ?_ | with_reducible refine Mo_of (f_X8_clear_m _) ?_ | with_reducible refine Mo_of (f_X8_put_m _ _ _ _) ?_ | with_reducible refine Mo_of (f_X8_tableOf_m _ _ _) ?_ | with_reducible refine Mo_of (f_X8_firstCell_m _ _) ?_ | with_reducible refine Mo_of (f_X8_cellsIn_m _ _) ?_ | with_reducible refine Mo_of (f_J9_floorMod_f86c9_m _ _ _) ?_ | with_reducible refine Mo_of (f_J7_rangeCheck_23922_m _ _ _ _) ?_ | with_reducible refine Mo_of (f_J7_fill_bad5a_L10_m _ _ _ _ _ _ _) ?_ | with_reducible refine Mo_of (f_J7_fill_bad5a_m _ _ _ _ _) ?_ | with_reducible refine Mo_of (f_J7_fill_eb02e_L10_m _ _ _ _ _ _ _) ?_ | with_reducible refine Mo_of (f_J7_fill_eb02e_m _ _ _ _ _) ?_ | with_reducible refine Mo_of (f_X5_settle_L15_m _ _ _ _ _ _ _ _) ?_ | with_reducible refine Mo_of (f_X5_settle_m _ _ _ _ _) ?_ | with_reducible refine Mo_of (f_X5_handIn_m _ _ _ _ _) ?_ | with_reducible refine Mo_of (f_X5_cellAt_m _ _ _) ?_ | with_reducible refine Mo_of (f_X5_operate_m _ _ _) ?_ | with_reducible refine Mo_of (f_X5_pickCell_m _ _ _) ?_ | with_reducible refine Mo_of (f_X0_add_m _ _ _) ?_ | with_reducible refine Mo_of (f_X2_add_m _ _ _ _) ?_ | with_reducible refine Mo_of (f_X8_take_m _ _ _) ?_ | with_reducible refine Mo_of (f_X5_openFrame_m _ _ _ _ _) ?_ | with_reducible refine Mo_of (f_X5_enter_L16_m _ _ _ _ _ _ _) ?_ | with_reducible refine Mo_of (f_X5_enter_m _ _ _ _) ?_ | with_reducible refine Mo_of (f_X5_await_m _ _ _ _) ?_ | with_reducible refine Mo_of (f_X5_lookUp_m _ _ _ _) ?_ | with_reducible refine Mo_of (f_X5_beginLoop_L52_m _ _ _ _ _ _ _ _ _) ?_ | with_reducible refine Mo_of (f_X5_beginLoop_m _ _ _ _) ?_ | with_reducible refine Mo_of (f_X5_visit_m _ _ _ _) ?_ | rfl
set_option maxHeartbeats 4000000 in
set_option maxRecDepth 100000 in
theorem f_X5_meet_e (l : Launch) (g : im_G) (ad : Nat → Nat) (x1 : Int32) (S : im_S) (r : Unit) (S' : im_S) (hm : f_X5_meet x1 S = some (r, S')) : im_EG gC l g ad 4 yX5_meet cX5_meet 5 none [.ref (ad 38), .int x1] S none S' := by
  unfold f_X5_meet at hm
  refine is_metG (own := RX5) (by decide +kernel) rfl (Nat.le_of_ble_eq_true rfl) (fun p e s m below meth c X ga bc bs b1 b2 => ?_)
  refine iv_aload_n (pc := 0) X dX5_meet_0 rfl ?_
  refine iv_aload_n (pc := 1) X dX5_meet_1 rfl ?_
  refine gF_X5_147_38 (pc := 2) X dX5_meet_2 (x := S.1 38 12) rfl ?_
  refine iv_aload_n (pc := 5) X dX5_meet_5 rfl ?_
  refine gF_X5_12_38 (pc := 6) X dX5_meet_6 ?_
  refine gF_X5_201_40 (pc := 9) X dX5_meet_9 ?_
  refine iv_iload_n (pc := 12) X dX5_meet_12 rfl ?_
  obtain ⟨hg, hm⟩ := gd_some hm
  refine aL_46 (pc := 13) X dX5_meet_13 hg (x := (S.1 46) x1.toNatClampNeg) rfl ?_
  obtain ⟨⟨r2, S1⟩, hc3, hm⟩ := bd_some hm
  refine cV_X5_84_38 (pc := 14) X [.int (S.1 38 12), .int ((S.1 46) x1.toNatClampNeg)] [] 2 rfl (f_X5_slotOf_e l g (mx gC ad ga) (S.1 38 12) ((S.1 46) x1.toNatClampNeg) S _ _ hc3) (Nat.le_of_ble_eq_true rfl) (Nat.le_of_ble_eq_true rfl) (Nat.le_of_ble_eq_true rfl) rfl dX5_meet_14 ?_
  have b1 := gb_step (mo_use hc3 (f_X5_slotOf_m (S.1 38 12) ((S.1 46) x1.toNatClampNeg) S)) b1
  have b2 := gb_step2 (mo_use hc3 (f_X5_slotOf_m (S.1 38 12) ((S.1 46) x1.toNatClampNeg) S)) b2
  refine iv_istore_n (pc := 17) X dX5_meet_17 (by decide) (lv' := [(2, .int r2), (0, .ref (mx gC ad ga 38)), (1, .int x1)]) rfl ?_
  refine iv_aload_n (pc := 18) X dX5_meet_18 rfl ?_
  refine iv_aload_n (pc := 19) X dX5_meet_19 rfl ?_
  refine gF_X5_147_38 (pc := 20) X dX5_meet_20 (x := S1.1 38 12) rfl ?_
  refine iv_aload_n (pc := 23) X dX5_meet_23 rfl ?_
  refine gF_X5_12_38 (pc := 24) X dX5_meet_24 ?_
  refine gF_X5_254_40 (pc := 27) X dX5_meet_27 ?_
  refine iv_iload_n (pc := 30) X dX5_meet_30 rfl ?_
  obtain ⟨hg, hm⟩ := gd_some hm
  refine aL_47 (pc := 31) X dX5_meet_31 hg (x := (S1.1 47) x1.toNatClampNeg) rfl ?_
  obtain ⟨⟨r5, S4⟩, hc6, hm⟩ := bd_some hm
  refine cV_X5_84_38 (pc := 32) X [.int (S1.1 38 12), .int ((S1.1 47) x1.toNatClampNeg)] [] 2 rfl (f_X5_slotOf_e l g (mx gC ad ga) (S1.1 38 12) ((S1.1 47) x1.toNatClampNeg) S1 _ _ hc6) (Nat.le_of_ble_eq_true rfl) (Nat.le_of_ble_eq_true rfl) (Nat.le_of_ble_eq_true rfl) rfl dX5_meet_32 ?_
  have b1 := gb_step (mo_use hc6 (f_X5_slotOf_m (S1.1 38 12) ((S1.1 47) x1.toNatClampNeg) S1)) b1
  have b2 := gb_step2 (mo_use hc6 (f_X5_slotOf_m (S1.1 38 12) ((S1.1 47) x1.toNatClampNeg) S1)) b2
  refine iv_istore_n (pc := 35) X dX5_meet_35 (by decide) (lv' := [(3, .int r5), (2, .int r2), (0, .ref (mx gC ad ga 38)), (1, .int x1)]) rfl ?_
  refine iv_aload_n (pc := 36) X dX5_meet_36 rfl ?_
  refine gF_X5_21_38 (pc := 37) X dX5_meet_37 ?_
  refine gF_X5_211_64 (pc := 40) X dX5_meet_40 ?_
  refine iv_iload_n (pc := 43) X dX5_meet_43 rfl ?_
  obtain ⟨hg, hm⟩ := gd_some hm
  refine aL_65 (pc := 44) X dX5_meet_44 hg (x := (S4.1 65) r2.toNatClampNeg) rfl ?_
  refine iv_if_eq (pc := 45) X dX5_meet_45 (tgt := 60) rfl (fun hb7 => ?_) (fun hb7 => ?_)
  · rw [if_pos hb7] at hm
    cases hm
    exact is_vretG (pc := 60) X dX5_meet_60
  · rw [if_neg hb7] at hm
    refine iv_aload_n (pc := 48) X dX5_meet_48 rfl ?_
    refine gF_X5_21_38 (pc := 49) X dX5_meet_49 ?_
    refine gF_X5_211_64 (pc := 52) X dX5_meet_52 ?_
    refine iv_iload_n (pc := 55) X dX5_meet_55 rfl ?_
    obtain ⟨hg, hm⟩ := gd_some hm
    refine aL_65 (pc := 56) X dX5_meet_56 hg (x := (S4.1 65) r5.toNatClampNeg) rfl ?_
    refine iv_if_ne (pc := 57) X dX5_meet_57 (tgt := 61) rfl (fun hb8 => ?_) (fun hb8 => ?_)
    · rw [if_pos hb8] at hm
      refine iv_aload_n (pc := 61) X dX5_meet_61 rfl ?_
      refine gF_X5_12_38 (pc := 62) X dX5_meet_62 ?_
      refine gF_X5_179_40 (pc := 65) X dX5_meet_65 ?_
      refine iv_iload_n (pc := 68) X dX5_meet_68 rfl ?_
      obtain ⟨hg, hm⟩ := gd_some hm
      refine aL_41 (pc := 69) X dX5_meet_69 hg (x := (S4.1 41) x1.toNatClampNeg) rfl ?_
      refine iv_bipush (pc := 70) X dX5_meet_70 bc_6 ?_
      refine iv_icmp_ne (pc := 72) X dX5_meet_72 (tgt := 84) rfl (fun hb9 => ?_) (fun hb9 => ?_)
      · rw [if_pos hb9] at hm
        refine iv_iconst (pc := 84) X dX5_meet_84 ic_m1 ?_
        refine iv_istore (pc := 85) X dX5_meet_85 (by decide) (lv' := [(4, .int (-1)), (3, .int r5), (2, .int r2), (0, .ref (mx gC ad ga 38)), (1, .int x1)]) rfl ?_
        refine iv_iload (pc := 87) X dX5_meet_87 rfl ?_
        refine iv_iconst (pc := 89) X dX5_meet_89 ic_m1 ?_
        refine iv_icmp_eq (pc := 90) X dX5_meet_90 (tgt := 120) rfl (fun _ => ?_) (fun hb => absurd (by decide) hb)
        refine iv_aload_n (pc := 120) X dX5_meet_120 rfl ?_
        refine iv_aload_n (pc := 121) X dX5_meet_121 rfl ?_
        refine gF_X5_147_38 (pc := 122) X dX5_meet_122 (x := S4.1 38 12) rfl ?_
        refine iv_iload_n (pc := 125) X dX5_meet_125 rfl ?_
        obtain ⟨⟨r12, S11⟩, hc13, hm⟩ := bd_some hm
        refine cV_X5_198_38 (pc := 126) X [.int (S4.1 38 12), .int x1] [] 2 rfl (f_X5_makeReady_e l g (mx gC ad ga) (S4.1 38 12) x1 S4 _ _ hc13) (Nat.le_of_ble_eq_true rfl) (Nat.le_of_ble_eq_true rfl) (Nat.le_of_ble_eq_true rfl) rfl dX5_meet_126 ?_
        have b1 := gb_step (mo_use hc13 (f_X5_makeReady_m (S4.1 38 12) x1 S4)) b1
        have b2 := gb_step2 (mo_use hc13 (f_X5_makeReady_m (S4.1 38 12) x1 S4)) b2
        cases hm
        exact is_vretG (pc := 129) X dX5_meet_129
      · rw [if_neg hb9] at hm
        refine iv_aload_n (pc := 75) X dX5_meet_75 rfl ?_
        refine iv_iload_n (pc := 76) X dX5_meet_76 rfl ?_
        refine iv_iload_n (pc := 77) X dX5_meet_77 rfl ?_
        obtain ⟨⟨r15, S14⟩, hc16, hm⟩ := bd_some hm
        refine cV_X5_257_38 (pc := 78) X [.int r2, .int r5] [] 2 rfl (f_X5_cellAt_e l g (mx gC ad ga) r2 r5 S4 _ _ hc16) (Nat.le_of_ble_eq_true rfl) (Nat.le_of_ble_eq_true rfl) (Nat.le_of_ble_eq_true rfl) rfl dX5_meet_78 ?_
        have b1 := gb_step (mo_use hc16 (f_X5_cellAt_m r2 r5 S4)) b1
        have b2 := gb_step2 (mo_use hc16 (f_X5_cellAt_m r2 r5 S4)) b2
        refine iv_goto (pc := 81) X dX5_meet_81 (tgt := 85) rfl ?_
        refine iv_istore (pc := 85) X dX5_meet_85 (by decide) (lv' := [(4, .int r15), (3, .int r5), (2, .int r2), (0, .ref (mx gC ad ga 38)), (1, .int x1)]) rfl ?_
        refine iv_iload (pc := 87) X dX5_meet_87 rfl ?_
        refine iv_iconst (pc := 89) X dX5_meet_89 ic_m1 ?_
        refine iv_icmp_eq (pc := 90) X dX5_meet_90 (tgt := 120) rfl (fun hb17 => ?_) (fun hb17 => ?_)
        · rw [if_pos hb17] at hm
          refine iv_aload_n (pc := 120) X dX5_meet_120 rfl ?_
          refine iv_aload_n (pc := 121) X dX5_meet_121 rfl ?_
          refine gF_X5_147_38 (pc := 122) X dX5_meet_122 (x := S14.1 38 12) rfl ?_
          refine iv_iload_n (pc := 125) X dX5_meet_125 rfl ?_
          obtain ⟨⟨r19, S18⟩, hc20, hm⟩ := bd_some hm
          refine cV_X5_198_38 (pc := 126) X [.int (S14.1 38 12), .int x1] [] 2 rfl (f_X5_makeReady_e l g (mx gC ad ga) (S14.1 38 12) x1 S14 _ _ hc20) (Nat.le_of_ble_eq_true rfl) (Nat.le_of_ble_eq_true rfl) (Nat.le_of_ble_eq_true rfl) rfl dX5_meet_126 ?_
          have b1 := gb_step (mo_use hc20 (f_X5_makeReady_m (S14.1 38 12) x1 S14)) b1
          have b2 := gb_step2 (mo_use hc20 (f_X5_makeReady_m (S14.1 38 12) x1 S14)) b2
          cases hm
          exact is_vretG (pc := 129) X dX5_meet_129
        · rw [if_neg hb17] at hm
          refine iv_aload_n (pc := 93) X dX5_meet_93 rfl ?_
          refine gF_X5_21_38 (pc := 94) X dX5_meet_94 ?_
          refine gF_X5_211_64 (pc := 97) X dX5_meet_97 ?_
          refine iv_iload (pc := 100) X dX5_meet_100 rfl ?_
          obtain ⟨hg, hm⟩ := gd_some hm
          refine aL_65 (pc := 102) X dX5_meet_102 hg (x := (S14.1 65) r15.toNatClampNeg) rfl ?_
          refine iv_if_ne (pc := 103) X dX5_meet_103 (tgt := 120) rfl (fun hb21 => ?_) (fun hb21 => ?_)
          · rw [if_pos hb21] at hm
            refine iv_aload_n (pc := 120) X dX5_meet_120 rfl ?_
            refine iv_aload_n (pc := 121) X dX5_meet_121 rfl ?_
            refine gF_X5_147_38 (pc := 122) X dX5_meet_122 (x := S14.1 38 12) rfl ?_
            refine iv_iload_n (pc := 125) X dX5_meet_125 rfl ?_
            obtain ⟨⟨r23, S22⟩, hc24, hm⟩ := bd_some hm
            refine cV_X5_198_38 (pc := 126) X [.int (S14.1 38 12), .int x1] [] 2 rfl (f_X5_makeReady_e l g (mx gC ad ga) (S14.1 38 12) x1 S14 _ _ hc24) (Nat.le_of_ble_eq_true rfl) (Nat.le_of_ble_eq_true rfl) (Nat.le_of_ble_eq_true rfl) rfl dX5_meet_126 ?_
            have b1 := gb_step (mo_use hc24 (f_X5_makeReady_m (S14.1 38 12) x1 S14)) b1
            have b2 := gb_step2 (mo_use hc24 (f_X5_makeReady_m (S14.1 38 12) x1 S14)) b2
            cases hm
            exact is_vretG (pc := 129) X dX5_meet_129
          · rw [if_neg hb21] at hm
            refine iv_aload_n (pc := 106) X dX5_meet_106 rfl ?_
            refine iv_iload (pc := 107) X dX5_meet_107 rfl ?_
            refine iv_aload_n (pc := 109) X dX5_meet_109 rfl ?_
            refine gF_X5_147_38 (pc := 110) X dX5_meet_110 (x := S14.1 38 12) rfl ?_
            refine iv_iload_n (pc := 113) X dX5_meet_113 rfl ?_
            obtain ⟨⟨r26, S25⟩, hc27, hm⟩ := bd_some hm
            have m2 := mo_use (S := S25) hm (by repeat' first | with_reducible exact Mo_none _ | with_reducible refine Mo_gd ?_ | with_reducible refine Mo_ite ?_ ?_ | with_reducible refine Mo_bind ?_ (fun q => ?_) | with_reducible refine Mo_some ?_ | with_reducible refine Mo_of (f_gr65_m _ _) ?_ | with_reducible refine Mo_of (f_gr66_m _ _) ?_ | with_reducible refine Mo_of (f_gr68_m _ _) ?_ | with_reducible refine Mo_of (f_gr69_m _ _) ?_ | with_reducible refine Mo_of (f_gr70_m _ _) ?_ | with_reducible refine Mo_of (f_gr71_m _ _) ?_ | with_reducible refine Mo_of (f_gr73_m _ _) ?_ | with_reducible refine Mo_of (f_gr74_m _ _) ?_ | with_reducible refine Mo_of (f_X0_clear_m _) ?_ | with_reducible refine Mo_of (f_X0_release_m _ _) ?_ | with_reducible refine Mo_of (f_X2_clear_m _) ?_ | with_reducible refine Mo_of (f_X2_outward_L5_m _ _ _ _ _ _ _) ?_ | with_reducible refine Mo_of (f_X2_outward_m _ _ _ _) ?_ | with_reducible refine Mo_of (f_X3_takesNumbers_L12_m _ _ _ _ _ _) ?_ | with_reducible refine Mo_of (f_X3_takesNumbers_m _ _ _) ?_ | with_reducible refine Mo_of (f_X5_condition_m _) ?_ | with_reducible refine Mo_of (f_X5_slotOf_m _ _ _) ?_ | with_reducible refine Mo_of (f_X5_makeReady_m _ _ _) ?_ | with_reducible refine Mo_of (f_X5_send_m _ _ _ _ _) ?_ | with_reducible refine Mo_of (f_X5_leaveFunction_m _) ?_ | with_reducible refine Mo_of (f_X5_turn_m _ _ _) ?_ | with_reducible refine Mo_of (f_X5_leastError_m _ _ _) ?_ | with_reducible refine Mo_of (f_X5_calculate_m _ _ _ _) ?_ | with_reducible refine Mo_of (f_X8_clear_m _) ?_ | with_reducible refine Mo_of (f_X8_put_m _ _ _ _) ?_ | with_reducible refine Mo_of (f_X8_tableOf_m _ _ _) ?_ | with_reducible refine Mo_of (f_X8_firstCell_m _ _) ?_ | with_reducible refine Mo_of (f_X8_cellsIn_m _ _) ?_ | with_reducible refine Mo_of (f_J9_floorMod_f86c9_m _ _ _) ?_ | with_reducible refine Mo_of (f_J7_rangeCheck_23922_m _ _ _ _) ?_ | with_reducible refine Mo_of (f_J7_fill_bad5a_L10_m _ _ _ _ _ _ _) ?_ | with_reducible refine Mo_of (f_J7_fill_bad5a_m _ _ _ _ _) ?_ | with_reducible refine Mo_of (f_J7_fill_eb02e_L10_m _ _ _ _ _ _ _) ?_ | with_reducible refine Mo_of (f_J7_fill_eb02e_m _ _ _ _ _) ?_ | with_reducible refine Mo_of (f_X5_settle_L15_m _ _ _ _ _ _ _ _) ?_ | with_reducible refine Mo_of (f_X5_settle_m _ _ _ _ _) ?_ | with_reducible refine Mo_of (f_X5_handIn_m _ _ _ _ _) ?_ | with_reducible refine Mo_of (f_X5_cellAt_m _ _ _) ?_ | with_reducible refine Mo_of (f_X5_operate_m _ _ _) ?_ | with_reducible refine Mo_of (f_X5_pickCell_m _ _ _) ?_ | with_reducible refine Mo_of (f_X0_add_m _ _ _) ?_ | with_reducible refine Mo_of (f_X2_add_m _ _ _ _) ?_ | with_reducible refine Mo_of (f_X8_take_m _ _ _) ?_ | with_reducible refine Mo_of (f_X5_openFrame_m _ _ _ _ _) ?_ | with_reducible refine Mo_of (f_X5_enter_L16_m _ _ _ _ _ _ _) ?_ | with_reducible refine Mo_of (f_X5_enter_m _ _ _ _) ?_ | with_reducible refine Mo_of (f_X5_await_m _ _ _ _) ?_ | with_reducible refine Mo_of (f_X5_lookUp_m _ _ _ _) ?_ | with_reducible refine Mo_of (f_X5_beginLoop_L52_m _ _ _ _ _ _ _ _ _) ?_ | with_reducible refine Mo_of (f_X5_beginLoop_m _ _ _ _) ?_ | with_reducible refine Mo_of (f_X5_visit_m _ _ _ _) ?_ | with_reducible refine Mo_of (f_X5_meet_m _ _) ?_ | rfl)
            refine cG_X5_214_38_gC (pc := 114) X [.int r15, .int (S14.1 38 12), .int x1] [] 3 rfl (f_X5_await_e l g (mx gC ad ga) r15 (S14.1 38 12) x1 S14 _ _ hc27) (Nat.le_of_ble_eq_true rfl) (Nat.le_of_ble_eq_true rfl) (Nat.le_of_ble_eq_true rfl) rfl dX5_meet_114 (mo_use hc27 (f_X5_await_m r15 (S14.1 38 12) x1 S14)) m2 b1 b2 (fun ga bc bs b1 b2 => ?_)
            refine iv_goto (pc := 117) X dX5_meet_117 (tgt := 129) rfl ?_
            cases hm
            exact is_vretG (pc := 129) X dX5_meet_129
    · rw [if_neg hb8] at hm
      cases hm
      exact is_vretG (pc := 60) X dX5_meet_60
def f_X5_move (fu : Nat) (S : im_S) : Option (Unit × im_S) := gd (in_b (S.1 38 13) 512) ((f_X5_slotOf (S.1 38 12) (S.1 38 13) (uI S 38 11 0)).bind (fun qS1 => (f_X8_put qS1.1 (qS1.2.1 38 14) (qS1.2.2.1 38 15) qS1.2).bind (fun qS4 => gd (in_b (qS4.2.1 38 13) 512) (if ((qS4.2.1 43) ((qS4.2.1 38 13).toNatClampNeg)) = (1 : Int32) then ((f_X5_makeReady (qS4.2.1 38 12) ((S.1 44) ((S.1 38 13).toNatClampNeg)) qS4.2).bind (fun qS8 => some ((), qS8.2))) else (if ((qS4.2.1 43) ((qS4.2.1 38 13).toNatClampNeg)) = (2 : Int32) then ((f_X5_meet ((S.1 44) ((S.1 38 13).toNatClampNeg)) qS4.2).bind (fun qS12 => some ((), qS12.2))) else (if ((qS4.2.1 43) ((qS4.2.1 38 13).toNatClampNeg)) = (3 : Int32) then ((f_X5_send (qS4.2.1 38 12) ((S.1 44) ((S.1 38 13).toNatClampNeg)) (qS4.2.1 38 14) (qS4.2.2.1 38 15) qS4.2).bind (fun qS16 => some ((), qS16.2))) else (if ((qS4.2.1 43) ((qS4.2.1 38 13).toNatClampNeg)) = (4 : Int32) then (gd (in_b (qS4.2.1 38 13) 512) ((f_X5_slotOf (qS4.2.1 38 12) ((qS4.2.1 45) ((qS4.2.1 38 13).toNatClampNeg)) qS4.2).bind (fun qS20 => (f_X5_settle fu qS20.1 (qS20.2.1 38 14) (qS20.2.2.1 38 15) qS20.2).bind (fun qS23 => some ((), qS23.2))))) else (if ((qS4.2.1 43) ((qS4.2.1 38 13).toNatClampNeg)) = (5 : Int32) then ((f_X5_slotOf (qS4.2.1 38 12) ((S.1 44) ((S.1 38 13).toNatClampNeg)) qS4.2).bind (fun qS27 => gd (in_b (qS27.1 + 1) (qS27.2.2.2 66)) (if (((qS27.2.2.1 66) ((qS27.1 + 1).toNatClampNeg)).toInt32 : Int32) = 0 then (some ((), qS27.2)) else ((f_X5_handIn fu (qS27.2.1 38 12) (qS27.2.1 38 13) (((qS27.2.2.1 66) ((qS27.1 + 1).toNatClampNeg)).toInt32) qS27.2).bind (fun qS31 => some ((), qS31.2)))))) else (if ((qS4.2.1 43) ((qS4.2.1 38 13).toNatClampNeg)) = (6 : Int32) then (gd (in_b (qS4.2.1 38 12) (qS4.2.2.2 71)) ((f_X5_handIn fu (qS4.2.1 38 12) (qS4.2.1 38 13) ((qS4.2.1 71) ((qS4.2.1 38 12).toNatClampNeg)) qS4.2).bind (fun qS35 => some ((), qS35.2)))) else (if ((qS4.2.1 43) ((qS4.2.1 38 13).toNatClampNeg)) = (7 : Int32) then (gd (in_b (qS4.2.1 38 12) (qS4.2.2.2 69)) ((f_X5_send ((qS4.2.1 69) ((qS4.2.1 38 12).toNatClampNeg)) ((S.1 44) ((S.1 38 13).toNatClampNeg)) (qS4.2.1 38 14) (qS4.2.2.1 38 15) qS4.2).bind (fun qS39 => some ((), qS39.2)))) else (if ((qS4.2.1 43) ((qS4.2.1 38 13).toNatClampNeg)) = (8 : Int32) then (gd (in_b (qS4.2.1 38 12) (qS4.2.2.2 70)) ((f_X5_settle fu ((qS4.2.1 70) ((qS4.2.1 38 12).toNatClampNeg)) (qS4.2.1 38 14) (qS4.2.2.1 38 15) qS4.2).bind (fun qS43 => some ((), qS43.2)))) else ((f_X5_leaveFunction qS4.2).bind (fun qS46 => some ((), qS46.2))))))))))))))
theorem f_X5_move_m (fu : Nat) (S : im_S) : Mo (f_X5_move fu  S) S := by
  unfold f_X5_move
  repeat' first | with_reducible exact Mo_none _ | with_reducible refine Mo_gd ?_ | with_reducible refine Mo_ite ?_ ?_ | with_reducible refine Mo_bind ?_ (fun q => ?_) | with_reducible refine Mo_some ?_ | with_reducible refine Mo_of (f_gr65_m _ _) ?_ | with_reducible refine Mo_of (f_gr66_m _ _) ?_ | with_reducible refine Mo_of (f_gr68_m _ _) ?_ | with_reducible refine Mo_of (f_gr69_m _ _) ?_ | with_reducible refine Mo_of (f_gr70_m _ _) ?_ | with_reducible refine Mo_of (f_gr71_m _ _) ?_ | with_reducible refine Mo_of (f_gr73_m _ _) ?_ | with_reducible refine Mo_of (f_gr74_m _ _) ?_ | with_reducible refine Mo_of (f_X0_clear_m _) ?_ | with_reducible refine Mo_of (f_X0_release_m _ _) ?_ | with_reducible refine Mo_of (f_X2_clear_m _) ?_ | with_reducible refine Mo_of (f_X2_outward_L5_m _ _ _ _ _ _ _) ?_ | with_reducible refine Mo_of (f_X2_outward_m _ _ _ _) ?_ | with_reducible refine Mo_of (f_X3_takesNumbers_L12_m _ _ _ _ _ _) ?_ | with_reducible refine Mo_of (f_X3_takesNumbers_m _ _ _) ?_ | with_reducible refine Mo_of (f_X5_condition_m _) ?_ | with_reducible refine Mo_of (f_X5_slotOf_m _ _ _) ?_ | with_reducible refine Mo_of (f_X5_makeReady_m _ _ _) ?_ | with_reducible refine Mo_of (f_X5_send_m _ _ _ _ _) ?_ | with_reducible refine Mo_of (f_X5_leaveFunction_m _) ?_ | with_reducible refine Mo_of (f_X5_turn_m _ _ _) ?_ | with_reducible refine Mo_of (f_X5_leastError_m _ _ _) ?_ | with_reducible refine Mo_of (f_X5_calculate_m _ _ _ _) ?_ | with_reducible refine Mo_of (f_X8_clear_m _) ?_ | with_reducible refine Mo_of (f_X8_put_m _ _ _ _) ?_ | with_reducible refine Mo_of (f_X8_tableOf_m _ _ _) ?_ | with_reducible refine Mo_of (f_X8_firstCell_m _ _) ?_ | with_reducible refine Mo_of (f_X8_cellsIn_m _ _) ?_ | with_reducible refine Mo_of (f_J9_floorMod_f86c9_m _ _ _) ?_ | with_reducible refine Mo_of (f_J7_rangeCheck_23922_m _ _ _ _) ?_ | with_reducible refine Mo_of (f_J7_fill_bad5a_L10_m _ _ _ _ _ _ _) ?_ | with_reducible refine Mo_of (f_J7_fill_bad5a_m _ _ _ _ _) ?_ | with_reducible refine Mo_of (f_J7_fill_eb02e_L10_m _ _ _ _ _ _ _) ?_ | with_reducible refine Mo_of (f_J7_fill_eb02e_m _ _ _ _ _) ?_ | with_reducible refine Mo_of (f_X5_settle_L15_m _ _ _ _ _ _ _ _) ?_ | with_reducible refine Mo_of (f_X5_settle_m _ _ _ _ _) ?_ | with_reducible refine Mo_of (f_X5_handIn_m _ _ _ _ _) ?_ | with_reducible refine Mo_of (f_X5_cellAt_m _ _ _) ?_ | with_reducible refine Mo_of (f_X5_operate_m _ _ _) ?_ | with_reducible refine Mo_of (f_X5_pickCell_m _ _ _) ?_ | with_reducible refine Mo_of (f_X0_add_m _ _ _) ?_ | with_reducible refine Mo_of (f_X2_add_m _ _ _ _) ?_ | with_reducible refine Mo_of (f_X8_take_m _ _ _) ?_ | with_reducible refine Mo_of (f_X5_openFrame_m _ _ _ _ _) ?_ | with_reducible refine Mo_of (f_X5_enter_L16_m _ _ _ _ _ _ _) ?_ | with_reducible refine Mo_of (f_X5_enter_m _ _ _ _) ?_ | with_reducible refine Mo_of (f_X5_await_m _ _ _ _) ?_ | with_reducible refine Mo_of (f_X5_lookUp_m _ _ _ _) ?_ | with_reducible refine Mo_of (f_X5_beginLoop_L52_m _ _ _ _ _ _ _ _ _) ?_ | with_reducible refine Mo_of (f_X5_beginLoop_m _ _ _ _) ?_ | with_reducible refine Mo_of (f_X5_visit_m _ _ _ _) ?_ | with_reducible refine Mo_of (f_X5_meet_m _ _) ?_ | rfl
set_option maxHeartbeats 4000000 in
set_option maxRecDepth 100000 in
theorem f_X5_move_e (l : Launch) (g : im_G) (ad : Nat → Nat) (fu : Nat) (S : im_S) (r : Unit) (S' : im_S) (hm : f_X5_move fu  S = some (r, S')) : im_EG gC l g ad 5 yX5_move cX5_move 3 none [.ref (ad 38)] S none S' := by
  unfold f_X5_move at hm
  refine is_metG (own := RX5) (by decide +kernel) rfl (Nat.le_of_ble_eq_true rfl) (fun p e s m below meth c X ga bc bs b1 b2 => ?_)
  refine iv_aload_n (pc := 0) X dX5_move_0 rfl ?_
  refine gF_X5_12_38 (pc := 1) X dX5_move_1 ?_
  refine gF_X5_233_40 (pc := 4) X dX5_move_4 ?_
  refine iv_aload_n (pc := 7) X dX5_move_7 rfl ?_
  refine gF_X5_150_38 (pc := 8) X dX5_move_8 (x := S.1 38 13) rfl ?_
  obtain ⟨hg, hm⟩ := gd_some hm
  refine aL_44 (pc := 11) X dX5_move_11 hg (x := (S.1 44) ((S.1 38 13).toNatClampNeg)) rfl ?_
  refine iv_istore_n (pc := 12) X dX5_move_12 (by decide) (lv' := [(1, .int ((S.1 44) ((S.1 38 13).toNatClampNeg))), (0, .ref (mx gC ad ga 38))]) rfl ?_
  refine iv_aload_n (pc := 13) X dX5_move_13 rfl ?_
  refine iv_iconst (pc := 14) X dX5_move_14 ic_0 ?_
  refine pF_X5_60_38 (pc := 15) X dX5_move_15 rfl ?_
  refine iv_aload_n (pc := 18) X dX5_move_18 rfl ?_
  refine gF_X5_21_38 (pc := 19) X dX5_move_19 ?_
  refine iv_aload_n (pc := 22) X dX5_move_22 rfl ?_
  refine iv_aload_n (pc := 23) X dX5_move_23 rfl ?_
  refine gF_X5_147_38 (pc := 24) X dX5_move_24 (x := S.1 38 12) rfl ?_
  refine iv_aload_n (pc := 27) X dX5_move_27 rfl ?_
  refine gF_X5_150_38 (pc := 28) X dX5_move_28 (x := S.1 38 13) rfl ?_
  obtain ⟨⟨r2, S1⟩, hc3, hm⟩ := bd_some hm
  refine cV_X5_84_38 (pc := 31) X [.int (S.1 38 12), .int (S.1 38 13)] [.ref (mx gC ad ga 64)] 2 rfl (f_X5_slotOf_e l g (mx gC ad ga) (S.1 38 12) (S.1 38 13) (uI S 38 11 0) _ _ hc3) (Nat.le_of_ble_eq_true rfl) (Nat.le_of_ble_eq_true rfl) (Nat.le_of_ble_eq_true rfl) rfl dX5_move_31 ?_
  have b1 := gb_step (mo_use hc3 (f_X5_slotOf_m (S.1 38 12) (S.1 38 13) (uI S 38 11 0))) b1
  have b2 := gb_step2 (mo_use hc3 (f_X5_slotOf_m (S.1 38 12) (S.1 38 13) (uI S 38 11 0))) b2
  refine iv_aload_n (pc := 34) X dX5_move_34 rfl ?_
  refine gF_X5_153_38 (pc := 35) X dX5_move_35 (x := S1.1 38 14) rfl ?_
  refine iv_aload_n (pc := 38) X dX5_move_38 rfl ?_
  refine gF_X5_156_38 (pc := 39) X dX5_move_39 (x := S1.2.1 38 15) rfl ?_
  obtain ⟨⟨r5, S4⟩, hc6, hm⟩ := bd_some hm
  refine cV_X5_88_64 (pc := 42) X [.int r2, .int (S1.1 38 14), .long (S1.2.1 38 15)] [] 3 rfl (f_X8_put_e l g (mx gC ad ga) r2 (S1.1 38 14) (S1.2.1 38 15) S1 _ _ hc6) (Nat.le_of_ble_eq_true rfl) (Nat.le_of_ble_eq_true rfl) (Nat.le_of_ble_eq_true rfl) rfl dX5_move_42 ?_
  have b1 := gb_step (mo_use hc6 (f_X8_put_m r2 (S1.1 38 14) (S1.2.1 38 15) S1)) b1
  have b2 := gb_step2 (mo_use hc6 (f_X8_put_m r2 (S1.1 38 14) (S1.2.1 38 15) S1)) b2
  refine iv_aload_n (pc := 45) X dX5_move_45 rfl ?_
  refine gF_X5_12_38 (pc := 46) X dX5_move_46 ?_
  refine gF_X5_221_40 (pc := 49) X dX5_move_49 ?_
  refine iv_aload_n (pc := 52) X dX5_move_52 rfl ?_
  refine gF_X5_150_38 (pc := 53) X dX5_move_53 (x := S4.1 38 13) rfl ?_
  obtain ⟨hg, hm⟩ := gd_some hm
  refine aL_43 (pc := 56) X dX5_move_56 hg (x := (S4.1 43) ((S4.1 38 13).toNatClampNeg)) rfl ?_
  by_cases hb7 : ((S4.1 43) ((S4.1 38 13).toNatClampNeg)) = (1 : Int32)
  · rw [if_pos hb7] at hm
    refine iv_tableIn X dX5_move_57 (off := 47) (tgt := 104) (by rw [hb7]; decide) (by rw [hb7]; decide) (by rw [hb7]; decide) (by decide) ?_
    refine iv_aload_n (pc := 104) X dX5_move_104 rfl ?_
    refine iv_aload_n (pc := 105) X dX5_move_105 rfl ?_
    refine gF_X5_147_38 (pc := 106) X dX5_move_106 (x := S4.1 38 12) rfl ?_
    refine iv_iload_n (pc := 109) X dX5_move_109 rfl ?_
    obtain ⟨⟨r9, S8⟩, hc10, hm⟩ := bd_some hm
    refine cV_X5_198_38 (pc := 110) X [.int (S4.1 38 12), .int ((S.1 44) ((S.1 38 13).toNatClampNeg))] [] 2 rfl (f_X5_makeReady_e l g (mx gC ad ga) (S4.1 38 12) ((S.1 44) ((S.1 38 13).toNatClampNeg)) S4 _ _ hc10) (Nat.le_of_ble_eq_true rfl) (Nat.le_of_ble_eq_true rfl) (Nat.le_of_ble_eq_true rfl) rfl dX5_move_110 ?_
    have b1 := gb_step (mo_use hc10 (f_X5_makeReady_m (S4.1 38 12) ((S.1 44) ((S.1 38 13).toNatClampNeg)) S4)) b1
    have b2 := gb_step2 (mo_use hc10 (f_X5_makeReady_m (S4.1 38 12) ((S.1 44) ((S.1 38 13).toNatClampNeg)) S4)) b2
    refine iv_goto (pc := 113) X dX5_move_113 (tgt := 306) rfl ?_
    cases hm
    exact is_vretG (pc := 306) X dX5_move_306
  · rw [if_neg hb7] at hm
    by_cases hb11 : ((S4.1 43) ((S4.1 38 13).toNatClampNeg)) = (2 : Int32)
    · rw [if_pos hb11] at hm
      refine iv_tableIn X dX5_move_57 (off := 59) (tgt := 116) (by rw [hb11]; decide) (by rw [hb11]; decide) (by rw [hb11]; decide) (by decide) ?_
      refine iv_aload_n (pc := 116) X dX5_move_116 rfl ?_
      refine iv_iload_n (pc := 117) X dX5_move_117 rfl ?_
      obtain ⟨⟨r13, S12⟩, hc14, hm⟩ := bd_some hm
      have m2 := mo_use (S := S12) hm (by repeat' first | with_reducible exact Mo_none _ | with_reducible refine Mo_gd ?_ | with_reducible refine Mo_ite ?_ ?_ | with_reducible refine Mo_bind ?_ (fun q => ?_) | with_reducible refine Mo_some ?_ | with_reducible refine Mo_of (f_gr65_m _ _) ?_ | with_reducible refine Mo_of (f_gr66_m _ _) ?_ | with_reducible refine Mo_of (f_gr68_m _ _) ?_ | with_reducible refine Mo_of (f_gr69_m _ _) ?_ | with_reducible refine Mo_of (f_gr70_m _ _) ?_ | with_reducible refine Mo_of (f_gr71_m _ _) ?_ | with_reducible refine Mo_of (f_gr73_m _ _) ?_ | with_reducible refine Mo_of (f_gr74_m _ _) ?_ | with_reducible refine Mo_of (f_X0_clear_m _) ?_ | with_reducible refine Mo_of (f_X0_release_m _ _) ?_ | with_reducible refine Mo_of (f_X2_clear_m _) ?_ | with_reducible refine Mo_of (f_X2_outward_L5_m _ _ _ _ _ _ _) ?_ | with_reducible refine Mo_of (f_X2_outward_m _ _ _ _) ?_ | with_reducible refine Mo_of (f_X3_takesNumbers_L12_m _ _ _ _ _ _) ?_ | with_reducible refine Mo_of (f_X3_takesNumbers_m _ _ _) ?_ | with_reducible refine Mo_of (f_X5_condition_m _) ?_ | with_reducible refine Mo_of (f_X5_slotOf_m _ _ _) ?_ | with_reducible refine Mo_of (f_X5_makeReady_m _ _ _) ?_ | with_reducible refine Mo_of (f_X5_send_m _ _ _ _ _) ?_ | with_reducible refine Mo_of (f_X5_leaveFunction_m _) ?_ | with_reducible refine Mo_of (f_X5_turn_m _ _ _) ?_ | with_reducible refine Mo_of (f_X5_leastError_m _ _ _) ?_ | with_reducible refine Mo_of (f_X5_calculate_m _ _ _ _) ?_ | with_reducible refine Mo_of (f_X8_clear_m _) ?_ | with_reducible refine Mo_of (f_X8_put_m _ _ _ _) ?_ | with_reducible refine Mo_of (f_X8_tableOf_m _ _ _) ?_ | with_reducible refine Mo_of (f_X8_firstCell_m _ _) ?_ | with_reducible refine Mo_of (f_X8_cellsIn_m _ _) ?_ | with_reducible refine Mo_of (f_J9_floorMod_f86c9_m _ _ _) ?_ | with_reducible refine Mo_of (f_J7_rangeCheck_23922_m _ _ _ _) ?_ | with_reducible refine Mo_of (f_J7_fill_bad5a_L10_m _ _ _ _ _ _ _) ?_ | with_reducible refine Mo_of (f_J7_fill_bad5a_m _ _ _ _ _) ?_ | with_reducible refine Mo_of (f_J7_fill_eb02e_L10_m _ _ _ _ _ _ _) ?_ | with_reducible refine Mo_of (f_J7_fill_eb02e_m _ _ _ _ _) ?_ | with_reducible refine Mo_of (f_X5_settle_L15_m _ _ _ _ _ _ _ _) ?_ | with_reducible refine Mo_of (f_X5_settle_m _ _ _ _ _) ?_ | with_reducible refine Mo_of (f_X5_handIn_m _ _ _ _ _) ?_ | with_reducible refine Mo_of (f_X5_cellAt_m _ _ _) ?_ | with_reducible refine Mo_of (f_X5_operate_m _ _ _) ?_ | with_reducible refine Mo_of (f_X5_pickCell_m _ _ _) ?_ | with_reducible refine Mo_of (f_X0_add_m _ _ _) ?_ | with_reducible refine Mo_of (f_X2_add_m _ _ _ _) ?_ | with_reducible refine Mo_of (f_X8_take_m _ _ _) ?_ | with_reducible refine Mo_of (f_X5_openFrame_m _ _ _ _ _) ?_ | with_reducible refine Mo_of (f_X5_enter_L16_m _ _ _ _ _ _ _) ?_ | with_reducible refine Mo_of (f_X5_enter_m _ _ _ _) ?_ | with_reducible refine Mo_of (f_X5_await_m _ _ _ _) ?_ | with_reducible refine Mo_of (f_X5_lookUp_m _ _ _ _) ?_ | with_reducible refine Mo_of (f_X5_beginLoop_L52_m _ _ _ _ _ _ _ _ _) ?_ | with_reducible refine Mo_of (f_X5_beginLoop_m _ _ _ _) ?_ | with_reducible refine Mo_of (f_X5_visit_m _ _ _ _) ?_ | with_reducible refine Mo_of (f_X5_meet_m _ _) ?_ | with_reducible refine Mo_of (f_X5_move_m _ _) ?_ | rfl)
      refine cG_X5_236_38_gC (pc := 118) X [.int ((S.1 44) ((S.1 38 13).toNatClampNeg))] [] 1 rfl (f_X5_meet_e l g (mx gC ad ga) ((S.1 44) ((S.1 38 13).toNatClampNeg)) S4 _ _ hc14) (Nat.le_of_ble_eq_true rfl) (Nat.le_of_ble_eq_true rfl) (Nat.le_of_ble_eq_true rfl) rfl dX5_move_118 (mo_use hc14 (f_X5_meet_m ((S.1 44) ((S.1 38 13).toNatClampNeg)) S4)) m2 b1 b2 (fun ga bc bs b1 b2 => ?_)
      refine iv_goto (pc := 121) X dX5_move_121 (tgt := 306) rfl ?_
      cases hm
      exact is_vretG (pc := 306) X dX5_move_306
    · rw [if_neg hb11] at hm
      by_cases hb15 : ((S4.1 43) ((S4.1 38 13).toNatClampNeg)) = (3 : Int32)
      · rw [if_pos hb15] at hm
        refine iv_tableIn X dX5_move_57 (off := 67) (tgt := 124) (by rw [hb15]; decide) (by rw [hb15]; decide) (by rw [hb15]; decide) (by decide) ?_
        refine iv_aload_n (pc := 124) X dX5_move_124 rfl ?_
        refine iv_aload_n (pc := 125) X dX5_move_125 rfl ?_
        refine gF_X5_147_38 (pc := 126) X dX5_move_126 (x := S4.1 38 12) rfl ?_
        refine iv_iload_n (pc := 129) X dX5_move_129 rfl ?_
        refine iv_aload_n (pc := 130) X dX5_move_130 rfl ?_
        refine gF_X5_153_38 (pc := 131) X dX5_move_131 (x := S4.1 38 14) rfl ?_
        refine iv_aload_n (pc := 134) X dX5_move_134 rfl ?_
        refine gF_X5_156_38 (pc := 135) X dX5_move_135 (x := S4.2.1 38 15) rfl ?_
        obtain ⟨⟨r17, S16⟩, hc18, hm⟩ := bd_some hm
        refine cV_X5_188_38 (pc := 138) X [.int (S4.1 38 12), .int ((S.1 44) ((S.1 38 13).toNatClampNeg)), .int (S4.1 38 14), .long (S4.2.1 38 15)] [] 4 rfl (f_X5_send_e l g (mx gC ad ga) (S4.1 38 12) ((S.1 44) ((S.1 38 13).toNatClampNeg)) (S4.1 38 14) (S4.2.1 38 15) S4 _ _ hc18) (Nat.le_of_ble_eq_true rfl) (Nat.le_of_ble_eq_true rfl) (Nat.le_of_ble_eq_true rfl) rfl dX5_move_138 ?_
        have b1 := gb_step (mo_use hc18 (f_X5_send_m (S4.1 38 12) ((S.1 44) ((S.1 38 13).toNatClampNeg)) (S4.1 38 14) (S4.2.1 38 15) S4)) b1
        have b2 := gb_step2 (mo_use hc18 (f_X5_send_m (S4.1 38 12) ((S.1 44) ((S.1 38 13).toNatClampNeg)) (S4.1 38 14) (S4.2.1 38 15) S4)) b2
        refine iv_goto (pc := 141) X dX5_move_141 (tgt := 306) rfl ?_
        cases hm
        exact is_vretG (pc := 306) X dX5_move_306
      · rw [if_neg hb15] at hm
        by_cases hb19 : ((S4.1 43) ((S4.1 38 13).toNatClampNeg)) = (4 : Int32)
        · rw [if_pos hb19] at hm
          refine iv_tableIn X dX5_move_57 (off := 87) (tgt := 144) (by rw [hb19]; decide) (by rw [hb19]; decide) (by rw [hb19]; decide) (by decide) ?_
          refine iv_aload_n (pc := 144) X dX5_move_144 rfl ?_
          refine iv_aload_n (pc := 145) X dX5_move_145 rfl ?_
          refine iv_aload_n (pc := 146) X dX5_move_146 rfl ?_
          refine gF_X5_147_38 (pc := 147) X dX5_move_147 (x := S4.1 38 12) rfl ?_
          refine iv_aload_n (pc := 150) X dX5_move_150 rfl ?_
          refine gF_X5_12_38 (pc := 151) X dX5_move_151 ?_
          refine gF_X5_227_40 (pc := 154) X dX5_move_154 ?_
          refine iv_aload_n (pc := 157) X dX5_move_157 rfl ?_
          refine gF_X5_150_38 (pc := 158) X dX5_move_158 (x := S4.1 38 13) rfl ?_
          obtain ⟨hg, hm⟩ := gd_some hm
          refine aL_45 (pc := 161) X dX5_move_161 hg (x := (S4.1 45) ((S4.1 38 13).toNatClampNeg)) rfl ?_
          obtain ⟨⟨r21, S20⟩, hc22, hm⟩ := bd_some hm
          refine cV_X5_84_38 (pc := 162) X [.int (S4.1 38 12), .int ((S4.1 45) ((S4.1 38 13).toNatClampNeg))] [.ref (mx gC ad ga 38)] 2 rfl (f_X5_slotOf_e l g (mx gC ad ga) (S4.1 38 12) ((S4.1 45) ((S4.1 38 13).toNatClampNeg)) S4 _ _ hc22) (Nat.le_of_ble_eq_true rfl) (Nat.le_of_ble_eq_true rfl) (Nat.le_of_ble_eq_true rfl) rfl dX5_move_162 ?_
          have b1 := gb_step (mo_use hc22 (f_X5_slotOf_m (S4.1 38 12) ((S4.1 45) ((S4.1 38 13).toNatClampNeg)) S4)) b1
          have b2 := gb_step2 (mo_use hc22 (f_X5_slotOf_m (S4.1 38 12) ((S4.1 45) ((S4.1 38 13).toNatClampNeg)) S4)) b2
          refine iv_aload_n (pc := 165) X dX5_move_165 rfl ?_
          refine gF_X5_153_38 (pc := 166) X dX5_move_166 (x := S20.1 38 14) rfl ?_
          refine iv_aload_n (pc := 169) X dX5_move_169 rfl ?_
          refine gF_X5_156_38 (pc := 170) X dX5_move_170 (x := S20.2.1 38 15) rfl ?_
          obtain ⟨⟨r24, S23⟩, hc25, hm⟩ := bd_some hm
          refine cV_X5_230_38 (pc := 173) X [.int r21, .int (S20.1 38 14), .long (S20.2.1 38 15)] [] 3 rfl (f_X5_settle_e l g (mx gC ad ga) fu r21 (S20.1 38 14) (S20.2.1 38 15) S20 _ _ hc25) (Nat.le_of_ble_eq_true rfl) (Nat.le_of_ble_eq_true rfl) (Nat.le_of_ble_eq_true rfl) rfl dX5_move_173 ?_
          have b1 := gb_step (mo_use hc25 (f_X5_settle_m fu r21 (S20.1 38 14) (S20.2.1 38 15) S20)) b1
          have b2 := gb_step2 (mo_use hc25 (f_X5_settle_m fu r21 (S20.1 38 14) (S20.2.1 38 15) S20)) b2
          refine iv_goto (pc := 176) X dX5_move_176 (tgt := 306) rfl ?_
          cases hm
          exact is_vretG (pc := 306) X dX5_move_306
        · rw [if_neg hb19] at hm
          by_cases hb26 : ((S4.1 43) ((S4.1 38 13).toNatClampNeg)) = (5 : Int32)
          · rw [if_pos hb26] at hm
            refine iv_tableIn X dX5_move_57 (off := 122) (tgt := 179) (by rw [hb26]; decide) (by rw [hb26]; decide) (by rw [hb26]; decide) (by decide) ?_
            refine iv_aload_n (pc := 179) X dX5_move_179 rfl ?_
            refine gF_X5_21_38 (pc := 180) X dX5_move_180 ?_
            refine gF_X5_160_64 (pc := 183) X dX5_move_183 ?_
            refine iv_aload_n (pc := 186) X dX5_move_186 rfl ?_
            refine iv_aload_n (pc := 187) X dX5_move_187 rfl ?_
            refine gF_X5_147_38 (pc := 188) X dX5_move_188 (x := S4.1 38 12) rfl ?_
            refine iv_iload_n (pc := 191) X dX5_move_191 rfl ?_
            obtain ⟨⟨r28, S27⟩, hc29, hm⟩ := bd_some hm
            refine cV_X5_84_38 (pc := 192) X [.int (S4.1 38 12), .int ((S.1 44) ((S.1 38 13).toNatClampNeg))] [.ref (mx gC ad ga 66)] 2 rfl (f_X5_slotOf_e l g (mx gC ad ga) (S4.1 38 12) ((S.1 44) ((S.1 38 13).toNatClampNeg)) S4 _ _ hc29) (Nat.le_of_ble_eq_true rfl) (Nat.le_of_ble_eq_true rfl) (Nat.le_of_ble_eq_true rfl) rfl dX5_move_192 ?_
            have b1 := gb_step (mo_use hc29 (f_X5_slotOf_m (S4.1 38 12) ((S.1 44) ((S.1 38 13).toNatClampNeg)) S4)) b1
            have b2 := gb_step2 (mo_use hc29 (f_X5_slotOf_m (S4.1 38 12) ((S.1 44) ((S.1 38 13).toNatClampNeg)) S4)) b2
            refine iv_iconst (pc := 195) X dX5_move_195 ic_1 ?_
            refine iv_iadd (pc := 196) X dX5_move_196 ?_
            obtain ⟨hg, hm⟩ := gd_some hm
            refine aL_66 (pc := 197) X dX5_move_197 hg (x := (S27.2.1 66) ((r28 + 1).toNatClampNeg)) rfl ?_
            refine iv_l2i (pc := 198) X dX5_move_198 rfl ?_
            refine iv_istore_n (pc := 199) X dX5_move_199 (by decide) (lv' := [(2, .int (((S27.2.1 66) ((r28 + 1).toNatClampNeg)).toInt32)), (1, .int ((S.1 44) ((S.1 38 13).toNatClampNeg))), (0, .ref (mx gC ad ga 38))]) rfl ?_
            refine iv_iload_n (pc := 200) X dX5_move_200 rfl ?_
            refine iv_if_eq (pc := 201) X dX5_move_201 (tgt := 306) rfl (fun hb30 => ?_) (fun hb30 => ?_)
            · rw [if_pos hb30] at hm
              cases hm
              exact is_vretG (pc := 306) X dX5_move_306
            · rw [if_neg hb30] at hm
              refine iv_aload_n (pc := 204) X dX5_move_204 rfl ?_
              refine iv_aload_n (pc := 205) X dX5_move_205 rfl ?_
              refine gF_X5_147_38 (pc := 206) X dX5_move_206 (x := S27.1 38 12) rfl ?_
              refine iv_aload_n (pc := 209) X dX5_move_209 rfl ?_
              refine gF_X5_150_38 (pc := 210) X dX5_move_210 (x := S27.1 38 13) rfl ?_
              refine iv_iload_n (pc := 213) X dX5_move_213 rfl ?_
              obtain ⟨⟨r32, S31⟩, hc33, hm⟩ := bd_some hm
              refine cV_X5_224_38 (pc := 214) X [.int (S27.1 38 12), .int (S27.1 38 13), .int (((S27.2.1 66) ((r28 + 1).toNatClampNeg)).toInt32)] [] 3 rfl (f_X5_handIn_e l g (mx gC ad ga) fu (S27.1 38 12) (S27.1 38 13) (((S27.2.1 66) ((r28 + 1).toNatClampNeg)).toInt32) S27 _ _ hc33) (Nat.le_of_ble_eq_true rfl) (Nat.le_of_ble_eq_true rfl) (Nat.le_of_ble_eq_true rfl) rfl dX5_move_214 ?_
              have b1 := gb_step (mo_use hc33 (f_X5_handIn_m fu (S27.1 38 12) (S27.1 38 13) (((S27.2.1 66) ((r28 + 1).toNatClampNeg)).toInt32) S27)) b1
              have b2 := gb_step2 (mo_use hc33 (f_X5_handIn_m fu (S27.1 38 12) (S27.1 38 13) (((S27.2.1 66) ((r28 + 1).toNatClampNeg)).toInt32) S27)) b2
              refine iv_goto (pc := 217) X dX5_move_217 (tgt := 306) rfl ?_
              cases hm
              exact is_vretG (pc := 306) X dX5_move_306
          · rw [if_neg hb26] at hm
            by_cases hb34 : ((S4.1 43) ((S4.1 38 13).toNatClampNeg)) = (6 : Int32)
            · rw [if_pos hb34] at hm
              refine iv_tableIn X dX5_move_57 (off := 163) (tgt := 220) (by rw [hb34]; decide) (by rw [hb34]; decide) (by rw [hb34]; decide) (by decide) ?_
              refine iv_aload_n (pc := 220) X dX5_move_220 rfl ?_
              refine iv_aload_n (pc := 221) X dX5_move_221 rfl ?_
              refine gF_X5_147_38 (pc := 222) X dX5_move_222 (x := S4.1 38 12) rfl ?_
              refine iv_aload_n (pc := 225) X dX5_move_225 rfl ?_
              refine gF_X5_150_38 (pc := 226) X dX5_move_226 (x := S4.1 38 13) rfl ?_
              refine iv_aload_n (pc := 229) X dX5_move_229 rfl ?_
              refine gF_X5_28_38 (pc := 230) X dX5_move_230 ?_
              refine gF_X5_239_67 (pc := 233) X dX5_move_233 ?_
              refine iv_aload_n (pc := 236) X dX5_move_236 rfl ?_
              refine gF_X5_147_38 (pc := 237) X dX5_move_237 (x := S4.1 38 12) rfl ?_
              obtain ⟨hg, hm⟩ := gd_some hm
              refine aL_71 (pc := 240) X dX5_move_240 hg (x := (S4.1 71) ((S4.1 38 12).toNatClampNeg)) rfl ?_
              obtain ⟨⟨r36, S35⟩, hc37, hm⟩ := bd_some hm
              refine cV_X5_224_38 (pc := 241) X [.int (S4.1 38 12), .int (S4.1 38 13), .int ((S4.1 71) ((S4.1 38 12).toNatClampNeg))] [] 3 rfl (f_X5_handIn_e l g (mx gC ad ga) fu (S4.1 38 12) (S4.1 38 13) ((S4.1 71) ((S4.1 38 12).toNatClampNeg)) S4 _ _ hc37) (Nat.le_of_ble_eq_true rfl) (Nat.le_of_ble_eq_true rfl) (Nat.le_of_ble_eq_true rfl) rfl dX5_move_241 ?_
              have b1 := gb_step (mo_use hc37 (f_X5_handIn_m fu (S4.1 38 12) (S4.1 38 13) ((S4.1 71) ((S4.1 38 12).toNatClampNeg)) S4)) b1
              have b2 := gb_step2 (mo_use hc37 (f_X5_handIn_m fu (S4.1 38 12) (S4.1 38 13) ((S4.1 71) ((S4.1 38 12).toNatClampNeg)) S4)) b2
              refine iv_goto (pc := 244) X dX5_move_244 (tgt := 306) rfl ?_
              cases hm
              exact is_vretG (pc := 306) X dX5_move_306
            · rw [if_neg hb34] at hm
              by_cases hb38 : ((S4.1 43) ((S4.1 38 13).toNatClampNeg)) = (7 : Int32)
              · rw [if_pos hb38] at hm
                refine iv_tableIn X dX5_move_57 (off := 190) (tgt := 247) (by rw [hb38]; decide) (by rw [hb38]; decide) (by rw [hb38]; decide) (by decide) ?_
                refine iv_aload_n (pc := 247) X dX5_move_247 rfl ?_
                refine iv_aload_n (pc := 248) X dX5_move_248 rfl ?_
                refine gF_X5_28_38 (pc := 249) X dX5_move_249 ?_
                refine gF_X5_242_67 (pc := 252) X dX5_move_252 ?_
                refine iv_aload_n (pc := 255) X dX5_move_255 rfl ?_
                refine gF_X5_147_38 (pc := 256) X dX5_move_256 (x := S4.1 38 12) rfl ?_
                obtain ⟨hg, hm⟩ := gd_some hm
                refine aL_69 (pc := 259) X dX5_move_259 hg (x := (S4.1 69) ((S4.1 38 12).toNatClampNeg)) rfl ?_
                refine iv_iload_n (pc := 260) X dX5_move_260 rfl ?_
                refine iv_aload_n (pc := 261) X dX5_move_261 rfl ?_
                refine gF_X5_153_38 (pc := 262) X dX5_move_262 (x := S4.1 38 14) rfl ?_
                refine iv_aload_n (pc := 265) X dX5_move_265 rfl ?_
                refine gF_X5_156_38 (pc := 266) X dX5_move_266 (x := S4.2.1 38 15) rfl ?_
                obtain ⟨⟨r40, S39⟩, hc41, hm⟩ := bd_some hm
                refine cV_X5_188_38 (pc := 269) X [.int ((S4.1 69) ((S4.1 38 12).toNatClampNeg)), .int ((S.1 44) ((S.1 38 13).toNatClampNeg)), .int (S4.1 38 14), .long (S4.2.1 38 15)] [] 4 rfl (f_X5_send_e l g (mx gC ad ga) ((S4.1 69) ((S4.1 38 12).toNatClampNeg)) ((S.1 44) ((S.1 38 13).toNatClampNeg)) (S4.1 38 14) (S4.2.1 38 15) S4 _ _ hc41) (Nat.le_of_ble_eq_true rfl) (Nat.le_of_ble_eq_true rfl) (Nat.le_of_ble_eq_true rfl) rfl dX5_move_269 ?_
                have b1 := gb_step (mo_use hc41 (f_X5_send_m ((S4.1 69) ((S4.1 38 12).toNatClampNeg)) ((S.1 44) ((S.1 38 13).toNatClampNeg)) (S4.1 38 14) (S4.2.1 38 15) S4)) b1
                have b2 := gb_step2 (mo_use hc41 (f_X5_send_m ((S4.1 69) ((S4.1 38 12).toNatClampNeg)) ((S.1 44) ((S.1 38 13).toNatClampNeg)) (S4.1 38 14) (S4.2.1 38 15) S4)) b2
                refine iv_goto (pc := 272) X dX5_move_272 (tgt := 306) rfl ?_
                cases hm
                exact is_vretG (pc := 306) X dX5_move_306
              · rw [if_neg hb38] at hm
                by_cases hb42 : ((S4.1 43) ((S4.1 38 13).toNatClampNeg)) = (8 : Int32)
                · rw [if_pos hb42] at hm
                  refine iv_tableIn X dX5_move_57 (off := 218) (tgt := 275) (by rw [hb42]; decide) (by rw [hb42]; decide) (by rw [hb42]; decide) (by decide) ?_
                  refine iv_aload_n (pc := 275) X dX5_move_275 rfl ?_
                  refine iv_aload_n (pc := 276) X dX5_move_276 rfl ?_
                  refine gF_X5_28_38 (pc := 277) X dX5_move_277 ?_
                  refine gF_X5_245_67 (pc := 280) X dX5_move_280 ?_
                  refine iv_aload_n (pc := 283) X dX5_move_283 rfl ?_
                  refine gF_X5_147_38 (pc := 284) X dX5_move_284 (x := S4.1 38 12) rfl ?_
                  obtain ⟨hg, hm⟩ := gd_some hm
                  refine aL_70 (pc := 287) X dX5_move_287 hg (x := (S4.1 70) ((S4.1 38 12).toNatClampNeg)) rfl ?_
                  refine iv_aload_n (pc := 288) X dX5_move_288 rfl ?_
                  refine gF_X5_153_38 (pc := 289) X dX5_move_289 (x := S4.1 38 14) rfl ?_
                  refine iv_aload_n (pc := 292) X dX5_move_292 rfl ?_
                  refine gF_X5_156_38 (pc := 293) X dX5_move_293 (x := S4.2.1 38 15) rfl ?_
                  obtain ⟨⟨r44, S43⟩, hc45, hm⟩ := bd_some hm
                  refine cV_X5_230_38 (pc := 296) X [.int ((S4.1 70) ((S4.1 38 12).toNatClampNeg)), .int (S4.1 38 14), .long (S4.2.1 38 15)] [] 3 rfl (f_X5_settle_e l g (mx gC ad ga) fu ((S4.1 70) ((S4.1 38 12).toNatClampNeg)) (S4.1 38 14) (S4.2.1 38 15) S4 _ _ hc45) (Nat.le_of_ble_eq_true rfl) (Nat.le_of_ble_eq_true rfl) (Nat.le_of_ble_eq_true rfl) rfl dX5_move_296 ?_
                  have b1 := gb_step (mo_use hc45 (f_X5_settle_m fu ((S4.1 70) ((S4.1 38 12).toNatClampNeg)) (S4.1 38 14) (S4.2.1 38 15) S4)) b1
                  have b2 := gb_step2 (mo_use hc45 (f_X5_settle_m fu ((S4.1 70) ((S4.1 38 12).toNatClampNeg)) (S4.1 38 14) (S4.2.1 38 15) S4)) b2
                  refine iv_goto (pc := 299) X dX5_move_299 (tgt := 306) rfl ?_
                  cases hm
                  exact is_vretG (pc := 306) X dX5_move_306
                · rw [if_neg hb42] at hm
                  have k0 := sw_ne hb7 (n := 1) (by decide)
                  have k1 := sw_ne hb11 (n := 2) (by decide)
                  have k2 := sw_ne hb15 (n := 3) (by decide)
                  have k3 := sw_ne hb19 (n := 4) (by decide)
                  have k4 := sw_ne hb26 (n := 5) (by decide)
                  have k5 := sw_ne hb34 (n := 6) (by decide)
                  have k6 := sw_ne hb38 (n := 7) (by decide)
                  have k7 := sw_ne hb42 (n := 8) (by decide)
                  refine iv_tableOut X dX5_move_57 (tgt := 302) (by omega) (by decide) ?_
                  refine iv_aload_n (pc := 302) X dX5_move_302 rfl ?_
                  obtain ⟨⟨r47, S46⟩, hc48, hm⟩ := bd_some hm
                  refine cV_X5_248_38 (pc := 303) X [] [] 0 rfl (f_X5_leaveFunction_e l g (mx gC ad ga)  S4 _ _ hc48) (Nat.le_of_ble_eq_true rfl) (Nat.le_of_ble_eq_true rfl) (Nat.le_of_ble_eq_true rfl) rfl dX5_move_303 ?_
                  have b1 := gb_step (mo_use hc48 (f_X5_leaveFunction_m  S4)) b1
                  have b2 := gb_step2 (mo_use hc48 (f_X5_leaveFunction_m  S4)) b2
                  cases hm
                  exact is_vretG (pc := 306) X dX5_move_306
def f_X5_flow_L2 (fu : Nat) : Nat → Int32 → im_S → Option (Unit × im_S)
  | 0, _, _ => none
  | nf + 1, z1, S => if (16777216 : Int32) ≤ z1 then (some ((), S)) else (if (S.1 38 11 : Int32) ≠ 0 then (if (S.1 38 11 : Int32) = 0 then (gd (in_b (S.1 38 10) (S.2.2 73)) (gd (in_b (S.1 38 10) (S.2.2 74)) ((f_X0_release (S.1 38 10) (uI S 38 10 ((S.1 74) ((S.1 38 10).toNatClampNeg)))).bind (fun qS4 => gd (nz_I 512) (gd (nz_I 512) ((f_X5_visit fu (((S.1 73) ((S.1 38 10).toNatClampNeg)) / 512) (((S.1 73) ((S.1 38 10).toNatClampNeg)) - ((S.1 73) ((S.1 38 10).toNatClampNeg)) / 512 * 512) qS4.2).bind (fun qS7 => f_X5_flow_L2 fu nf (z1 + 1) qS7.2))))))) else ((f_X5_move fu S).bind (fun qS10 => f_X5_flow_L2 fu nf (z1 + 1) qS10.2))) else (if (S.1 38 10 : Int32) = 0 then (some ((), S)) else (if (S.1 38 11 : Int32) = 0 then (gd (in_b (S.1 38 10) (S.2.2 73)) (gd (in_b (S.1 38 10) (S.2.2 74)) ((f_X0_release (S.1 38 10) (uI S 38 10 ((S.1 74) ((S.1 38 10).toNatClampNeg)))).bind (fun qS15 => gd (nz_I 512) (gd (nz_I 512) ((f_X5_visit fu (((S.1 73) ((S.1 38 10).toNatClampNeg)) / 512) (((S.1 73) ((S.1 38 10).toNatClampNeg)) - ((S.1 73) ((S.1 38 10).toNatClampNeg)) / 512 * 512) qS15.2).bind (fun qS18 => f_X5_flow_L2 fu nf (z1 + 1) qS18.2))))))) else ((f_X5_move fu S).bind (fun qS21 => f_X5_flow_L2 fu nf (z1 + 1) qS21.2)))))
theorem f_X5_flow_L2_m (fu : Nat) : ∀ (nf : Nat) (z1 : Int32) (S : im_S), Mo (f_X5_flow_L2 fu nf z1 S) S := by
  intro nf
  induction nf with
  | zero => intro z1 S; exact Mo_none _
  | succ nf ih =>
    intro z1 S
    unfold f_X5_flow_L2
    repeat' first | with_reducible exact Mo_none _ | with_reducible refine Mo_gd ?_ | with_reducible refine Mo_ite ?_ ?_ | with_reducible refine Mo_bind ?_ (fun q => ?_) | with_reducible refine Mo_some ?_ | with_reducible refine Mo_of (ih _ _) ?_ | with_reducible refine Mo_of (f_gr65_m _ _) ?_ | with_reducible refine Mo_of (f_gr66_m _ _) ?_ | with_reducible refine Mo_of (f_gr68_m _ _) ?_ | with_reducible refine Mo_of (f_gr69_m _ _) ?_ | with_reducible refine Mo_of (f_gr70_m _ _) ?_ | with_reducible refine Mo_of (f_gr71_m _ _) ?_ | with_reducible refine Mo_of (f_gr73_m _ _) ?_ | with_reducible refine Mo_of (f_gr74_m _ _) ?_ | with_reducible refine Mo_of (f_X0_clear_m _) ?_ | with_reducible refine Mo_of (f_X0_release_m _ _) ?_ | with_reducible refine Mo_of (f_X2_clear_m _) ?_ | with_reducible refine Mo_of (f_X2_outward_L5_m _ _ _ _ _ _ _) ?_ | with_reducible refine Mo_of (f_X2_outward_m _ _ _ _) ?_ | with_reducible refine Mo_of (f_X3_takesNumbers_L12_m _ _ _ _ _ _) ?_ | with_reducible refine Mo_of (f_X3_takesNumbers_m _ _ _) ?_ | with_reducible refine Mo_of (f_X5_condition_m _) ?_ | with_reducible refine Mo_of (f_X5_slotOf_m _ _ _) ?_ | with_reducible refine Mo_of (f_X5_makeReady_m _ _ _) ?_ | with_reducible refine Mo_of (f_X5_send_m _ _ _ _ _) ?_ | with_reducible refine Mo_of (f_X5_leaveFunction_m _) ?_ | with_reducible refine Mo_of (f_X5_turn_m _ _ _) ?_ | with_reducible refine Mo_of (f_X5_leastError_m _ _ _) ?_ | with_reducible refine Mo_of (f_X5_calculate_m _ _ _ _) ?_ | with_reducible refine Mo_of (f_X8_clear_m _) ?_ | with_reducible refine Mo_of (f_X8_put_m _ _ _ _) ?_ | with_reducible refine Mo_of (f_X8_tableOf_m _ _ _) ?_ | with_reducible refine Mo_of (f_X8_firstCell_m _ _) ?_ | with_reducible refine Mo_of (f_X8_cellsIn_m _ _) ?_ | with_reducible refine Mo_of (f_J9_floorMod_f86c9_m _ _ _) ?_ | with_reducible refine Mo_of (f_J7_rangeCheck_23922_m _ _ _ _) ?_ | with_reducible refine Mo_of (f_J7_fill_bad5a_L10_m _ _ _ _ _ _ _) ?_ | with_reducible refine Mo_of (f_J7_fill_bad5a_m _ _ _ _ _) ?_ | with_reducible refine Mo_of (f_J7_fill_eb02e_L10_m _ _ _ _ _ _ _) ?_ | with_reducible refine Mo_of (f_J7_fill_eb02e_m _ _ _ _ _) ?_ | with_reducible refine Mo_of (f_X5_settle_L15_m _ _ _ _ _ _ _ _) ?_ | with_reducible refine Mo_of (f_X5_settle_m _ _ _ _ _) ?_ | with_reducible refine Mo_of (f_X5_handIn_m _ _ _ _ _) ?_ | with_reducible refine Mo_of (f_X5_cellAt_m _ _ _) ?_ | with_reducible refine Mo_of (f_X5_operate_m _ _ _) ?_ | with_reducible refine Mo_of (f_X5_pickCell_m _ _ _) ?_ | with_reducible refine Mo_of (f_X0_add_m _ _ _) ?_ | with_reducible refine Mo_of (f_X2_add_m _ _ _ _) ?_ | with_reducible refine Mo_of (f_X8_take_m _ _ _) ?_ | with_reducible refine Mo_of (f_X5_openFrame_m _ _ _ _ _) ?_ | with_reducible refine Mo_of (f_X5_enter_L16_m _ _ _ _ _ _ _) ?_ | with_reducible refine Mo_of (f_X5_enter_m _ _ _ _) ?_ | with_reducible refine Mo_of (f_X5_await_m _ _ _ _) ?_ | with_reducible refine Mo_of (f_X5_lookUp_m _ _ _ _) ?_ | with_reducible refine Mo_of (f_X5_beginLoop_L52_m _ _ _ _ _ _ _ _ _) ?_ | with_reducible refine Mo_of (f_X5_beginLoop_m _ _ _ _) ?_ | with_reducible refine Mo_of (f_X5_visit_m _ _ _ _) ?_ | with_reducible refine Mo_of (f_X5_meet_m _ _) ?_ | with_reducible refine Mo_of (f_X5_move_m _ _) ?_ | rfl
set_option maxHeartbeats 4000000 in
set_option maxRecDepth 100000 in
theorem f_X5_flow_L2_w {fu : Nat} (l : Launch) (g : im_G) (ad : Nat → Nat) {p : Program} {e : Env} {s : State} {m : MethodId} {below : List Frame} {meth : Method} {c : Code} {args : Array Value} {mc ms : Nat} (X : im_X p l s m args meth c g cX5_flow 4 RX5 none) : ∀ (nf : Nat) (z1 : Int32) (S : im_S) (r : Unit) (S' : im_S), f_X5_flow_L2 fu nf z1 S = some (r, S') → ∀ (ga : Nat → Nat) (bc bs : Nat), (gP S' - gP S) / 64 + 0 ≤ bc → 2 * gP S' + 0 ≤ 2 * gP S + bs → im_V p l e (im_R 6 mc ms) s m args below meth c g 4 (im_ZG gA below g ad args s mc ms none S') (mx gA ad ga) im_N (im_cn g (mx gA ad ga) S) bc bs 2 [(0, .ref (mx gA ad ga 38)), (1, .int z1)] [] := by
  intro nf
  induction nf with
  | zero =>
    intro z1 S r S' hm
    cases hm
  | succ nf ih =>
    intro z1 S r S' hm ga bc bs b1 b2
    unfold f_X5_flow_L2 at hm
    refine iv_iload_n (pc := 2) X dX5_flow_2 rfl ?_
    refine iv_ldc (pc := 3) X wk_X5_163 dX5_flow_3 ?_
    refine iv_icmp_ge (pc := 5) X dX5_flow_5 (tgt := 92) rfl (fun hb1 => ?_) (fun hb1 => ?_)
    · rw [if_pos hb1] at hm
      cases hm
      exact is_vretG (pc := 92) X dX5_flow_92
    · rw [if_neg hb1] at hm
      refine iv_aload_n (pc := 8) X dX5_flow_8 rfl ?_
      refine gF_X5_60_38 (pc := 9) X dX5_flow_9 (x := S.1 38 11) rfl ?_
      refine iv_if_ne (pc := 12) X dX5_flow_12 (tgt := 22) rfl (fun hb2 => ?_) (fun hb2 => ?_)
      · rw [if_pos hb2] at hm
        refine iv_aload_n (pc := 22) X dX5_flow_22 rfl ?_
        refine gF_X5_60_38 (pc := 23) X dX5_flow_23 (x := S.1 38 11) rfl ?_
        refine iv_if_eq (pc := 26) X dX5_flow_26 (tgt := 36) rfl (fun hb3 => ?_) (fun hb3 => ?_)
        · rw [if_pos hb3] at hm
          refine iv_aload_n (pc := 36) X dX5_flow_36 rfl ?_
          refine gF_X5_57_38 (pc := 37) X dX5_flow_37 (x := S.1 38 10) rfl ?_
          refine iv_istore_n (pc := 40) X dX5_flow_40 (by decide) (lv' := [(2, .int (S.1 38 10)), (0, .ref (mx gA ad ga 38)), (1, .int z1)]) rfl ?_
          refine iv_aload_n (pc := 41) X dX5_flow_41 rfl ?_
          refine gF_X5_35_38 (pc := 42) X dX5_flow_42 ?_
          refine gF_X5_170_72 (pc := 45) X dX5_flow_45 ?_
          refine iv_iload_n (pc := 48) X dX5_flow_48 rfl ?_
          obtain ⟨hg, hm⟩ := gd_some hm
          refine aL_73 (pc := 49) X dX5_flow_49 hg (x := (S.1 73) ((S.1 38 10).toNatClampNeg)) rfl ?_
          refine iv_istore_n (pc := 50) X dX5_flow_50 (by decide) (lv' := [(3, .int ((S.1 73) ((S.1 38 10).toNatClampNeg))), (2, .int (S.1 38 10)), (0, .ref (mx gA ad ga 38)), (1, .int z1)]) rfl ?_
          refine iv_aload_n (pc := 51) X dX5_flow_51 rfl ?_
          refine iv_aload_n (pc := 52) X dX5_flow_52 rfl ?_
          refine gF_X5_35_38 (pc := 53) X dX5_flow_53 ?_
          refine gF_X5_164_72 (pc := 56) X dX5_flow_56 ?_
          refine iv_iload_n (pc := 59) X dX5_flow_59 rfl ?_
          obtain ⟨hg, hm⟩ := gd_some hm
          refine aL_74 (pc := 60) X dX5_flow_60 hg (x := (S.1 74) ((S.1 38 10).toNatClampNeg)) rfl ?_
          refine pF_X5_57_38 (pc := 61) X dX5_flow_61 ?_
          refine iv_aload_n (pc := 64) X dX5_flow_64 rfl ?_
          refine gF_X5_35_38 (pc := 65) X dX5_flow_65 ?_
          refine iv_iload_n (pc := 68) X dX5_flow_68 rfl ?_
          obtain ⟨⟨r5, S4⟩, hc6, hm⟩ := bd_some hm
          refine cV_X5_173_72 (pc := 69) X [.int (S.1 38 10)] [] 1 rfl (f_X0_release_e l g (mx gA ad ga) (S.1 38 10) (uI S 38 10 ((S.1 74) ((S.1 38 10).toNatClampNeg))) _ _ hc6) (Nat.le_of_ble_eq_true rfl) (Nat.le_of_ble_eq_true rfl) (Nat.le_of_ble_eq_true rfl) rfl dX5_flow_69 ?_
          have b1 := gb_step (mo_use hc6 (f_X0_release_m (S.1 38 10) (uI S 38 10 ((S.1 74) ((S.1 38 10).toNatClampNeg))))) b1
          have b2 := gb_step2 (mo_use hc6 (f_X0_release_m (S.1 38 10) (uI S 38 10 ((S.1 74) ((S.1 38 10).toNatClampNeg))))) b2
          refine iv_aload_n (pc := 72) X dX5_flow_72 rfl ?_
          refine iv_iload_n (pc := 73) X dX5_flow_73 rfl ?_
          refine iv_sipush (pc := 74) X dX5_flow_74 sc_512 ?_
          obtain ⟨hg, hm⟩ := gd_some hm
          refine iv_idiv (pc := 77) X dX5_flow_77 (of_decide_eq_true hg) ?_
          refine iv_iload_n (pc := 78) X dX5_flow_78 rfl ?_
          refine iv_sipush (pc := 79) X dX5_flow_79 sc_512 ?_
          obtain ⟨hg, hm⟩ := gd_some hm
          refine iv_irem (pc := 82) X dX5_flow_82 (of_decide_eq_true hg) ?_
          obtain ⟨⟨r8, S7⟩, hc9, hm⟩ := bd_some hm
          have m2 := mo_use (S := S7) hm (by repeat' first | with_reducible exact Mo_none _ | with_reducible refine Mo_gd ?_ | with_reducible refine Mo_ite ?_ ?_ | with_reducible refine Mo_bind ?_ (fun q => ?_) | with_reducible refine Mo_some ?_ | with_reducible refine Mo_of (f_gr65_m _ _) ?_ | with_reducible refine Mo_of (f_gr66_m _ _) ?_ | with_reducible refine Mo_of (f_gr68_m _ _) ?_ | with_reducible refine Mo_of (f_gr69_m _ _) ?_ | with_reducible refine Mo_of (f_gr70_m _ _) ?_ | with_reducible refine Mo_of (f_gr71_m _ _) ?_ | with_reducible refine Mo_of (f_gr73_m _ _) ?_ | with_reducible refine Mo_of (f_gr74_m _ _) ?_ | with_reducible refine Mo_of (f_X0_clear_m _) ?_ | with_reducible refine Mo_of (f_X0_release_m _ _) ?_ | with_reducible refine Mo_of (f_X2_clear_m _) ?_ | with_reducible refine Mo_of (f_X2_outward_L5_m _ _ _ _ _ _ _) ?_ | with_reducible refine Mo_of (f_X2_outward_m _ _ _ _) ?_ | with_reducible refine Mo_of (f_X3_takesNumbers_L12_m _ _ _ _ _ _) ?_ | with_reducible refine Mo_of (f_X3_takesNumbers_m _ _ _) ?_ | with_reducible refine Mo_of (f_X5_condition_m _) ?_ | with_reducible refine Mo_of (f_X5_slotOf_m _ _ _) ?_ | with_reducible refine Mo_of (f_X5_makeReady_m _ _ _) ?_ | with_reducible refine Mo_of (f_X5_send_m _ _ _ _ _) ?_ | with_reducible refine Mo_of (f_X5_leaveFunction_m _) ?_ | with_reducible refine Mo_of (f_X5_turn_m _ _ _) ?_ | with_reducible refine Mo_of (f_X5_leastError_m _ _ _) ?_ | with_reducible refine Mo_of (f_X5_calculate_m _ _ _ _) ?_ | with_reducible refine Mo_of (f_X8_clear_m _) ?_ | with_reducible refine Mo_of (f_X8_put_m _ _ _ _) ?_ | with_reducible refine Mo_of (f_X8_tableOf_m _ _ _) ?_ | with_reducible refine Mo_of (f_X8_firstCell_m _ _) ?_ | with_reducible refine Mo_of (f_X8_cellsIn_m _ _) ?_ | with_reducible refine Mo_of (f_J9_floorMod_f86c9_m _ _ _) ?_ | with_reducible refine Mo_of (f_J7_rangeCheck_23922_m _ _ _ _) ?_ | with_reducible refine Mo_of (f_J7_fill_bad5a_L10_m _ _ _ _ _ _ _) ?_ | with_reducible refine Mo_of (f_J7_fill_bad5a_m _ _ _ _ _) ?_ | with_reducible refine Mo_of (f_J7_fill_eb02e_L10_m _ _ _ _ _ _ _) ?_ | with_reducible refine Mo_of (f_J7_fill_eb02e_m _ _ _ _ _) ?_ | with_reducible refine Mo_of (f_X5_settle_L15_m _ _ _ _ _ _ _ _) ?_ | with_reducible refine Mo_of (f_X5_settle_m _ _ _ _ _) ?_ | with_reducible refine Mo_of (f_X5_handIn_m _ _ _ _ _) ?_ | with_reducible refine Mo_of (f_X5_cellAt_m _ _ _) ?_ | with_reducible refine Mo_of (f_X5_operate_m _ _ _) ?_ | with_reducible refine Mo_of (f_X5_pickCell_m _ _ _) ?_ | with_reducible refine Mo_of (f_X0_add_m _ _ _) ?_ | with_reducible refine Mo_of (f_X2_add_m _ _ _ _) ?_ | with_reducible refine Mo_of (f_X8_take_m _ _ _) ?_ | with_reducible refine Mo_of (f_X5_openFrame_m _ _ _ _ _) ?_ | with_reducible refine Mo_of (f_X5_enter_L16_m _ _ _ _ _ _ _) ?_ | with_reducible refine Mo_of (f_X5_enter_m _ _ _ _) ?_ | with_reducible refine Mo_of (f_X5_await_m _ _ _ _) ?_ | with_reducible refine Mo_of (f_X5_lookUp_m _ _ _ _) ?_ | with_reducible refine Mo_of (f_X5_beginLoop_L52_m _ _ _ _ _ _ _ _ _) ?_ | with_reducible refine Mo_of (f_X5_beginLoop_m _ _ _ _) ?_ | with_reducible refine Mo_of (f_X5_visit_m _ _ _ _) ?_ | with_reducible refine Mo_of (f_X5_meet_m _ _) ?_ | with_reducible refine Mo_of (f_X5_move_m _ _) ?_ | with_reducible refine Mo_of (f_X5_flow_L2_m _ _ _ _) ?_ | rfl)
          refine cG_X5_176_38_gA (pc := 83) X [.int (((S.1 73) ((S.1 38 10).toNatClampNeg)) / 512), .int (((S.1 73) ((S.1 38 10).toNatClampNeg)) - ((S.1 73) ((S.1 38 10).toNatClampNeg)) / 512 * 512)] [] 2 rfl (f_X5_visit_e l g (mx gA ad ga) fu (((S.1 73) ((S.1 38 10).toNatClampNeg)) / 512) (((S.1 73) ((S.1 38 10).toNatClampNeg)) - ((S.1 73) ((S.1 38 10).toNatClampNeg)) / 512 * 512) S4 _ _ hc9) (Nat.le_of_ble_eq_true rfl) (Nat.le_of_ble_eq_true rfl) (Nat.le_of_ble_eq_true rfl) rfl dX5_flow_83 (mo_use hc9 (f_X5_visit_m fu (((S.1 73) ((S.1 38 10).toNatClampNeg)) / 512) (((S.1 73) ((S.1 38 10).toNatClampNeg)) - ((S.1 73) ((S.1 38 10).toNatClampNeg)) / 512 * 512) S4)) m2 b1 b2 (fun ga bc bs b1 b2 => ?_)
          refine iv_iinc (pc := 86) X dX5_flow_86 rfl (by decide) (v := z1 + 1) rfl (lv' := [(1, .int (z1 + 1)), (3, .int ((S.1 73) ((S.1 38 10).toNatClampNeg))), (2, .int (S.1 38 10)), (0, .ref (mx gA ad ga 38))]) rfl ?_
          refine iv_goto (pc := 89) X dX5_flow_89 (tgt := 2) rfl ?_
          refine iv_sub [3, 0] (lv2 := [(0, .ref (mx gA ad ga 38)), (1, .int (z1 + 1))]) rfl ?_
          exact ih (z1 + 1) S7 _ _ hm ga bc bs b1 b2
        · rw [if_neg hb3] at hm
          refine iv_aload_n (pc := 29) X dX5_flow_29 rfl ?_
          obtain ⟨⟨r11, S10⟩, hc12, hm⟩ := bd_some hm
          have m2 := mo_use (S := S10) hm (by repeat' first | with_reducible exact Mo_none _ | with_reducible refine Mo_gd ?_ | with_reducible refine Mo_ite ?_ ?_ | with_reducible refine Mo_bind ?_ (fun q => ?_) | with_reducible refine Mo_some ?_ | with_reducible refine Mo_of (f_gr65_m _ _) ?_ | with_reducible refine Mo_of (f_gr66_m _ _) ?_ | with_reducible refine Mo_of (f_gr68_m _ _) ?_ | with_reducible refine Mo_of (f_gr69_m _ _) ?_ | with_reducible refine Mo_of (f_gr70_m _ _) ?_ | with_reducible refine Mo_of (f_gr71_m _ _) ?_ | with_reducible refine Mo_of (f_gr73_m _ _) ?_ | with_reducible refine Mo_of (f_gr74_m _ _) ?_ | with_reducible refine Mo_of (f_X0_clear_m _) ?_ | with_reducible refine Mo_of (f_X0_release_m _ _) ?_ | with_reducible refine Mo_of (f_X2_clear_m _) ?_ | with_reducible refine Mo_of (f_X2_outward_L5_m _ _ _ _ _ _ _) ?_ | with_reducible refine Mo_of (f_X2_outward_m _ _ _ _) ?_ | with_reducible refine Mo_of (f_X3_takesNumbers_L12_m _ _ _ _ _ _) ?_ | with_reducible refine Mo_of (f_X3_takesNumbers_m _ _ _) ?_ | with_reducible refine Mo_of (f_X5_condition_m _) ?_ | with_reducible refine Mo_of (f_X5_slotOf_m _ _ _) ?_ | with_reducible refine Mo_of (f_X5_makeReady_m _ _ _) ?_ | with_reducible refine Mo_of (f_X5_send_m _ _ _ _ _) ?_ | with_reducible refine Mo_of (f_X5_leaveFunction_m _) ?_ | with_reducible refine Mo_of (f_X5_turn_m _ _ _) ?_ | with_reducible refine Mo_of (f_X5_leastError_m _ _ _) ?_ | with_reducible refine Mo_of (f_X5_calculate_m _ _ _ _) ?_ | with_reducible refine Mo_of (f_X8_clear_m _) ?_ | with_reducible refine Mo_of (f_X8_put_m _ _ _ _) ?_ | with_reducible refine Mo_of (f_X8_tableOf_m _ _ _) ?_ | with_reducible refine Mo_of (f_X8_firstCell_m _ _) ?_ | with_reducible refine Mo_of (f_X8_cellsIn_m _ _) ?_ | with_reducible refine Mo_of (f_J9_floorMod_f86c9_m _ _ _) ?_ | with_reducible refine Mo_of (f_J7_rangeCheck_23922_m _ _ _ _) ?_ | with_reducible refine Mo_of (f_J7_fill_bad5a_L10_m _ _ _ _ _ _ _) ?_ | with_reducible refine Mo_of (f_J7_fill_bad5a_m _ _ _ _ _) ?_ | with_reducible refine Mo_of (f_J7_fill_eb02e_L10_m _ _ _ _ _ _ _) ?_ | with_reducible refine Mo_of (f_J7_fill_eb02e_m _ _ _ _ _) ?_ | with_reducible refine Mo_of (f_X5_settle_L15_m _ _ _ _ _ _ _ _) ?_ | with_reducible refine Mo_of (f_X5_settle_m _ _ _ _ _) ?_ | with_reducible refine Mo_of (f_X5_handIn_m _ _ _ _ _) ?_ | with_reducible refine Mo_of (f_X5_cellAt_m _ _ _) ?_ | with_reducible refine Mo_of (f_X5_operate_m _ _ _) ?_ | with_reducible refine Mo_of (f_X5_pickCell_m _ _ _) ?_ | with_reducible refine Mo_of (f_X0_add_m _ _ _) ?_ | with_reducible refine Mo_of (f_X2_add_m _ _ _ _) ?_ | with_reducible refine Mo_of (f_X8_take_m _ _ _) ?_ | with_reducible refine Mo_of (f_X5_openFrame_m _ _ _ _ _) ?_ | with_reducible refine Mo_of (f_X5_enter_L16_m _ _ _ _ _ _ _) ?_ | with_reducible refine Mo_of (f_X5_enter_m _ _ _ _) ?_ | with_reducible refine Mo_of (f_X5_await_m _ _ _ _) ?_ | with_reducible refine Mo_of (f_X5_lookUp_m _ _ _ _) ?_ | with_reducible refine Mo_of (f_X5_beginLoop_L52_m _ _ _ _ _ _ _ _ _) ?_ | with_reducible refine Mo_of (f_X5_beginLoop_m _ _ _ _) ?_ | with_reducible refine Mo_of (f_X5_visit_m _ _ _ _) ?_ | with_reducible refine Mo_of (f_X5_meet_m _ _) ?_ | with_reducible refine Mo_of (f_X5_move_m _ _) ?_ | with_reducible refine Mo_of (f_X5_flow_L2_m _ _ _ _) ?_ | rfl)
          refine cG_X5_167_38_gA (pc := 30) X [] [] 0 rfl (f_X5_move_e l g (mx gA ad ga) fu  S _ _ hc12) (Nat.le_of_ble_eq_true rfl) (Nat.le_of_ble_eq_true rfl) (Nat.le_of_ble_eq_true rfl) rfl dX5_flow_30 (mo_use hc12 (f_X5_move_m fu  S)) m2 b1 b2 (fun ga bc bs b1 b2 => ?_)
          refine iv_goto (pc := 33) X dX5_flow_33 (tgt := 86) rfl ?_
          refine iv_iinc (pc := 86) X dX5_flow_86 rfl (by decide) (v := z1 + 1) rfl (lv' := [(1, .int (z1 + 1)), (0, .ref (mx gA ad ga 38))]) rfl ?_
          refine iv_goto (pc := 89) X dX5_flow_89 (tgt := 2) rfl ?_
          refine iv_sub [1, 0] (lv2 := [(0, .ref (mx gA ad ga 38)), (1, .int (z1 + 1))]) rfl ?_
          exact ih (z1 + 1) S10 _ _ hm ga bc bs b1 b2
      · rw [if_neg hb2] at hm
        refine iv_aload_n (pc := 15) X dX5_flow_15 rfl ?_
        refine gF_X5_57_38 (pc := 16) X dX5_flow_16 (x := S.1 38 10) rfl ?_
        refine iv_if_eq (pc := 19) X dX5_flow_19 (tgt := 92) rfl (fun hb13 => ?_) (fun hb13 => ?_)
        · rw [if_pos hb13] at hm
          cases hm
          exact is_vretG (pc := 92) X dX5_flow_92
        · rw [if_neg hb13] at hm
          refine iv_aload_n (pc := 22) X dX5_flow_22 rfl ?_
          refine gF_X5_60_38 (pc := 23) X dX5_flow_23 (x := S.1 38 11) rfl ?_
          refine iv_if_eq (pc := 26) X dX5_flow_26 (tgt := 36) rfl (fun hb14 => ?_) (fun hb14 => ?_)
          · rw [if_pos hb14] at hm
            refine iv_aload_n (pc := 36) X dX5_flow_36 rfl ?_
            refine gF_X5_57_38 (pc := 37) X dX5_flow_37 (x := S.1 38 10) rfl ?_
            refine iv_istore_n (pc := 40) X dX5_flow_40 (by decide) (lv' := [(2, .int (S.1 38 10)), (0, .ref (mx gA ad ga 38)), (1, .int z1)]) rfl ?_
            refine iv_aload_n (pc := 41) X dX5_flow_41 rfl ?_
            refine gF_X5_35_38 (pc := 42) X dX5_flow_42 ?_
            refine gF_X5_170_72 (pc := 45) X dX5_flow_45 ?_
            refine iv_iload_n (pc := 48) X dX5_flow_48 rfl ?_
            obtain ⟨hg, hm⟩ := gd_some hm
            refine aL_73 (pc := 49) X dX5_flow_49 hg (x := (S.1 73) ((S.1 38 10).toNatClampNeg)) rfl ?_
            refine iv_istore_n (pc := 50) X dX5_flow_50 (by decide) (lv' := [(3, .int ((S.1 73) ((S.1 38 10).toNatClampNeg))), (2, .int (S.1 38 10)), (0, .ref (mx gA ad ga 38)), (1, .int z1)]) rfl ?_
            refine iv_aload_n (pc := 51) X dX5_flow_51 rfl ?_
            refine iv_aload_n (pc := 52) X dX5_flow_52 rfl ?_
            refine gF_X5_35_38 (pc := 53) X dX5_flow_53 ?_
            refine gF_X5_164_72 (pc := 56) X dX5_flow_56 ?_
            refine iv_iload_n (pc := 59) X dX5_flow_59 rfl ?_
            obtain ⟨hg, hm⟩ := gd_some hm
            refine aL_74 (pc := 60) X dX5_flow_60 hg (x := (S.1 74) ((S.1 38 10).toNatClampNeg)) rfl ?_
            refine pF_X5_57_38 (pc := 61) X dX5_flow_61 ?_
            refine iv_aload_n (pc := 64) X dX5_flow_64 rfl ?_
            refine gF_X5_35_38 (pc := 65) X dX5_flow_65 ?_
            refine iv_iload_n (pc := 68) X dX5_flow_68 rfl ?_
            obtain ⟨⟨r16, S15⟩, hc17, hm⟩ := bd_some hm
            refine cV_X5_173_72 (pc := 69) X [.int (S.1 38 10)] [] 1 rfl (f_X0_release_e l g (mx gA ad ga) (S.1 38 10) (uI S 38 10 ((S.1 74) ((S.1 38 10).toNatClampNeg))) _ _ hc17) (Nat.le_of_ble_eq_true rfl) (Nat.le_of_ble_eq_true rfl) (Nat.le_of_ble_eq_true rfl) rfl dX5_flow_69 ?_
            have b1 := gb_step (mo_use hc17 (f_X0_release_m (S.1 38 10) (uI S 38 10 ((S.1 74) ((S.1 38 10).toNatClampNeg))))) b1
            have b2 := gb_step2 (mo_use hc17 (f_X0_release_m (S.1 38 10) (uI S 38 10 ((S.1 74) ((S.1 38 10).toNatClampNeg))))) b2
            refine iv_aload_n (pc := 72) X dX5_flow_72 rfl ?_
            refine iv_iload_n (pc := 73) X dX5_flow_73 rfl ?_
            refine iv_sipush (pc := 74) X dX5_flow_74 sc_512 ?_
            obtain ⟨hg, hm⟩ := gd_some hm
            refine iv_idiv (pc := 77) X dX5_flow_77 (of_decide_eq_true hg) ?_
            refine iv_iload_n (pc := 78) X dX5_flow_78 rfl ?_
            refine iv_sipush (pc := 79) X dX5_flow_79 sc_512 ?_
            obtain ⟨hg, hm⟩ := gd_some hm
            refine iv_irem (pc := 82) X dX5_flow_82 (of_decide_eq_true hg) ?_
            obtain ⟨⟨r19, S18⟩, hc20, hm⟩ := bd_some hm
            have m2 := mo_use (S := S18) hm (by repeat' first | with_reducible exact Mo_none _ | with_reducible refine Mo_gd ?_ | with_reducible refine Mo_ite ?_ ?_ | with_reducible refine Mo_bind ?_ (fun q => ?_) | with_reducible refine Mo_some ?_ | with_reducible refine Mo_of (f_gr65_m _ _) ?_ | with_reducible refine Mo_of (f_gr66_m _ _) ?_ | with_reducible refine Mo_of (f_gr68_m _ _) ?_ | with_reducible refine Mo_of (f_gr69_m _ _) ?_ | with_reducible refine Mo_of (f_gr70_m _ _) ?_ | with_reducible refine Mo_of (f_gr71_m _ _) ?_ | with_reducible refine Mo_of (f_gr73_m _ _) ?_ | with_reducible refine Mo_of (f_gr74_m _ _) ?_ | with_reducible refine Mo_of (f_X0_clear_m _) ?_ | with_reducible refine Mo_of (f_X0_release_m _ _) ?_ | with_reducible refine Mo_of (f_X2_clear_m _) ?_ | with_reducible refine Mo_of (f_X2_outward_L5_m _ _ _ _ _ _ _) ?_ | with_reducible refine Mo_of (f_X2_outward_m _ _ _ _) ?_ | with_reducible refine Mo_of (f_X3_takesNumbers_L12_m _ _ _ _ _ _) ?_ | with_reducible refine Mo_of (f_X3_takesNumbers_m _ _ _) ?_ | with_reducible refine Mo_of (f_X5_condition_m _) ?_ | with_reducible refine Mo_of (f_X5_slotOf_m _ _ _) ?_ | with_reducible refine Mo_of (f_X5_makeReady_m _ _ _) ?_ | with_reducible refine Mo_of (f_X5_send_m _ _ _ _ _) ?_ | with_reducible refine Mo_of (f_X5_leaveFunction_m _) ?_ | with_reducible refine Mo_of (f_X5_turn_m _ _ _) ?_ | with_reducible refine Mo_of (f_X5_leastError_m _ _ _) ?_ | with_reducible refine Mo_of (f_X5_calculate_m _ _ _ _) ?_ | with_reducible refine Mo_of (f_X8_clear_m _) ?_ | with_reducible refine Mo_of (f_X8_put_m _ _ _ _) ?_ | with_reducible refine Mo_of (f_X8_tableOf_m _ _ _) ?_ | with_reducible refine Mo_of (f_X8_firstCell_m _ _) ?_ | with_reducible refine Mo_of (f_X8_cellsIn_m _ _) ?_ | with_reducible refine Mo_of (f_J9_floorMod_f86c9_m _ _ _) ?_ | with_reducible refine Mo_of (f_J7_rangeCheck_23922_m _ _ _ _) ?_ | with_reducible refine Mo_of (f_J7_fill_bad5a_L10_m _ _ _ _ _ _ _) ?_ | with_reducible refine Mo_of (f_J7_fill_bad5a_m _ _ _ _ _) ?_ | with_reducible refine Mo_of (f_J7_fill_eb02e_L10_m _ _ _ _ _ _ _) ?_ | with_reducible refine Mo_of (f_J7_fill_eb02e_m _ _ _ _ _) ?_ | with_reducible refine Mo_of (f_X5_settle_L15_m _ _ _ _ _ _ _ _) ?_ | with_reducible refine Mo_of (f_X5_settle_m _ _ _ _ _) ?_ | with_reducible refine Mo_of (f_X5_handIn_m _ _ _ _ _) ?_ | with_reducible refine Mo_of (f_X5_cellAt_m _ _ _) ?_ | with_reducible refine Mo_of (f_X5_operate_m _ _ _) ?_ | with_reducible refine Mo_of (f_X5_pickCell_m _ _ _) ?_ | with_reducible refine Mo_of (f_X0_add_m _ _ _) ?_ | with_reducible refine Mo_of (f_X2_add_m _ _ _ _) ?_ | with_reducible refine Mo_of (f_X8_take_m _ _ _) ?_ | with_reducible refine Mo_of (f_X5_openFrame_m _ _ _ _ _) ?_ | with_reducible refine Mo_of (f_X5_enter_L16_m _ _ _ _ _ _ _) ?_ | with_reducible refine Mo_of (f_X5_enter_m _ _ _ _) ?_ | with_reducible refine Mo_of (f_X5_await_m _ _ _ _) ?_ | with_reducible refine Mo_of (f_X5_lookUp_m _ _ _ _) ?_ | with_reducible refine Mo_of (f_X5_beginLoop_L52_m _ _ _ _ _ _ _ _ _) ?_ | with_reducible refine Mo_of (f_X5_beginLoop_m _ _ _ _) ?_ | with_reducible refine Mo_of (f_X5_visit_m _ _ _ _) ?_ | with_reducible refine Mo_of (f_X5_meet_m _ _) ?_ | with_reducible refine Mo_of (f_X5_move_m _ _) ?_ | with_reducible refine Mo_of (f_X5_flow_L2_m _ _ _ _) ?_ | rfl)
            refine cG_X5_176_38_gA (pc := 83) X [.int (((S.1 73) ((S.1 38 10).toNatClampNeg)) / 512), .int (((S.1 73) ((S.1 38 10).toNatClampNeg)) - ((S.1 73) ((S.1 38 10).toNatClampNeg)) / 512 * 512)] [] 2 rfl (f_X5_visit_e l g (mx gA ad ga) fu (((S.1 73) ((S.1 38 10).toNatClampNeg)) / 512) (((S.1 73) ((S.1 38 10).toNatClampNeg)) - ((S.1 73) ((S.1 38 10).toNatClampNeg)) / 512 * 512) S15 _ _ hc20) (Nat.le_of_ble_eq_true rfl) (Nat.le_of_ble_eq_true rfl) (Nat.le_of_ble_eq_true rfl) rfl dX5_flow_83 (mo_use hc20 (f_X5_visit_m fu (((S.1 73) ((S.1 38 10).toNatClampNeg)) / 512) (((S.1 73) ((S.1 38 10).toNatClampNeg)) - ((S.1 73) ((S.1 38 10).toNatClampNeg)) / 512 * 512) S15)) m2 b1 b2 (fun ga bc bs b1 b2 => ?_)
            refine iv_iinc (pc := 86) X dX5_flow_86 rfl (by decide) (v := z1 + 1) rfl (lv' := [(1, .int (z1 + 1)), (3, .int ((S.1 73) ((S.1 38 10).toNatClampNeg))), (2, .int (S.1 38 10)), (0, .ref (mx gA ad ga 38))]) rfl ?_
            refine iv_goto (pc := 89) X dX5_flow_89 (tgt := 2) rfl ?_
            refine iv_sub [3, 0] (lv2 := [(0, .ref (mx gA ad ga 38)), (1, .int (z1 + 1))]) rfl ?_
            exact ih (z1 + 1) S18 _ _ hm ga bc bs b1 b2
          · rw [if_neg hb14] at hm
            refine iv_aload_n (pc := 29) X dX5_flow_29 rfl ?_
            obtain ⟨⟨r22, S21⟩, hc23, hm⟩ := bd_some hm
            have m2 := mo_use (S := S21) hm (by repeat' first | with_reducible exact Mo_none _ | with_reducible refine Mo_gd ?_ | with_reducible refine Mo_ite ?_ ?_ | with_reducible refine Mo_bind ?_ (fun q => ?_) | with_reducible refine Mo_some ?_ | with_reducible refine Mo_of (f_gr65_m _ _) ?_ | with_reducible refine Mo_of (f_gr66_m _ _) ?_ | with_reducible refine Mo_of (f_gr68_m _ _) ?_ | with_reducible refine Mo_of (f_gr69_m _ _) ?_ | with_reducible refine Mo_of (f_gr70_m _ _) ?_ | with_reducible refine Mo_of (f_gr71_m _ _) ?_ | with_reducible refine Mo_of (f_gr73_m _ _) ?_ | with_reducible refine Mo_of (f_gr74_m _ _) ?_ | with_reducible refine Mo_of (f_X0_clear_m _) ?_ | with_reducible refine Mo_of (f_X0_release_m _ _) ?_ | with_reducible refine Mo_of (f_X2_clear_m _) ?_ | with_reducible refine Mo_of (f_X2_outward_L5_m _ _ _ _ _ _ _) ?_ | with_reducible refine Mo_of (f_X2_outward_m _ _ _ _) ?_ | with_reducible refine Mo_of (f_X3_takesNumbers_L12_m _ _ _ _ _ _) ?_ | with_reducible refine Mo_of (f_X3_takesNumbers_m _ _ _) ?_ | with_reducible refine Mo_of (f_X5_condition_m _) ?_ | with_reducible refine Mo_of (f_X5_slotOf_m _ _ _) ?_ | with_reducible refine Mo_of (f_X5_makeReady_m _ _ _) ?_ | with_reducible refine Mo_of (f_X5_send_m _ _ _ _ _) ?_ | with_reducible refine Mo_of (f_X5_leaveFunction_m _) ?_ | with_reducible refine Mo_of (f_X5_turn_m _ _ _) ?_ | with_reducible refine Mo_of (f_X5_leastError_m _ _ _) ?_ | with_reducible refine Mo_of (f_X5_calculate_m _ _ _ _) ?_ | with_reducible refine Mo_of (f_X8_clear_m _) ?_ | with_reducible refine Mo_of (f_X8_put_m _ _ _ _) ?_ | with_reducible refine Mo_of (f_X8_tableOf_m _ _ _) ?_ | with_reducible refine Mo_of (f_X8_firstCell_m _ _) ?_ | with_reducible refine Mo_of (f_X8_cellsIn_m _ _) ?_ | with_reducible refine Mo_of (f_J9_floorMod_f86c9_m _ _ _) ?_ | with_reducible refine Mo_of (f_J7_rangeCheck_23922_m _ _ _ _) ?_ | with_reducible refine Mo_of (f_J7_fill_bad5a_L10_m _ _ _ _ _ _ _) ?_ | with_reducible refine Mo_of (f_J7_fill_bad5a_m _ _ _ _ _) ?_ | with_reducible refine Mo_of (f_J7_fill_eb02e_L10_m _ _ _ _ _ _ _) ?_ | with_reducible refine Mo_of (f_J7_fill_eb02e_m _ _ _ _ _) ?_ | with_reducible refine Mo_of (f_X5_settle_L15_m _ _ _ _ _ _ _ _) ?_ | with_reducible refine Mo_of (f_X5_settle_m _ _ _ _ _) ?_ | with_reducible refine Mo_of (f_X5_handIn_m _ _ _ _ _) ?_ | with_reducible refine Mo_of (f_X5_cellAt_m _ _ _) ?_ | with_reducible refine Mo_of (f_X5_operate_m _ _ _) ?_ | with_reducible refine Mo_of (f_X5_pickCell_m _ _ _) ?_ | with_reducible refine Mo_of (f_X0_add_m _ _ _) ?_ | with_reducible refine Mo_of (f_X2_add_m _ _ _ _) ?_ | with_reducible refine Mo_of (f_X8_take_m _ _ _) ?_ | with_reducible refine Mo_of (f_X5_openFrame_m _ _ _ _ _) ?_ | with_reducible refine Mo_of (f_X5_enter_L16_m _ _ _ _ _ _ _) ?_ | with_reducible refine Mo_of (f_X5_enter_m _ _ _ _) ?_ | with_reducible refine Mo_of (f_X5_await_m _ _ _ _) ?_ | with_reducible refine Mo_of (f_X5_lookUp_m _ _ _ _) ?_ | with_reducible refine Mo_of (f_X5_beginLoop_L52_m _ _ _ _ _ _ _ _ _) ?_ | with_reducible refine Mo_of (f_X5_beginLoop_m _ _ _ _) ?_ | with_reducible refine Mo_of (f_X5_visit_m _ _ _ _) ?_ | with_reducible refine Mo_of (f_X5_meet_m _ _) ?_ | with_reducible refine Mo_of (f_X5_move_m _ _) ?_ | with_reducible refine Mo_of (f_X5_flow_L2_m _ _ _ _) ?_ | rfl)
            refine cG_X5_167_38_gA (pc := 30) X [] [] 0 rfl (f_X5_move_e l g (mx gA ad ga) fu  S _ _ hc23) (Nat.le_of_ble_eq_true rfl) (Nat.le_of_ble_eq_true rfl) (Nat.le_of_ble_eq_true rfl) rfl dX5_flow_30 (mo_use hc23 (f_X5_move_m fu  S)) m2 b1 b2 (fun ga bc bs b1 b2 => ?_)
            refine iv_goto (pc := 33) X dX5_flow_33 (tgt := 86) rfl ?_
            refine iv_iinc (pc := 86) X dX5_flow_86 rfl (by decide) (v := z1 + 1) rfl (lv' := [(1, .int (z1 + 1)), (0, .ref (mx gA ad ga 38))]) rfl ?_
            refine iv_goto (pc := 89) X dX5_flow_89 (tgt := 2) rfl ?_
            refine iv_sub [1, 0] (lv2 := [(0, .ref (mx gA ad ga 38)), (1, .int (z1 + 1))]) rfl ?_
            exact ih (z1 + 1) S21 _ _ hm ga bc bs b1 b2
def f_X5_flow (fu : Nat) (S : im_S) : Option (Unit × im_S) := f_X5_flow_L2 fu fu 0 S
theorem f_X5_flow_m (fu : Nat) (S : im_S) : Mo (f_X5_flow fu  S) S := by
  unfold f_X5_flow
  repeat' first | with_reducible exact Mo_none _ | with_reducible refine Mo_gd ?_ | with_reducible refine Mo_ite ?_ ?_ | with_reducible refine Mo_bind ?_ (fun q => ?_) | with_reducible refine Mo_some ?_ | with_reducible refine Mo_of (f_gr65_m _ _) ?_ | with_reducible refine Mo_of (f_gr66_m _ _) ?_ | with_reducible refine Mo_of (f_gr68_m _ _) ?_ | with_reducible refine Mo_of (f_gr69_m _ _) ?_ | with_reducible refine Mo_of (f_gr70_m _ _) ?_ | with_reducible refine Mo_of (f_gr71_m _ _) ?_ | with_reducible refine Mo_of (f_gr73_m _ _) ?_ | with_reducible refine Mo_of (f_gr74_m _ _) ?_ | with_reducible refine Mo_of (f_X0_clear_m _) ?_ | with_reducible refine Mo_of (f_X0_release_m _ _) ?_ | with_reducible refine Mo_of (f_X2_clear_m _) ?_ | with_reducible refine Mo_of (f_X2_outward_L5_m _ _ _ _ _ _ _) ?_ | with_reducible refine Mo_of (f_X2_outward_m _ _ _ _) ?_ | with_reducible refine Mo_of (f_X3_takesNumbers_L12_m _ _ _ _ _ _) ?_ | with_reducible refine Mo_of (f_X3_takesNumbers_m _ _ _) ?_ | with_reducible refine Mo_of (f_X5_condition_m _) ?_ | with_reducible refine Mo_of (f_X5_slotOf_m _ _ _) ?_ | with_reducible refine Mo_of (f_X5_makeReady_m _ _ _) ?_ | with_reducible refine Mo_of (f_X5_send_m _ _ _ _ _) ?_ | with_reducible refine Mo_of (f_X5_leaveFunction_m _) ?_ | with_reducible refine Mo_of (f_X5_turn_m _ _ _) ?_ | with_reducible refine Mo_of (f_X5_leastError_m _ _ _) ?_ | with_reducible refine Mo_of (f_X5_calculate_m _ _ _ _) ?_ | with_reducible refine Mo_of (f_X8_clear_m _) ?_ | with_reducible refine Mo_of (f_X8_put_m _ _ _ _) ?_ | with_reducible refine Mo_of (f_X8_tableOf_m _ _ _) ?_ | with_reducible refine Mo_of (f_X8_firstCell_m _ _) ?_ | with_reducible refine Mo_of (f_X8_cellsIn_m _ _) ?_ | with_reducible refine Mo_of (f_J9_floorMod_f86c9_m _ _ _) ?_ | with_reducible refine Mo_of (f_J7_rangeCheck_23922_m _ _ _ _) ?_ | with_reducible refine Mo_of (f_J7_fill_bad5a_L10_m _ _ _ _ _ _ _) ?_ | with_reducible refine Mo_of (f_J7_fill_bad5a_m _ _ _ _ _) ?_ | with_reducible refine Mo_of (f_J7_fill_eb02e_L10_m _ _ _ _ _ _ _) ?_ | with_reducible refine Mo_of (f_J7_fill_eb02e_m _ _ _ _ _) ?_ | with_reducible refine Mo_of (f_X5_settle_L15_m _ _ _ _ _ _ _ _) ?_ | with_reducible refine Mo_of (f_X5_settle_m _ _ _ _ _) ?_ | with_reducible refine Mo_of (f_X5_handIn_m _ _ _ _ _) ?_ | with_reducible refine Mo_of (f_X5_cellAt_m _ _ _) ?_ | with_reducible refine Mo_of (f_X5_operate_m _ _ _) ?_ | with_reducible refine Mo_of (f_X5_pickCell_m _ _ _) ?_ | with_reducible refine Mo_of (f_X0_add_m _ _ _) ?_ | with_reducible refine Mo_of (f_X2_add_m _ _ _ _) ?_ | with_reducible refine Mo_of (f_X8_take_m _ _ _) ?_ | with_reducible refine Mo_of (f_X5_openFrame_m _ _ _ _ _) ?_ | with_reducible refine Mo_of (f_X5_enter_L16_m _ _ _ _ _ _ _) ?_ | with_reducible refine Mo_of (f_X5_enter_m _ _ _ _) ?_ | with_reducible refine Mo_of (f_X5_await_m _ _ _ _) ?_ | with_reducible refine Mo_of (f_X5_lookUp_m _ _ _ _) ?_ | with_reducible refine Mo_of (f_X5_beginLoop_L52_m _ _ _ _ _ _ _ _ _) ?_ | with_reducible refine Mo_of (f_X5_beginLoop_m _ _ _ _) ?_ | with_reducible refine Mo_of (f_X5_visit_m _ _ _ _) ?_ | with_reducible refine Mo_of (f_X5_meet_m _ _) ?_ | with_reducible refine Mo_of (f_X5_move_m _ _) ?_ | with_reducible refine Mo_of (f_X5_flow_L2_m _ _ _ _) ?_ | rfl
set_option maxHeartbeats 4000000 in
set_option maxRecDepth 100000 in
theorem f_X5_flow_e (l : Launch) (g : im_G) (ad : Nat → Nat) (fu : Nat) (S : im_S) (r : Unit) (S' : im_S) (hm : f_X5_flow fu  S = some (r, S')) : im_EG gA l g ad 6 yX5_flow cX5_flow 4 none [.ref (ad 38)] S none S' := by
  unfold f_X5_flow at hm
  refine is_metG (own := RX5) (by decide +kernel) rfl (Nat.le_of_ble_eq_true rfl) (fun p e s m below meth c X ga bc bs b1 b2 => ?_)
  refine iv_iconst (pc := 0) X dX5_flow_0 ic_0 ?_
  refine iv_istore_n (pc := 1) X dX5_flow_1 (by decide) (lv' := [(1, .int 0), (0, .ref (mx gA ad ga 38))]) rfl ?_
  refine iv_sub [1, 0] (lv2 := [(0, .ref (mx gA ad ga 38)), (1, .int 0)]) rfl ?_
  exact f_X5_flow_L2_w (fu := fu) l g ad X fu 0 S _ _ hm ga bc bs b1 b2
def f_X5_choose (fu : Nat) (x1 : Int32) (x2 : Int32) (S : im_S) : Option (Unit × im_S) := gd (in_b x2 512) ((f_X5_slotOf x1 ((S.1 46) x2.toNatClampNeg) S).bind (fun qS1 => gd (in_b qS1.1 (qS1.2.2.2 65)) (if ((qS1.2.1 65) qS1.1.toNatClampNeg : Int32) ≠ 4 then (gd (in_b x2 512) (gd (in_b qS1.1 (qS1.2.2.2 66)) (if (lg_cmp ((qS1.2.2.1 66) qS1.1.toNatClampNeg) 1 : Int32) ≠ 0 then ((f_X5_enter fu x1 (((qS1.2.1 49) x2.toNatClampNeg) + 1) qS1.2).bind (fun qS6 => some ((), qS6.2))) else ((f_X5_enter fu x1 (((qS1.2.1 49) x2.toNatClampNeg) + 0) qS1.2).bind (fun qS9 => some ((), qS9.2)))))) else (gd (in_b qS1.1 (qS1.2.2.2 66)) ((f_X5_send x1 x2 4 ((qS1.2.2.1 66) qS1.1.toNatClampNeg) qS1.2).bind (fun qS12 => some ((), qS12.2)))))))
theorem f_X5_choose_m (fu : Nat) (x1 : Int32) (x2 : Int32) (S : im_S) : Mo (f_X5_choose fu x1 x2 S) S := by
  unfold f_X5_choose
  repeat' first | with_reducible exact Mo_none _ | with_reducible refine Mo_gd ?_ | with_reducible refine Mo_ite ?_ ?_ | with_reducible refine Mo_bind ?_ (fun q => ?_) | with_reducible refine Mo_some ?_ | with_reducible refine Mo_of (f_gr65_m _ _) ?_ | with_reducible refine Mo_of (f_gr66_m _ _) ?_ | with_reducible refine Mo_of (f_gr68_m _ _) ?_ | with_reducible refine Mo_of (f_gr69_m _ _) ?_ | with_reducible refine Mo_of (f_gr70_m _ _) ?_ | with_reducible refine Mo_of (f_gr71_m _ _) ?_ | with_reducible refine Mo_of (f_gr73_m _ _) ?_ | with_reducible refine Mo_of (f_gr74_m _ _) ?_ | with_reducible refine Mo_of (f_X0_clear_m _) ?_ | with_reducible refine Mo_of (f_X0_release_m _ _) ?_ | with_reducible refine Mo_of (f_X2_clear_m _) ?_ | with_reducible refine Mo_of (f_X2_outward_L5_m _ _ _ _ _ _ _) ?_ | with_reducible refine Mo_of (f_X2_outward_m _ _ _ _) ?_ | with_reducible refine Mo_of (f_X3_takesNumbers_L12_m _ _ _ _ _ _) ?_ | with_reducible refine Mo_of (f_X3_takesNumbers_m _ _ _) ?_ | with_reducible refine Mo_of (f_X5_condition_m _) ?_ | with_reducible refine Mo_of (f_X5_slotOf_m _ _ _) ?_ | with_reducible refine Mo_of (f_X5_makeReady_m _ _ _) ?_ | with_reducible refine Mo_of (f_X5_send_m _ _ _ _ _) ?_ | with_reducible refine Mo_of (f_X5_leaveFunction_m _) ?_ | with_reducible refine Mo_of (f_X5_turn_m _ _ _) ?_ | with_reducible refine Mo_of (f_X5_leastError_m _ _ _) ?_ | with_reducible refine Mo_of (f_X5_calculate_m _ _ _ _) ?_ | with_reducible refine Mo_of (f_X8_clear_m _) ?_ | with_reducible refine Mo_of (f_X8_put_m _ _ _ _) ?_ | with_reducible refine Mo_of (f_X8_tableOf_m _ _ _) ?_ | with_reducible refine Mo_of (f_X8_firstCell_m _ _) ?_ | with_reducible refine Mo_of (f_X8_cellsIn_m _ _) ?_ | with_reducible refine Mo_of (f_J9_floorMod_f86c9_m _ _ _) ?_ | with_reducible refine Mo_of (f_J7_rangeCheck_23922_m _ _ _ _) ?_ | with_reducible refine Mo_of (f_J7_fill_bad5a_L10_m _ _ _ _ _ _ _) ?_ | with_reducible refine Mo_of (f_J7_fill_bad5a_m _ _ _ _ _) ?_ | with_reducible refine Mo_of (f_J7_fill_eb02e_L10_m _ _ _ _ _ _ _) ?_ | with_reducible refine Mo_of (f_J7_fill_eb02e_m _ _ _ _ _) ?_ | with_reducible refine Mo_of (f_X5_settle_L15_m _ _ _ _ _ _ _ _) ?_ | with_reducible refine Mo_of (f_X5_settle_m _ _ _ _ _) ?_ | with_reducible refine Mo_of (f_X5_handIn_m _ _ _ _ _) ?_ | with_reducible refine Mo_of (f_X5_cellAt_m _ _ _) ?_ | with_reducible refine Mo_of (f_X5_operate_m _ _ _) ?_ | with_reducible refine Mo_of (f_X5_pickCell_m _ _ _) ?_ | with_reducible refine Mo_of (f_X0_add_m _ _ _) ?_ | with_reducible refine Mo_of (f_X2_add_m _ _ _ _) ?_ | with_reducible refine Mo_of (f_X8_take_m _ _ _) ?_ | with_reducible refine Mo_of (f_X5_openFrame_m _ _ _ _ _) ?_ | with_reducible refine Mo_of (f_X5_enter_L16_m _ _ _ _ _ _ _) ?_ | with_reducible refine Mo_of (f_X5_enter_m _ _ _ _) ?_ | with_reducible refine Mo_of (f_X5_await_m _ _ _ _) ?_ | with_reducible refine Mo_of (f_X5_lookUp_m _ _ _ _) ?_ | with_reducible refine Mo_of (f_X5_beginLoop_L52_m _ _ _ _ _ _ _ _ _) ?_ | with_reducible refine Mo_of (f_X5_beginLoop_m _ _ _ _) ?_ | with_reducible refine Mo_of (f_X5_visit_m _ _ _ _) ?_ | with_reducible refine Mo_of (f_X5_meet_m _ _) ?_ | with_reducible refine Mo_of (f_X5_move_m _ _) ?_ | with_reducible refine Mo_of (f_X5_flow_L2_m _ _ _ _) ?_ | with_reducible refine Mo_of (f_X5_flow_m _ _) ?_ | rfl
set_option maxHeartbeats 4000000 in
set_option maxRecDepth 100000 in
theorem f_X5_choose_e (l : Launch) (g : im_G) (ad : Nat → Nat) (fu : Nat) (x1 : Int32) (x2 : Int32) (S : im_S) (r : Unit) (S' : im_S) (hm : f_X5_choose fu x1 x2 S = some (r, S')) : im_EG gC l g ad 4 yX5_choose cX5_choose 4 none [.ref (ad 38), .int x1, .int x2] S none S' := by
  unfold f_X5_choose at hm
  refine is_metG (own := RX5) (by decide +kernel) rfl (Nat.le_of_ble_eq_true rfl) (fun p e s m below meth c X ga bc bs b1 b2 => ?_)
  refine iv_aload_n (pc := 0) X dX5_choose_0 rfl ?_
  refine iv_iload_n (pc := 1) X dX5_choose_1 rfl ?_
  refine iv_aload_n (pc := 2) X dX5_choose_2 rfl ?_
  refine gF_X5_12_38 (pc := 3) X dX5_choose_3 ?_
  refine gF_X5_201_40 (pc := 6) X dX5_choose_6 ?_
  refine iv_iload_n (pc := 9) X dX5_choose_9 rfl ?_
  obtain ⟨hg, hm⟩ := gd_some hm
  refine aL_46 (pc := 10) X dX5_choose_10 hg (x := (S.1 46) x2.toNatClampNeg) rfl ?_
  obtain ⟨⟨r2, S1⟩, hc3, hm⟩ := bd_some hm
  refine cV_X5_84_38 (pc := 11) X [.int x1, .int ((S.1 46) x2.toNatClampNeg)] [] 2 rfl (f_X5_slotOf_e l g (mx gC ad ga) x1 ((S.1 46) x2.toNatClampNeg) S _ _ hc3) (Nat.le_of_ble_eq_true rfl) (Nat.le_of_ble_eq_true rfl) (Nat.le_of_ble_eq_true rfl) rfl dX5_choose_11 ?_
  have b1 := gb_step (mo_use hc3 (f_X5_slotOf_m x1 ((S.1 46) x2.toNatClampNeg) S)) b1
  have b2 := gb_step2 (mo_use hc3 (f_X5_slotOf_m x1 ((S.1 46) x2.toNatClampNeg) S)) b2
  refine iv_istore_n (pc := 14) X dX5_choose_14 (by decide) (lv' := [(3, .int r2), (0, .ref (mx gC ad ga 38)), (1, .int x1), (2, .int x2)]) rfl ?_
  refine iv_aload_n (pc := 15) X dX5_choose_15 rfl ?_
  refine gF_X5_21_38 (pc := 16) X dX5_choose_16 ?_
  refine gF_X5_211_64 (pc := 19) X dX5_choose_19 ?_
  refine iv_iload_n (pc := 22) X dX5_choose_22 rfl ?_
  obtain ⟨hg, hm⟩ := gd_some hm
  refine aL_65 (pc := 23) X dX5_choose_23 hg (x := (S1.1 65) r2.toNatClampNeg) rfl ?_
  refine iv_iconst (pc := 24) X dX5_choose_24 ic_4 ?_
  refine iv_icmp_ne (pc := 25) X dX5_choose_25 (tgt := 47) rfl (fun hb4 => ?_) (fun hb4 => ?_)
  · rw [if_pos hb4] at hm
    refine iv_aload_n (pc := 47) X dX5_choose_47 rfl ?_
    refine iv_iload_n (pc := 48) X dX5_choose_48 rfl ?_
    refine iv_aload_n (pc := 49) X dX5_choose_49 rfl ?_
    refine gF_X5_12_38 (pc := 50) X dX5_choose_50 ?_
    refine gF_X5_218_40 (pc := 53) X dX5_choose_53 ?_
    refine iv_iload_n (pc := 56) X dX5_choose_56 rfl ?_
    obtain ⟨hg, hm⟩ := gd_some hm
    refine aL_49 (pc := 57) X dX5_choose_57 hg (x := (S1.1 49) x2.toNatClampNeg) rfl ?_
    refine iv_aload_n (pc := 58) X dX5_choose_58 rfl ?_
    refine gF_X5_21_38 (pc := 59) X dX5_choose_59 ?_
    refine gF_X5_160_64 (pc := 62) X dX5_choose_62 ?_
    refine iv_iload_n (pc := 65) X dX5_choose_65 rfl ?_
    obtain ⟨hg, hm⟩ := gd_some hm
    refine aL_66 (pc := 66) X dX5_choose_66 hg (x := (S1.2.1 66) r2.toNatClampNeg) rfl ?_
    refine iv_lconst (pc := 67) X dX5_choose_67 lc_1 ?_
    refine iv_lcmp (pc := 68) X dX5_choose_68 ?_
    refine iv_if_ne (pc := 69) X dX5_choose_69 (tgt := 76) rfl (fun hb5 => ?_) (fun hb5 => ?_)
    · rw [if_pos hb5] at hm
      refine iv_iconst (pc := 76) X dX5_choose_76 ic_1 ?_
      refine iv_iadd (pc := 77) X dX5_choose_77 ?_
      obtain ⟨⟨r7, S6⟩, hc8, hm⟩ := bd_some hm
      have m2 := mo_use (S := S6) hm (by repeat' first | with_reducible exact Mo_none _ | with_reducible refine Mo_gd ?_ | with_reducible refine Mo_ite ?_ ?_ | with_reducible refine Mo_bind ?_ (fun q => ?_) | with_reducible refine Mo_some ?_ | with_reducible refine Mo_of (f_gr65_m _ _) ?_ | with_reducible refine Mo_of (f_gr66_m _ _) ?_ | with_reducible refine Mo_of (f_gr68_m _ _) ?_ | with_reducible refine Mo_of (f_gr69_m _ _) ?_ | with_reducible refine Mo_of (f_gr70_m _ _) ?_ | with_reducible refine Mo_of (f_gr71_m _ _) ?_ | with_reducible refine Mo_of (f_gr73_m _ _) ?_ | with_reducible refine Mo_of (f_gr74_m _ _) ?_ | with_reducible refine Mo_of (f_X0_clear_m _) ?_ | with_reducible refine Mo_of (f_X0_release_m _ _) ?_ | with_reducible refine Mo_of (f_X2_clear_m _) ?_ | with_reducible refine Mo_of (f_X2_outward_L5_m _ _ _ _ _ _ _) ?_ | with_reducible refine Mo_of (f_X2_outward_m _ _ _ _) ?_ | with_reducible refine Mo_of (f_X3_takesNumbers_L12_m _ _ _ _ _ _) ?_ | with_reducible refine Mo_of (f_X3_takesNumbers_m _ _ _) ?_ | with_reducible refine Mo_of (f_X5_condition_m _) ?_ | with_reducible refine Mo_of (f_X5_slotOf_m _ _ _) ?_ | with_reducible refine Mo_of (f_X5_makeReady_m _ _ _) ?_ | with_reducible refine Mo_of (f_X5_send_m _ _ _ _ _) ?_ | with_reducible refine Mo_of (f_X5_leaveFunction_m _) ?_ | with_reducible refine Mo_of (f_X5_turn_m _ _ _) ?_ | with_reducible refine Mo_of (f_X5_leastError_m _ _ _) ?_ | with_reducible refine Mo_of (f_X5_calculate_m _ _ _ _) ?_ | with_reducible refine Mo_of (f_X8_clear_m _) ?_ | with_reducible refine Mo_of (f_X8_put_m _ _ _ _) ?_ | with_reducible refine Mo_of (f_X8_tableOf_m _ _ _) ?_ | with_reducible refine Mo_of (f_X8_firstCell_m _ _) ?_ | with_reducible refine Mo_of (f_X8_cellsIn_m _ _) ?_ | with_reducible refine Mo_of (f_J9_floorMod_f86c9_m _ _ _) ?_ | with_reducible refine Mo_of (f_J7_rangeCheck_23922_m _ _ _ _) ?_ | with_reducible refine Mo_of (f_J7_fill_bad5a_L10_m _ _ _ _ _ _ _) ?_ | with_reducible refine Mo_of (f_J7_fill_bad5a_m _ _ _ _ _) ?_ | with_reducible refine Mo_of (f_J7_fill_eb02e_L10_m _ _ _ _ _ _ _) ?_ | with_reducible refine Mo_of (f_J7_fill_eb02e_m _ _ _ _ _) ?_ | with_reducible refine Mo_of (f_X5_settle_L15_m _ _ _ _ _ _ _ _) ?_ | with_reducible refine Mo_of (f_X5_settle_m _ _ _ _ _) ?_ | with_reducible refine Mo_of (f_X5_handIn_m _ _ _ _ _) ?_ | with_reducible refine Mo_of (f_X5_cellAt_m _ _ _) ?_ | with_reducible refine Mo_of (f_X5_operate_m _ _ _) ?_ | with_reducible refine Mo_of (f_X5_pickCell_m _ _ _) ?_ | with_reducible refine Mo_of (f_X0_add_m _ _ _) ?_ | with_reducible refine Mo_of (f_X2_add_m _ _ _ _) ?_ | with_reducible refine Mo_of (f_X8_take_m _ _ _) ?_ | with_reducible refine Mo_of (f_X5_openFrame_m _ _ _ _ _) ?_ | with_reducible refine Mo_of (f_X5_enter_L16_m _ _ _ _ _ _ _) ?_ | with_reducible refine Mo_of (f_X5_enter_m _ _ _ _) ?_ | with_reducible refine Mo_of (f_X5_await_m _ _ _ _) ?_ | with_reducible refine Mo_of (f_X5_lookUp_m _ _ _ _) ?_ | with_reducible refine Mo_of (f_X5_beginLoop_L52_m _ _ _ _ _ _ _ _ _) ?_ | with_reducible refine Mo_of (f_X5_beginLoop_m _ _ _ _) ?_ | with_reducible refine Mo_of (f_X5_visit_m _ _ _ _) ?_ | with_reducible refine Mo_of (f_X5_meet_m _ _) ?_ | with_reducible refine Mo_of (f_X5_move_m _ _) ?_ | with_reducible refine Mo_of (f_X5_flow_L2_m _ _ _ _) ?_ | with_reducible refine Mo_of (f_X5_flow_m _ _) ?_ | with_reducible refine Mo_of (f_X5_choose_m _ _ _ _) ?_ | rfl)
      refine cG_X5_95_38_gC (pc := 78) X [.int x1, .int (((S1.1 49) x2.toNatClampNeg) + 1)] [] 2 rfl (f_X5_enter_e l g (mx gC ad ga) fu x1 (((S1.1 49) x2.toNatClampNeg) + 1) S1 _ _ hc8) (Nat.le_of_ble_eq_true rfl) (Nat.le_of_ble_eq_true rfl) (Nat.le_of_ble_eq_true rfl) rfl dX5_choose_78 (mo_use hc8 (f_X5_enter_m fu x1 (((S1.1 49) x2.toNatClampNeg) + 1) S1)) m2 b1 b2 (fun ga bc bs b1 b2 => ?_)
      cases hm
      exact is_vretG (pc := 81) X dX5_choose_81
    · rw [if_neg hb5] at hm
      refine iv_iconst (pc := 72) X dX5_choose_72 ic_0 ?_
      refine iv_goto (pc := 73) X dX5_choose_73 (tgt := 77) rfl ?_
      refine iv_iadd (pc := 77) X dX5_choose_77 ?_
      obtain ⟨⟨r10, S9⟩, hc11, hm⟩ := bd_some hm
      have m2 := mo_use (S := S9) hm (by repeat' first | with_reducible exact Mo_none _ | with_reducible refine Mo_gd ?_ | with_reducible refine Mo_ite ?_ ?_ | with_reducible refine Mo_bind ?_ (fun q => ?_) | with_reducible refine Mo_some ?_ | with_reducible refine Mo_of (f_gr65_m _ _) ?_ | with_reducible refine Mo_of (f_gr66_m _ _) ?_ | with_reducible refine Mo_of (f_gr68_m _ _) ?_ | with_reducible refine Mo_of (f_gr69_m _ _) ?_ | with_reducible refine Mo_of (f_gr70_m _ _) ?_ | with_reducible refine Mo_of (f_gr71_m _ _) ?_ | with_reducible refine Mo_of (f_gr73_m _ _) ?_ | with_reducible refine Mo_of (f_gr74_m _ _) ?_ | with_reducible refine Mo_of (f_X0_clear_m _) ?_ | with_reducible refine Mo_of (f_X0_release_m _ _) ?_ | with_reducible refine Mo_of (f_X2_clear_m _) ?_ | with_reducible refine Mo_of (f_X2_outward_L5_m _ _ _ _ _ _ _) ?_ | with_reducible refine Mo_of (f_X2_outward_m _ _ _ _) ?_ | with_reducible refine Mo_of (f_X3_takesNumbers_L12_m _ _ _ _ _ _) ?_ | with_reducible refine Mo_of (f_X3_takesNumbers_m _ _ _) ?_ | with_reducible refine Mo_of (f_X5_condition_m _) ?_ | with_reducible refine Mo_of (f_X5_slotOf_m _ _ _) ?_ | with_reducible refine Mo_of (f_X5_makeReady_m _ _ _) ?_ | with_reducible refine Mo_of (f_X5_send_m _ _ _ _ _) ?_ | with_reducible refine Mo_of (f_X5_leaveFunction_m _) ?_ | with_reducible refine Mo_of (f_X5_turn_m _ _ _) ?_ | with_reducible refine Mo_of (f_X5_leastError_m _ _ _) ?_ | with_reducible refine Mo_of (f_X5_calculate_m _ _ _ _) ?_ | with_reducible refine Mo_of (f_X8_clear_m _) ?_ | with_reducible refine Mo_of (f_X8_put_m _ _ _ _) ?_ | with_reducible refine Mo_of (f_X8_tableOf_m _ _ _) ?_ | with_reducible refine Mo_of (f_X8_firstCell_m _ _) ?_ | with_reducible refine Mo_of (f_X8_cellsIn_m _ _) ?_ | with_reducible refine Mo_of (f_J9_floorMod_f86c9_m _ _ _) ?_ | with_reducible refine Mo_of (f_J7_rangeCheck_23922_m _ _ _ _) ?_ | with_reducible refine Mo_of (f_J7_fill_bad5a_L10_m _ _ _ _ _ _ _) ?_ | with_reducible refine Mo_of (f_J7_fill_bad5a_m _ _ _ _ _) ?_ | with_reducible refine Mo_of (f_J7_fill_eb02e_L10_m _ _ _ _ _ _ _) ?_ | with_reducible refine Mo_of (f_J7_fill_eb02e_m _ _ _ _ _) ?_ | with_reducible refine Mo_of (f_X5_settle_L15_m _ _ _ _ _ _ _ _) ?_ | with_reducible refine Mo_of (f_X5_settle_m _ _ _ _ _) ?_ | with_reducible refine Mo_of (f_X5_handIn_m _ _ _ _ _) ?_ | with_reducible refine Mo_of (f_X5_cellAt_m _ _ _) ?_ | with_reducible refine Mo_of (f_X5_operate_m _ _ _) ?_ | with_reducible refine Mo_of (f_X5_pickCell_m _ _ _) ?_ | with_reducible refine Mo_of (f_X0_add_m _ _ _) ?_ | with_reducible refine Mo_of (f_X2_add_m _ _ _ _) ?_ | with_reducible refine Mo_of (f_X8_take_m _ _ _) ?_ | with_reducible refine Mo_of (f_X5_openFrame_m _ _ _ _ _) ?_ | with_reducible refine Mo_of (f_X5_enter_L16_m _ _ _ _ _ _ _) ?_ | with_reducible refine Mo_of (f_X5_enter_m _ _ _ _) ?_ | with_reducible refine Mo_of (f_X5_await_m _ _ _ _) ?_ | with_reducible refine Mo_of (f_X5_lookUp_m _ _ _ _) ?_ | with_reducible refine Mo_of (f_X5_beginLoop_L52_m _ _ _ _ _ _ _ _ _) ?_ | with_reducible refine Mo_of (f_X5_beginLoop_m _ _ _ _) ?_ | with_reducible refine Mo_of (f_X5_visit_m _ _ _ _) ?_ | with_reducible refine Mo_of (f_X5_meet_m _ _) ?_ | with_reducible refine Mo_of (f_X5_move_m _ _) ?_ | with_reducible refine Mo_of (f_X5_flow_L2_m _ _ _ _) ?_ | with_reducible refine Mo_of (f_X5_flow_m _ _) ?_ | with_reducible refine Mo_of (f_X5_choose_m _ _ _ _) ?_ | rfl)
      refine cG_X5_95_38_gC (pc := 78) X [.int x1, .int (((S1.1 49) x2.toNatClampNeg) + 0)] [] 2 rfl (f_X5_enter_e l g (mx gC ad ga) fu x1 (((S1.1 49) x2.toNatClampNeg) + 0) S1 _ _ hc11) (Nat.le_of_ble_eq_true rfl) (Nat.le_of_ble_eq_true rfl) (Nat.le_of_ble_eq_true rfl) rfl dX5_choose_78 (mo_use hc11 (f_X5_enter_m fu x1 (((S1.1 49) x2.toNatClampNeg) + 0) S1)) m2 b1 b2 (fun ga bc bs b1 b2 => ?_)
      cases hm
      exact is_vretG (pc := 81) X dX5_choose_81
  · rw [if_neg hb4] at hm
    refine iv_aload_n (pc := 28) X dX5_choose_28 rfl ?_
    refine iv_iload_n (pc := 29) X dX5_choose_29 rfl ?_
    refine iv_iload_n (pc := 30) X dX5_choose_30 rfl ?_
    refine iv_iconst (pc := 31) X dX5_choose_31 ic_4 ?_
    refine iv_aload_n (pc := 32) X dX5_choose_32 rfl ?_
    refine gF_X5_21_38 (pc := 33) X dX5_choose_33 ?_
    refine gF_X5_160_64 (pc := 36) X dX5_choose_36 ?_
    refine iv_iload_n (pc := 39) X dX5_choose_39 rfl ?_
    obtain ⟨hg, hm⟩ := gd_some hm
    refine aL_66 (pc := 40) X dX5_choose_40 hg (x := (S1.2.1 66) r2.toNatClampNeg) rfl ?_
    obtain ⟨⟨r13, S12⟩, hc14, hm⟩ := bd_some hm
    refine cV_X5_188_38 (pc := 41) X [.int x1, .int x2, .int 4, .long ((S1.2.1 66) r2.toNatClampNeg)] [] 4 rfl (f_X5_send_e l g (mx gC ad ga) x1 x2 4 ((S1.2.1 66) r2.toNatClampNeg) S1 _ _ hc14) (Nat.le_of_ble_eq_true rfl) (Nat.le_of_ble_eq_true rfl) (Nat.le_of_ble_eq_true rfl) rfl dX5_choose_41 ?_
    have b1 := gb_step (mo_use hc14 (f_X5_send_m x1 x2 4 ((S1.2.1 66) r2.toNatClampNeg) S1)) b1
    have b2 := gb_step2 (mo_use hc14 (f_X5_send_m x1 x2 4 ((S1.2.1 66) r2.toNatClampNeg) S1)) b2
    refine iv_goto (pc := 44) X dX5_choose_44 (tgt := 81) rfl ?_
    cases hm
    exact is_vretG (pc := 81) X dX5_choose_81
def f_X5_enterFunction_L63 (fu : Nat) : Nat → Int32 → Int32 → Int32 → Int32 → Int32 → Int32 → im_S → Option (Unit × im_S)
  | 0, _, _, _, _, _, _, _ => none
  | nf + 1, z1, z2, z3, z4, z5, z6, S => if (4 : Int32) ≤ z6 then ((f_X5_enter fu z4 z3 S).bind (fun qS2 => some ((), qS2.2))) else (if (z5 : Int32) = (-1) then ((f_X5_enter fu z4 z3 S).bind (fun qS6 => some ((), qS6.2))) else ((f_X5_handIn fu z1 z5 z4 S).bind (fun qS9 => gd (in_b z5 512) (f_X5_enterFunction_L63 fu nf z1 z2 z3 z4 ((qS9.2.1 48) z5.toNatClampNeg) (z6 + 1) qS9.2))))
theorem f_X5_enterFunction_L63_m (fu : Nat) : ∀ (nf : Nat) (z1 : Int32) (z2 : Int32) (z3 : Int32) (z4 : Int32) (z5 : Int32) (z6 : Int32) (S : im_S), Mo (f_X5_enterFunction_L63 fu nf z1 z2 z3 z4 z5 z6 S) S := by
  intro nf
  induction nf with
  | zero => intro z1 z2 z3 z4 z5 z6 S; exact Mo_none _
  | succ nf ih =>
    intro z1 z2 z3 z4 z5 z6 S
    unfold f_X5_enterFunction_L63
    repeat' first | with_reducible exact Mo_none _ | with_reducible refine Mo_gd ?_ | with_reducible refine Mo_ite ?_ ?_ | with_reducible refine Mo_bind ?_ (fun q => ?_) | with_reducible refine Mo_some ?_ | with_reducible refine Mo_of (ih _ _ _ _ _ _ _) ?_ | with_reducible refine Mo_of (f_gr65_m _ _) ?_ | with_reducible refine Mo_of (f_gr66_m _ _) ?_ | with_reducible refine Mo_of (f_gr68_m _ _) ?_ | with_reducible refine Mo_of (f_gr69_m _ _) ?_ | with_reducible refine Mo_of (f_gr70_m _ _) ?_ | with_reducible refine Mo_of (f_gr71_m _ _) ?_ | with_reducible refine Mo_of (f_gr73_m _ _) ?_ | with_reducible refine Mo_of (f_gr74_m _ _) ?_ | with_reducible refine Mo_of (f_X0_clear_m _) ?_ | with_reducible refine Mo_of (f_X0_release_m _ _) ?_ | with_reducible refine Mo_of (f_X2_clear_m _) ?_ | with_reducible refine Mo_of (f_X2_outward_L5_m _ _ _ _ _ _ _) ?_ | with_reducible refine Mo_of (f_X2_outward_m _ _ _ _) ?_ | with_reducible refine Mo_of (f_X3_takesNumbers_L12_m _ _ _ _ _ _) ?_ | with_reducible refine Mo_of (f_X3_takesNumbers_m _ _ _) ?_ | with_reducible refine Mo_of (f_X5_condition_m _) ?_ | with_reducible refine Mo_of (f_X5_slotOf_m _ _ _) ?_ | with_reducible refine Mo_of (f_X5_makeReady_m _ _ _) ?_ | with_reducible refine Mo_of (f_X5_send_m _ _ _ _ _) ?_ | with_reducible refine Mo_of (f_X5_leaveFunction_m _) ?_ | with_reducible refine Mo_of (f_X5_turn_m _ _ _) ?_ | with_reducible refine Mo_of (f_X5_leastError_m _ _ _) ?_ | with_reducible refine Mo_of (f_X5_calculate_m _ _ _ _) ?_ | with_reducible refine Mo_of (f_X8_clear_m _) ?_ | with_reducible refine Mo_of (f_X8_put_m _ _ _ _) ?_ | with_reducible refine Mo_of (f_X8_tableOf_m _ _ _) ?_ | with_reducible refine Mo_of (f_X8_firstCell_m _ _) ?_ | with_reducible refine Mo_of (f_X8_cellsIn_m _ _) ?_ | with_reducible refine Mo_of (f_J9_floorMod_f86c9_m _ _ _) ?_ | with_reducible refine Mo_of (f_J7_rangeCheck_23922_m _ _ _ _) ?_ | with_reducible refine Mo_of (f_J7_fill_bad5a_L10_m _ _ _ _ _ _ _) ?_ | with_reducible refine Mo_of (f_J7_fill_bad5a_m _ _ _ _ _) ?_ | with_reducible refine Mo_of (f_J7_fill_eb02e_L10_m _ _ _ _ _ _ _) ?_ | with_reducible refine Mo_of (f_J7_fill_eb02e_m _ _ _ _ _) ?_ | with_reducible refine Mo_of (f_X5_settle_L15_m _ _ _ _ _ _ _ _) ?_ | with_reducible refine Mo_of (f_X5_settle_m _ _ _ _ _) ?_ | with_reducible refine Mo_of (f_X5_handIn_m _ _ _ _ _) ?_ | with_reducible refine Mo_of (f_X5_cellAt_m _ _ _) ?_ | with_reducible refine Mo_of (f_X5_operate_m _ _ _) ?_ | with_reducible refine Mo_of (f_X5_pickCell_m _ _ _) ?_ | with_reducible refine Mo_of (f_X0_add_m _ _ _) ?_ | with_reducible refine Mo_of (f_X2_add_m _ _ _ _) ?_ | with_reducible refine Mo_of (f_X8_take_m _ _ _) ?_ | with_reducible refine Mo_of (f_X5_openFrame_m _ _ _ _ _) ?_ | with_reducible refine Mo_of (f_X5_enter_L16_m _ _ _ _ _ _ _) ?_ | with_reducible refine Mo_of (f_X5_enter_m _ _ _ _) ?_ | with_reducible refine Mo_of (f_X5_await_m _ _ _ _) ?_ | with_reducible refine Mo_of (f_X5_lookUp_m _ _ _ _) ?_ | with_reducible refine Mo_of (f_X5_beginLoop_L52_m _ _ _ _ _ _ _ _ _) ?_ | with_reducible refine Mo_of (f_X5_beginLoop_m _ _ _ _) ?_ | with_reducible refine Mo_of (f_X5_visit_m _ _ _ _) ?_ | with_reducible refine Mo_of (f_X5_meet_m _ _) ?_ | with_reducible refine Mo_of (f_X5_move_m _ _) ?_ | with_reducible refine Mo_of (f_X5_flow_L2_m _ _ _ _) ?_ | with_reducible refine Mo_of (f_X5_flow_m _ _) ?_ | with_reducible refine Mo_of (f_X5_choose_m _ _ _ _) ?_ | rfl
set_option maxHeartbeats 4000000 in
set_option maxRecDepth 100000 in
theorem f_X5_enterFunction_L63_w {fu : Nat} (l : Launch) (g : im_G) (ad : Nat → Nat) {p : Program} {e : Env} {s : State} {m : MethodId} {below : List Frame} {meth : Method} {c : Code} {args : Array Value} {mc ms : Nat} (X : im_X p l s m args meth c g cX5_enterFunction 7 RX5 none) : ∀ (nf : Nat) (z1 : Int32) (z2 : Int32) (z3 : Int32) (z4 : Int32) (z5 : Int32) (z6 : Int32) (S : im_S) (r : Unit) (S' : im_S), f_X5_enterFunction_L63 fu nf z1 z2 z3 z4 z5 z6 S = some (r, S') → ∀ (ga : Nat → Nat) (bc bs : Nat), (gP S' - gP S) / 64 + 0 ≤ bc → 2 * gP S' + 0 ≤ 2 * gP S + bs → im_V p l e (im_R 4 mc ms) s m args below meth c g 7 (im_ZG gA below g ad args s mc ms none S') (mx gA ad ga) im_N (im_cn g (mx gA ad ga) S) bc bs 63 [(0, .ref (mx gA ad ga 38)), (1, .int z1), (2, .int z2), (3, .int z3), (4, .int z4), (5, .int z5), (6, .int z6)] [] := by
  intro nf
  induction nf with
  | zero =>
    intro z1 z2 z3 z4 z5 z6 S r S' hm
    cases hm
  | succ nf ih =>
    intro z1 z2 z3 z4 z5 z6 S r S' hm ga bc bs b1 b2
    unfold f_X5_enterFunction_L63 at hm
    refine iv_iload (pc := 63) X dX5_enterFunction_63 rfl ?_
    refine iv_iconst (pc := 65) X dX5_enterFunction_65 ic_4 ?_
    refine iv_icmp_ge (pc := 66) X dX5_enterFunction_66 (tgt := 102) rfl (fun hb1 => ?_) (fun hb1 => ?_)
    · rw [if_pos hb1] at hm
      refine iv_aload_n (pc := 102) X dX5_enterFunction_102 rfl ?_
      refine iv_iload (pc := 103) X dX5_enterFunction_103 rfl ?_
      refine iv_iload_n (pc := 105) X dX5_enterFunction_105 rfl ?_
      obtain ⟨⟨r3, S2⟩, hc4, hm⟩ := bd_some hm
      have m2 := mo_use (S := S2) hm (by repeat' first | with_reducible exact Mo_none _ | with_reducible refine Mo_gd ?_ | with_reducible refine Mo_ite ?_ ?_ | with_reducible refine Mo_bind ?_ (fun q => ?_) | with_reducible refine Mo_some ?_ | with_reducible refine Mo_of (f_gr65_m _ _) ?_ | with_reducible refine Mo_of (f_gr66_m _ _) ?_ | with_reducible refine Mo_of (f_gr68_m _ _) ?_ | with_reducible refine Mo_of (f_gr69_m _ _) ?_ | with_reducible refine Mo_of (f_gr70_m _ _) ?_ | with_reducible refine Mo_of (f_gr71_m _ _) ?_ | with_reducible refine Mo_of (f_gr73_m _ _) ?_ | with_reducible refine Mo_of (f_gr74_m _ _) ?_ | with_reducible refine Mo_of (f_X0_clear_m _) ?_ | with_reducible refine Mo_of (f_X0_release_m _ _) ?_ | with_reducible refine Mo_of (f_X2_clear_m _) ?_ | with_reducible refine Mo_of (f_X2_outward_L5_m _ _ _ _ _ _ _) ?_ | with_reducible refine Mo_of (f_X2_outward_m _ _ _ _) ?_ | with_reducible refine Mo_of (f_X3_takesNumbers_L12_m _ _ _ _ _ _) ?_ | with_reducible refine Mo_of (f_X3_takesNumbers_m _ _ _) ?_ | with_reducible refine Mo_of (f_X5_condition_m _) ?_ | with_reducible refine Mo_of (f_X5_slotOf_m _ _ _) ?_ | with_reducible refine Mo_of (f_X5_makeReady_m _ _ _) ?_ | with_reducible refine Mo_of (f_X5_send_m _ _ _ _ _) ?_ | with_reducible refine Mo_of (f_X5_leaveFunction_m _) ?_ | with_reducible refine Mo_of (f_X5_turn_m _ _ _) ?_ | with_reducible refine Mo_of (f_X5_leastError_m _ _ _) ?_ | with_reducible refine Mo_of (f_X5_calculate_m _ _ _ _) ?_ | with_reducible refine Mo_of (f_X8_clear_m _) ?_ | with_reducible refine Mo_of (f_X8_put_m _ _ _ _) ?_ | with_reducible refine Mo_of (f_X8_tableOf_m _ _ _) ?_ | with_reducible refine Mo_of (f_X8_firstCell_m _ _) ?_ | with_reducible refine Mo_of (f_X8_cellsIn_m _ _) ?_ | with_reducible refine Mo_of (f_J9_floorMod_f86c9_m _ _ _) ?_ | with_reducible refine Mo_of (f_J7_rangeCheck_23922_m _ _ _ _) ?_ | with_reducible refine Mo_of (f_J7_fill_bad5a_L10_m _ _ _ _ _ _ _) ?_ | with_reducible refine Mo_of (f_J7_fill_bad5a_m _ _ _ _ _) ?_ | with_reducible refine Mo_of (f_J7_fill_eb02e_L10_m _ _ _ _ _ _ _) ?_ | with_reducible refine Mo_of (f_J7_fill_eb02e_m _ _ _ _ _) ?_ | with_reducible refine Mo_of (f_X5_settle_L15_m _ _ _ _ _ _ _ _) ?_ | with_reducible refine Mo_of (f_X5_settle_m _ _ _ _ _) ?_ | with_reducible refine Mo_of (f_X5_handIn_m _ _ _ _ _) ?_ | with_reducible refine Mo_of (f_X5_cellAt_m _ _ _) ?_ | with_reducible refine Mo_of (f_X5_operate_m _ _ _) ?_ | with_reducible refine Mo_of (f_X5_pickCell_m _ _ _) ?_ | with_reducible refine Mo_of (f_X0_add_m _ _ _) ?_ | with_reducible refine Mo_of (f_X2_add_m _ _ _ _) ?_ | with_reducible refine Mo_of (f_X8_take_m _ _ _) ?_ | with_reducible refine Mo_of (f_X5_openFrame_m _ _ _ _ _) ?_ | with_reducible refine Mo_of (f_X5_enter_L16_m _ _ _ _ _ _ _) ?_ | with_reducible refine Mo_of (f_X5_enter_m _ _ _ _) ?_ | with_reducible refine Mo_of (f_X5_await_m _ _ _ _) ?_ | with_reducible refine Mo_of (f_X5_lookUp_m _ _ _ _) ?_ | with_reducible refine Mo_of (f_X5_beginLoop_L52_m _ _ _ _ _ _ _ _ _) ?_ | with_reducible refine Mo_of (f_X5_beginLoop_m _ _ _ _) ?_ | with_reducible refine Mo_of (f_X5_visit_m _ _ _ _) ?_ | with_reducible refine Mo_of (f_X5_meet_m _ _) ?_ | with_reducible refine Mo_of (f_X5_move_m _ _) ?_ | with_reducible refine Mo_of (f_X5_flow_L2_m _ _ _ _) ?_ | with_reducible refine Mo_of (f_X5_flow_m _ _) ?_ | with_reducible refine Mo_of (f_X5_choose_m _ _ _ _) ?_ | with_reducible refine Mo_of (f_X5_enterFunction_L63_m _ _ _ _ _ _ _ _ _) ?_ | rfl)
      refine cG_X5_95_38_gA (pc := 106) X [.int z4, .int z3] [] 2 rfl (f_X5_enter_e l g (mx gA ad ga) fu z4 z3 S _ _ hc4) (Nat.le_of_ble_eq_true rfl) (Nat.le_of_ble_eq_true rfl) (Nat.le_of_ble_eq_true rfl) rfl dX5_enterFunction_106 (mo_use hc4 (f_X5_enter_m fu z4 z3 S)) m2 b1 b2 (fun ga bc bs b1 b2 => ?_)
      cases hm
      exact is_vretG (pc := 109) X dX5_enterFunction_109
    · rw [if_neg hb1] at hm
      refine iv_iload (pc := 69) X dX5_enterFunction_69 rfl ?_
      refine iv_iconst (pc := 71) X dX5_enterFunction_71 ic_m1 ?_
      refine iv_icmp_eq (pc := 72) X dX5_enterFunction_72 (tgt := 102) rfl (fun hb5 => ?_) (fun hb5 => ?_)
      · rw [if_pos hb5] at hm
        refine iv_aload_n (pc := 102) X dX5_enterFunction_102 rfl ?_
        refine iv_iload (pc := 103) X dX5_enterFunction_103 rfl ?_
        refine iv_iload_n (pc := 105) X dX5_enterFunction_105 rfl ?_
        obtain ⟨⟨r7, S6⟩, hc8, hm⟩ := bd_some hm
        have m2 := mo_use (S := S6) hm (by repeat' first | with_reducible exact Mo_none _ | with_reducible refine Mo_gd ?_ | with_reducible refine Mo_ite ?_ ?_ | with_reducible refine Mo_bind ?_ (fun q => ?_) | with_reducible refine Mo_some ?_ | with_reducible refine Mo_of (f_gr65_m _ _) ?_ | with_reducible refine Mo_of (f_gr66_m _ _) ?_ | with_reducible refine Mo_of (f_gr68_m _ _) ?_ | with_reducible refine Mo_of (f_gr69_m _ _) ?_ | with_reducible refine Mo_of (f_gr70_m _ _) ?_ | with_reducible refine Mo_of (f_gr71_m _ _) ?_ | with_reducible refine Mo_of (f_gr73_m _ _) ?_ | with_reducible refine Mo_of (f_gr74_m _ _) ?_ | with_reducible refine Mo_of (f_X0_clear_m _) ?_ | with_reducible refine Mo_of (f_X0_release_m _ _) ?_ | with_reducible refine Mo_of (f_X2_clear_m _) ?_ | with_reducible refine Mo_of (f_X2_outward_L5_m _ _ _ _ _ _ _) ?_ | with_reducible refine Mo_of (f_X2_outward_m _ _ _ _) ?_ | with_reducible refine Mo_of (f_X3_takesNumbers_L12_m _ _ _ _ _ _) ?_ | with_reducible refine Mo_of (f_X3_takesNumbers_m _ _ _) ?_ | with_reducible refine Mo_of (f_X5_condition_m _) ?_ | with_reducible refine Mo_of (f_X5_slotOf_m _ _ _) ?_ | with_reducible refine Mo_of (f_X5_makeReady_m _ _ _) ?_ | with_reducible refine Mo_of (f_X5_send_m _ _ _ _ _) ?_ | with_reducible refine Mo_of (f_X5_leaveFunction_m _) ?_ | with_reducible refine Mo_of (f_X5_turn_m _ _ _) ?_ | with_reducible refine Mo_of (f_X5_leastError_m _ _ _) ?_ | with_reducible refine Mo_of (f_X5_calculate_m _ _ _ _) ?_ | with_reducible refine Mo_of (f_X8_clear_m _) ?_ | with_reducible refine Mo_of (f_X8_put_m _ _ _ _) ?_ | with_reducible refine Mo_of (f_X8_tableOf_m _ _ _) ?_ | with_reducible refine Mo_of (f_X8_firstCell_m _ _) ?_ | with_reducible refine Mo_of (f_X8_cellsIn_m _ _) ?_ | with_reducible refine Mo_of (f_J9_floorMod_f86c9_m _ _ _) ?_ | with_reducible refine Mo_of (f_J7_rangeCheck_23922_m _ _ _ _) ?_ | with_reducible refine Mo_of (f_J7_fill_bad5a_L10_m _ _ _ _ _ _ _) ?_ | with_reducible refine Mo_of (f_J7_fill_bad5a_m _ _ _ _ _) ?_ | with_reducible refine Mo_of (f_J7_fill_eb02e_L10_m _ _ _ _ _ _ _) ?_ | with_reducible refine Mo_of (f_J7_fill_eb02e_m _ _ _ _ _) ?_ | with_reducible refine Mo_of (f_X5_settle_L15_m _ _ _ _ _ _ _ _) ?_ | with_reducible refine Mo_of (f_X5_settle_m _ _ _ _ _) ?_ | with_reducible refine Mo_of (f_X5_handIn_m _ _ _ _ _) ?_ | with_reducible refine Mo_of (f_X5_cellAt_m _ _ _) ?_ | with_reducible refine Mo_of (f_X5_operate_m _ _ _) ?_ | with_reducible refine Mo_of (f_X5_pickCell_m _ _ _) ?_ | with_reducible refine Mo_of (f_X0_add_m _ _ _) ?_ | with_reducible refine Mo_of (f_X2_add_m _ _ _ _) ?_ | with_reducible refine Mo_of (f_X8_take_m _ _ _) ?_ | with_reducible refine Mo_of (f_X5_openFrame_m _ _ _ _ _) ?_ | with_reducible refine Mo_of (f_X5_enter_L16_m _ _ _ _ _ _ _) ?_ | with_reducible refine Mo_of (f_X5_enter_m _ _ _ _) ?_ | with_reducible refine Mo_of (f_X5_await_m _ _ _ _) ?_ | with_reducible refine Mo_of (f_X5_lookUp_m _ _ _ _) ?_ | with_reducible refine Mo_of (f_X5_beginLoop_L52_m _ _ _ _ _ _ _ _ _) ?_ | with_reducible refine Mo_of (f_X5_beginLoop_m _ _ _ _) ?_ | with_reducible refine Mo_of (f_X5_visit_m _ _ _ _) ?_ | with_reducible refine Mo_of (f_X5_meet_m _ _) ?_ | with_reducible refine Mo_of (f_X5_move_m _ _) ?_ | with_reducible refine Mo_of (f_X5_flow_L2_m _ _ _ _) ?_ | with_reducible refine Mo_of (f_X5_flow_m _ _) ?_ | with_reducible refine Mo_of (f_X5_choose_m _ _ _ _) ?_ | with_reducible refine Mo_of (f_X5_enterFunction_L63_m _ _ _ _ _ _ _ _ _) ?_ | rfl)
        refine cG_X5_95_38_gA (pc := 106) X [.int z4, .int z3] [] 2 rfl (f_X5_enter_e l g (mx gA ad ga) fu z4 z3 S _ _ hc8) (Nat.le_of_ble_eq_true rfl) (Nat.le_of_ble_eq_true rfl) (Nat.le_of_ble_eq_true rfl) rfl dX5_enterFunction_106 (mo_use hc8 (f_X5_enter_m fu z4 z3 S)) m2 b1 b2 (fun ga bc bs b1 b2 => ?_)
        cases hm
        exact is_vretG (pc := 109) X dX5_enterFunction_109
      · rw [if_neg hb5] at hm
        refine iv_aload_n (pc := 75) X dX5_enterFunction_75 rfl ?_
        refine iv_iload_n (pc := 76) X dX5_enterFunction_76 rfl ?_
        refine iv_iload (pc := 77) X dX5_enterFunction_77 rfl ?_
        refine iv_iload (pc := 79) X dX5_enterFunction_79 rfl ?_
        obtain ⟨⟨r10, S9⟩, hc11, hm⟩ := bd_some hm
        refine cV_X5_224_38 (pc := 81) X [.int z1, .int z5, .int z4] [] 3 rfl (f_X5_handIn_e l g (mx gA ad ga) fu z1 z5 z4 S _ _ hc11) (Nat.le_of_ble_eq_true rfl) (Nat.le_of_ble_eq_true rfl) (Nat.le_of_ble_eq_true rfl) rfl dX5_enterFunction_81 ?_
        have b1 := gb_step (mo_use hc11 (f_X5_handIn_m fu z1 z5 z4 S)) b1
        have b2 := gb_step2 (mo_use hc11 (f_X5_handIn_m fu z1 z5 z4 S)) b2
        refine iv_aload_n (pc := 84) X dX5_enterFunction_84 rfl ?_
        refine gF_X5_12_38 (pc := 85) X dX5_enterFunction_85 ?_
        refine gF_X5_92_40 (pc := 88) X dX5_enterFunction_88 ?_
        refine iv_iload (pc := 91) X dX5_enterFunction_91 rfl ?_
        obtain ⟨hg, hm⟩ := gd_some hm
        refine aL_48 (pc := 93) X dX5_enterFunction_93 hg (x := (S9.1 48) z5.toNatClampNeg) rfl ?_
        refine iv_istore (pc := 94) X dX5_enterFunction_94 (by decide) (lv' := [(5, .int ((S9.1 48) z5.toNatClampNeg)), (0, .ref (mx gA ad ga 38)), (1, .int z1), (2, .int z2), (3, .int z3), (4, .int z4), (6, .int z6)]) rfl ?_
        refine iv_iinc (pc := 96) X dX5_enterFunction_96 rfl (by decide) (v := z6 + 1) rfl (lv' := [(6, .int (z6 + 1)), (5, .int ((S9.1 48) z5.toNatClampNeg)), (0, .ref (mx gA ad ga 38)), (1, .int z1), (2, .int z2), (3, .int z3), (4, .int z4)]) rfl ?_
        refine iv_goto (pc := 99) X dX5_enterFunction_99 (tgt := 63) rfl ?_
        refine iv_sub [2, 3, 4, 5, 6, 1, 0] (lv2 := [(0, .ref (mx gA ad ga 38)), (1, .int z1), (2, .int z2), (3, .int z3), (4, .int z4), (5, .int ((S9.1 48) z5.toNatClampNeg)), (6, .int (z6 + 1))]) rfl ?_
        exact ih z1 z2 z3 z4 ((S9.1 48) z5.toNatClampNeg) (z6 + 1) S9 _ _ hm ga bc bs b1 b2
def f_X5_enterFunction (fu : Nat) (x1 : Int32) (x2 : Int32) (S : im_S) : Option (Unit × im_S) := gd (in_b x2 512) (gd (in_b ((S.1 47) x2.toNatClampNeg) 8) ((f_X5_openFrame fu ((S.1 58) (((S.1 47) x2.toNatClampNeg).toNatClampNeg)) x1 x2 S).bind (fun qS1 => (f_X5_slotOf x1 x2 qS1.2).bind (fun qS4 => gd (in_b (qS4.1 + 1) (qS4.2.2.2 66)) (gd (in_b x2 512) (f_X5_enterFunction_L63 fu fu x1 x2 ((S.1 58) (((S.1 47) x2.toNatClampNeg).toNatClampNeg)) qS1.1 ((qS4.2.1 46) x2.toNatClampNeg) 0 (uJ qS4.2 66 ((qS4.1 + 1).toNatClampNeg) qS1.1.toInt64)))))))
theorem f_X5_enterFunction_m (fu : Nat) (x1 : Int32) (x2 : Int32) (S : im_S) : Mo (f_X5_enterFunction fu x1 x2 S) S := by
  unfold f_X5_enterFunction
  repeat' first | with_reducible exact Mo_none _ | with_reducible refine Mo_gd ?_ | with_reducible refine Mo_ite ?_ ?_ | with_reducible refine Mo_bind ?_ (fun q => ?_) | with_reducible refine Mo_some ?_ | with_reducible refine Mo_of (f_gr65_m _ _) ?_ | with_reducible refine Mo_of (f_gr66_m _ _) ?_ | with_reducible refine Mo_of (f_gr68_m _ _) ?_ | with_reducible refine Mo_of (f_gr69_m _ _) ?_ | with_reducible refine Mo_of (f_gr70_m _ _) ?_ | with_reducible refine Mo_of (f_gr71_m _ _) ?_ | with_reducible refine Mo_of (f_gr73_m _ _) ?_ | with_reducible refine Mo_of (f_gr74_m _ _) ?_ | with_reducible refine Mo_of (f_X0_clear_m _) ?_ | with_reducible refine Mo_of (f_X0_release_m _ _) ?_ | with_reducible refine Mo_of (f_X2_clear_m _) ?_ | with_reducible refine Mo_of (f_X2_outward_L5_m _ _ _ _ _ _ _) ?_ | with_reducible refine Mo_of (f_X2_outward_m _ _ _ _) ?_ | with_reducible refine Mo_of (f_X3_takesNumbers_L12_m _ _ _ _ _ _) ?_ | with_reducible refine Mo_of (f_X3_takesNumbers_m _ _ _) ?_ | with_reducible refine Mo_of (f_X5_condition_m _) ?_ | with_reducible refine Mo_of (f_X5_slotOf_m _ _ _) ?_ | with_reducible refine Mo_of (f_X5_makeReady_m _ _ _) ?_ | with_reducible refine Mo_of (f_X5_send_m _ _ _ _ _) ?_ | with_reducible refine Mo_of (f_X5_leaveFunction_m _) ?_ | with_reducible refine Mo_of (f_X5_turn_m _ _ _) ?_ | with_reducible refine Mo_of (f_X5_leastError_m _ _ _) ?_ | with_reducible refine Mo_of (f_X5_calculate_m _ _ _ _) ?_ | with_reducible refine Mo_of (f_X8_clear_m _) ?_ | with_reducible refine Mo_of (f_X8_put_m _ _ _ _) ?_ | with_reducible refine Mo_of (f_X8_tableOf_m _ _ _) ?_ | with_reducible refine Mo_of (f_X8_firstCell_m _ _) ?_ | with_reducible refine Mo_of (f_X8_cellsIn_m _ _) ?_ | with_reducible refine Mo_of (f_J9_floorMod_f86c9_m _ _ _) ?_ | with_reducible refine Mo_of (f_J7_rangeCheck_23922_m _ _ _ _) ?_ | with_reducible refine Mo_of (f_J7_fill_bad5a_L10_m _ _ _ _ _ _ _) ?_ | with_reducible refine Mo_of (f_J7_fill_bad5a_m _ _ _ _ _) ?_ | with_reducible refine Mo_of (f_J7_fill_eb02e_L10_m _ _ _ _ _ _ _) ?_ | with_reducible refine Mo_of (f_J7_fill_eb02e_m _ _ _ _ _) ?_ | with_reducible refine Mo_of (f_X5_settle_L15_m _ _ _ _ _ _ _ _) ?_ | with_reducible refine Mo_of (f_X5_settle_m _ _ _ _ _) ?_ | with_reducible refine Mo_of (f_X5_handIn_m _ _ _ _ _) ?_ | with_reducible refine Mo_of (f_X5_cellAt_m _ _ _) ?_ | with_reducible refine Mo_of (f_X5_operate_m _ _ _) ?_ | with_reducible refine Mo_of (f_X5_pickCell_m _ _ _) ?_ | with_reducible refine Mo_of (f_X0_add_m _ _ _) ?_ | with_reducible refine Mo_of (f_X2_add_m _ _ _ _) ?_ | with_reducible refine Mo_of (f_X8_take_m _ _ _) ?_ | with_reducible refine Mo_of (f_X5_openFrame_m _ _ _ _ _) ?_ | with_reducible refine Mo_of (f_X5_enter_L16_m _ _ _ _ _ _ _) ?_ | with_reducible refine Mo_of (f_X5_enter_m _ _ _ _) ?_ | with_reducible refine Mo_of (f_X5_await_m _ _ _ _) ?_ | with_reducible refine Mo_of (f_X5_lookUp_m _ _ _ _) ?_ | with_reducible refine Mo_of (f_X5_beginLoop_L52_m _ _ _ _ _ _ _ _ _) ?_ | with_reducible refine Mo_of (f_X5_beginLoop_m _ _ _ _) ?_ | with_reducible refine Mo_of (f_X5_visit_m _ _ _ _) ?_ | with_reducible refine Mo_of (f_X5_meet_m _ _) ?_ | with_reducible refine Mo_of (f_X5_move_m _ _) ?_ | with_reducible refine Mo_of (f_X5_flow_L2_m _ _ _ _) ?_ | with_reducible refine Mo_of (f_X5_flow_m _ _) ?_ | with_reducible refine Mo_of (f_X5_choose_m _ _ _ _) ?_ | with_reducible refine Mo_of (f_X5_enterFunction_L63_m _ _ _ _ _ _ _ _ _) ?_ | rfl
set_option maxHeartbeats 4000000 in
set_option maxRecDepth 100000 in
theorem f_X5_enterFunction_e (l : Launch) (g : im_G) (ad : Nat → Nat) (fu : Nat) (x1 : Int32) (x2 : Int32) (S : im_S) (r : Unit) (S' : im_S) (hm : f_X5_enterFunction fu x1 x2 S = some (r, S')) : im_EG gA l g ad 4 yX5_enterFunction cX5_enterFunction 7 none [.ref (ad 38), .int x1, .int x2] S none S' := by
  unfold f_X5_enterFunction at hm
  refine is_metG (own := RX5) (by decide +kernel) rfl (Nat.le_of_ble_eq_true rfl) (fun p e s m below meth c X ga bc bs b1 b2 => ?_)
  refine iv_aload_n (pc := 0) X dX5_enterFunction_0 rfl ?_
  refine gF_X5_12_38 (pc := 1) X dX5_enterFunction_1 ?_
  refine gF_X5_68_40 (pc := 4) X dX5_enterFunction_4 ?_
  refine gF_X5_72_56 (pc := 7) X dX5_enterFunction_7 ?_
  refine iv_aload_n (pc := 10) X dX5_enterFunction_10 rfl ?_
  refine gF_X5_12_38 (pc := 11) X dX5_enterFunction_11 ?_
  refine gF_X5_254_40 (pc := 14) X dX5_enterFunction_14 ?_
  refine iv_iload_n (pc := 17) X dX5_enterFunction_17 rfl ?_
  obtain ⟨hg, hm⟩ := gd_some hm
  refine aL_47 (pc := 18) X dX5_enterFunction_18 hg (x := (S.1 47) x2.toNatClampNeg) rfl ?_
  obtain ⟨hg, hm⟩ := gd_some hm
  refine aL_58 (pc := 19) X dX5_enterFunction_19 hg (x := (S.1 58) (((S.1 47) x2.toNatClampNeg).toNatClampNeg)) rfl ?_
  refine iv_istore_n (pc := 20) X dX5_enterFunction_20 (by decide) (lv' := [(3, .int ((S.1 58) (((S.1 47) x2.toNatClampNeg).toNatClampNeg))), (0, .ref (mx gA ad ga 38)), (1, .int x1), (2, .int x2)]) rfl ?_
  refine iv_aload_n (pc := 21) X dX5_enterFunction_21 rfl ?_
  refine iv_iload_n (pc := 22) X dX5_enterFunction_22 rfl ?_
  refine iv_iload_n (pc := 23) X dX5_enterFunction_23 rfl ?_
  refine iv_iload_n (pc := 24) X dX5_enterFunction_24 rfl ?_
  obtain ⟨⟨r2, S1⟩, hc3, hm⟩ := bd_some hm
  have m2 := mo_use (S := S1) hm (by repeat' first | with_reducible exact Mo_none _ | with_reducible refine Mo_gd ?_ | with_reducible refine Mo_ite ?_ ?_ | with_reducible refine Mo_bind ?_ (fun q => ?_) | with_reducible refine Mo_some ?_ | with_reducible refine Mo_of (f_gr65_m _ _) ?_ | with_reducible refine Mo_of (f_gr66_m _ _) ?_ | with_reducible refine Mo_of (f_gr68_m _ _) ?_ | with_reducible refine Mo_of (f_gr69_m _ _) ?_ | with_reducible refine Mo_of (f_gr70_m _ _) ?_ | with_reducible refine Mo_of (f_gr71_m _ _) ?_ | with_reducible refine Mo_of (f_gr73_m _ _) ?_ | with_reducible refine Mo_of (f_gr74_m _ _) ?_ | with_reducible refine Mo_of (f_X0_clear_m _) ?_ | with_reducible refine Mo_of (f_X0_release_m _ _) ?_ | with_reducible refine Mo_of (f_X2_clear_m _) ?_ | with_reducible refine Mo_of (f_X2_outward_L5_m _ _ _ _ _ _ _) ?_ | with_reducible refine Mo_of (f_X2_outward_m _ _ _ _) ?_ | with_reducible refine Mo_of (f_X3_takesNumbers_L12_m _ _ _ _ _ _) ?_ | with_reducible refine Mo_of (f_X3_takesNumbers_m _ _ _) ?_ | with_reducible refine Mo_of (f_X5_condition_m _) ?_ | with_reducible refine Mo_of (f_X5_slotOf_m _ _ _) ?_ | with_reducible refine Mo_of (f_X5_makeReady_m _ _ _) ?_ | with_reducible refine Mo_of (f_X5_send_m _ _ _ _ _) ?_ | with_reducible refine Mo_of (f_X5_leaveFunction_m _) ?_ | with_reducible refine Mo_of (f_X5_turn_m _ _ _) ?_ | with_reducible refine Mo_of (f_X5_leastError_m _ _ _) ?_ | with_reducible refine Mo_of (f_X5_calculate_m _ _ _ _) ?_ | with_reducible refine Mo_of (f_X8_clear_m _) ?_ | with_reducible refine Mo_of (f_X8_put_m _ _ _ _) ?_ | with_reducible refine Mo_of (f_X8_tableOf_m _ _ _) ?_ | with_reducible refine Mo_of (f_X8_firstCell_m _ _) ?_ | with_reducible refine Mo_of (f_X8_cellsIn_m _ _) ?_ | with_reducible refine Mo_of (f_J9_floorMod_f86c9_m _ _ _) ?_ | with_reducible refine Mo_of (f_J7_rangeCheck_23922_m _ _ _ _) ?_ | with_reducible refine Mo_of (f_J7_fill_bad5a_L10_m _ _ _ _ _ _ _) ?_ | with_reducible refine Mo_of (f_J7_fill_bad5a_m _ _ _ _ _) ?_ | with_reducible refine Mo_of (f_J7_fill_eb02e_L10_m _ _ _ _ _ _ _) ?_ | with_reducible refine Mo_of (f_J7_fill_eb02e_m _ _ _ _ _) ?_ | with_reducible refine Mo_of (f_X5_settle_L15_m _ _ _ _ _ _ _ _) ?_ | with_reducible refine Mo_of (f_X5_settle_m _ _ _ _ _) ?_ | with_reducible refine Mo_of (f_X5_handIn_m _ _ _ _ _) ?_ | with_reducible refine Mo_of (f_X5_cellAt_m _ _ _) ?_ | with_reducible refine Mo_of (f_X5_operate_m _ _ _) ?_ | with_reducible refine Mo_of (f_X5_pickCell_m _ _ _) ?_ | with_reducible refine Mo_of (f_X0_add_m _ _ _) ?_ | with_reducible refine Mo_of (f_X2_add_m _ _ _ _) ?_ | with_reducible refine Mo_of (f_X8_take_m _ _ _) ?_ | with_reducible refine Mo_of (f_X5_openFrame_m _ _ _ _ _) ?_ | with_reducible refine Mo_of (f_X5_enter_L16_m _ _ _ _ _ _ _) ?_ | with_reducible refine Mo_of (f_X5_enter_m _ _ _ _) ?_ | with_reducible refine Mo_of (f_X5_await_m _ _ _ _) ?_ | with_reducible refine Mo_of (f_X5_lookUp_m _ _ _ _) ?_ | with_reducible refine Mo_of (f_X5_beginLoop_L52_m _ _ _ _ _ _ _ _ _) ?_ | with_reducible refine Mo_of (f_X5_beginLoop_m _ _ _ _) ?_ | with_reducible refine Mo_of (f_X5_visit_m _ _ _ _) ?_ | with_reducible refine Mo_of (f_X5_meet_m _ _) ?_ | with_reducible refine Mo_of (f_X5_move_m _ _) ?_ | with_reducible refine Mo_of (f_X5_flow_L2_m _ _ _ _) ?_ | with_reducible refine Mo_of (f_X5_flow_m _ _) ?_ | with_reducible refine Mo_of (f_X5_choose_m _ _ _ _) ?_ | with_reducible refine Mo_of (f_X5_enterFunction_L63_m _ _ _ _ _ _ _ _ _) ?_ | with_reducible refine Mo_of (f_X5_enterFunction_m _ _ _ _) ?_ | rfl)
  refine cG_X5_77_38_gA (pc := 25) X [.int ((S.1 58) (((S.1 47) x2.toNatClampNeg).toNatClampNeg)), .int x1, .int x2] [] 3 rfl (f_X5_openFrame_e l g (mx gA ad ga) fu ((S.1 58) (((S.1 47) x2.toNatClampNeg).toNatClampNeg)) x1 x2 S _ _ hc3) (Nat.le_of_ble_eq_true rfl) (Nat.le_of_ble_eq_true rfl) (Nat.le_of_ble_eq_true rfl) rfl dX5_enterFunction_25 (mo_use hc3 (f_X5_openFrame_m fu ((S.1 58) (((S.1 47) x2.toNatClampNeg).toNatClampNeg)) x1 x2 S)) m2 b1 b2 (fun ga bc bs b1 b2 => ?_)
  refine iv_istore (pc := 28) X dX5_enterFunction_28 (by decide) (lv' := [(4, .int r2), (3, .int ((S.1 58) (((S.1 47) x2.toNatClampNeg).toNatClampNeg))), (0, .ref (mx gA ad ga 38)), (1, .int x1), (2, .int x2)]) rfl ?_
  refine iv_aload_n (pc := 30) X dX5_enterFunction_30 rfl ?_
  refine gF_X5_21_38 (pc := 31) X dX5_enterFunction_31 ?_
  refine gF_X5_160_64 (pc := 34) X dX5_enterFunction_34 ?_
  refine iv_aload_n (pc := 37) X dX5_enterFunction_37 rfl ?_
  refine iv_iload_n (pc := 38) X dX5_enterFunction_38 rfl ?_
  refine iv_iload_n (pc := 39) X dX5_enterFunction_39 rfl ?_
  obtain ⟨⟨r5, S4⟩, hc6, hm⟩ := bd_some hm
  refine cV_X5_84_38 (pc := 40) X [.int x1, .int x2] [.ref (mx gA ad ga 66)] 2 rfl (f_X5_slotOf_e l g (mx gA ad ga) x1 x2 S1 _ _ hc6) (Nat.le_of_ble_eq_true rfl) (Nat.le_of_ble_eq_true rfl) (Nat.le_of_ble_eq_true rfl) rfl dX5_enterFunction_40 ?_
  have b1 := gb_step (mo_use hc6 (f_X5_slotOf_m x1 x2 S1)) b1
  have b2 := gb_step2 (mo_use hc6 (f_X5_slotOf_m x1 x2 S1)) b2
  refine iv_iconst (pc := 43) X dX5_enterFunction_43 ic_1 ?_
  refine iv_iadd (pc := 44) X dX5_enterFunction_44 ?_
  refine iv_iload (pc := 45) X dX5_enterFunction_45 rfl ?_
  refine iv_i2l (pc := 47) X dX5_enterFunction_47 rfl ?_
  obtain ⟨hg, hm⟩ := gd_some hm
  refine aS_66 (pc := 48) X dX5_enterFunction_48 hg ?_
  refine iv_aload_n (pc := 49) X dX5_enterFunction_49 rfl ?_
  refine gF_X5_12_38 (pc := 50) X dX5_enterFunction_50 ?_
  refine gF_X5_201_40 (pc := 53) X dX5_enterFunction_53 ?_
  refine iv_iload_n (pc := 56) X dX5_enterFunction_56 rfl ?_
  obtain ⟨hg, hm⟩ := gd_some hm
  refine aL_46 (pc := 57) X dX5_enterFunction_57 hg (x := (S4.1 46) x2.toNatClampNeg) rfl ?_
  refine iv_istore (pc := 58) X dX5_enterFunction_58 (by decide) (lv' := [(5, .int ((S4.1 46) x2.toNatClampNeg)), (4, .int r2), (3, .int ((S.1 58) (((S.1 47) x2.toNatClampNeg).toNatClampNeg))), (0, .ref (mx gA ad ga 38)), (1, .int x1), (2, .int x2)]) rfl ?_
  refine iv_iconst (pc := 60) X dX5_enterFunction_60 ic_0 ?_
  refine iv_istore (pc := 61) X dX5_enterFunction_61 (by decide) (lv' := [(6, .int 0), (5, .int ((S4.1 46) x2.toNatClampNeg)), (4, .int r2), (3, .int ((S.1 58) (((S.1 47) x2.toNatClampNeg).toNatClampNeg))), (0, .ref (mx gA ad ga 38)), (1, .int x1), (2, .int x2)]) rfl ?_
  refine iv_sub [4, 5, 6, 3, 2, 1, 0] (lv2 := [(0, .ref (mx gA ad ga 38)), (1, .int x1), (2, .int x2), (3, .int ((S.1 58) (((S.1 47) x2.toNatClampNeg).toNatClampNeg))), (4, .int r2), (5, .int ((S4.1 46) x2.toNatClampNeg)), (6, .int 0)]) rfl ?_
  exact f_X5_enterFunction_L63_w (fu := fu) l g ad X fu x1 x2 ((S.1 58) (((S.1 47) x2.toNatClampNeg).toNatClampNeg)) r2 ((S4.1 46) x2.toNatClampNeg) 0 (uJ S4 66 ((r5 + 1).toNatClampNeg) r2.toInt64) _ _ hm ga bc bs b1 b2
def f_X5_endRound (fu : Nat) (x1 : Int32) (x2 : Int32) (S : im_S) : Option (Unit × im_S) := gd (in_b x2 512) ((f_X5_slotOf x1 ((S.1 47) x2.toNatClampNeg) S).bind (fun qS1 => gd (in_b x2 512) (gd (in_b qS1.1 (qS1.2.2.2 65)) (if ((qS1.2.1 65) qS1.1.toNatClampNeg : Int32) ≠ 4 then (gd (in_b qS1.1 (qS1.2.2.2 66)) (if (lg_cmp ((qS1.2.2.1 66) qS1.1.toNatClampNeg) 0 : Int32) ≠ 0 then (gd (in_b x1 (qS1.2.2.2 69)) ((f_X5_openFrame fu ((qS1.2.1 49) x2.toNatClampNeg) ((qS1.2.1 69) x1.toNatClampNeg) x2 qS1.2).bind (fun qS6 => gd (in_b x1 (qS6.2.2.2 71)) ((f_X5_enter fu x1 (((qS1.2.1 49) x2.toNatClampNeg) + 1) (uI qS6.2 71 x1.toNatClampNeg qS6.1)).bind (fun qS9 => (f_X5_enter fu qS6.1 ((qS1.2.1 49) x2.toNatClampNeg) qS9.2).bind (fun qS12 => some ((), qS12.2))))))) else ((f_X5_enter fu x1 (((qS1.2.1 49) x2.toNatClampNeg) + 2) qS1.2).bind (fun qS15 => some ((), qS15.2))))) else (gd (in_b x1 (qS1.2.2.2 69)) (gd (in_b qS1.1 (qS1.2.2.2 66)) ((f_X5_send ((qS1.2.1 69) x1.toNatClampNeg) x2 4 ((qS1.2.2.1 66) qS1.1.toNatClampNeg) qS1.2).bind (fun qS18 => some ((), qS18.2)))))))))
theorem f_X5_endRound_m (fu : Nat) (x1 : Int32) (x2 : Int32) (S : im_S) : Mo (f_X5_endRound fu x1 x2 S) S := by
  unfold f_X5_endRound
  repeat' first | with_reducible exact Mo_none _ | with_reducible refine Mo_gd ?_ | with_reducible refine Mo_ite ?_ ?_ | with_reducible refine Mo_bind ?_ (fun q => ?_) | with_reducible refine Mo_some ?_ | with_reducible refine Mo_of (f_gr65_m _ _) ?_ | with_reducible refine Mo_of (f_gr66_m _ _) ?_ | with_reducible refine Mo_of (f_gr68_m _ _) ?_ | with_reducible refine Mo_of (f_gr69_m _ _) ?_ | with_reducible refine Mo_of (f_gr70_m _ _) ?_ | with_reducible refine Mo_of (f_gr71_m _ _) ?_ | with_reducible refine Mo_of (f_gr73_m _ _) ?_ | with_reducible refine Mo_of (f_gr74_m _ _) ?_ | with_reducible refine Mo_of (f_X0_clear_m _) ?_ | with_reducible refine Mo_of (f_X0_release_m _ _) ?_ | with_reducible refine Mo_of (f_X2_clear_m _) ?_ | with_reducible refine Mo_of (f_X2_outward_L5_m _ _ _ _ _ _ _) ?_ | with_reducible refine Mo_of (f_X2_outward_m _ _ _ _) ?_ | with_reducible refine Mo_of (f_X3_takesNumbers_L12_m _ _ _ _ _ _) ?_ | with_reducible refine Mo_of (f_X3_takesNumbers_m _ _ _) ?_ | with_reducible refine Mo_of (f_X5_condition_m _) ?_ | with_reducible refine Mo_of (f_X5_slotOf_m _ _ _) ?_ | with_reducible refine Mo_of (f_X5_makeReady_m _ _ _) ?_ | with_reducible refine Mo_of (f_X5_send_m _ _ _ _ _) ?_ | with_reducible refine Mo_of (f_X5_leaveFunction_m _) ?_ | with_reducible refine Mo_of (f_X5_turn_m _ _ _) ?_ | with_reducible refine Mo_of (f_X5_leastError_m _ _ _) ?_ | with_reducible refine Mo_of (f_X5_calculate_m _ _ _ _) ?_ | with_reducible refine Mo_of (f_X8_clear_m _) ?_ | with_reducible refine Mo_of (f_X8_put_m _ _ _ _) ?_ | with_reducible refine Mo_of (f_X8_tableOf_m _ _ _) ?_ | with_reducible refine Mo_of (f_X8_firstCell_m _ _) ?_ | with_reducible refine Mo_of (f_X8_cellsIn_m _ _) ?_ | with_reducible refine Mo_of (f_J9_floorMod_f86c9_m _ _ _) ?_ | with_reducible refine Mo_of (f_J7_rangeCheck_23922_m _ _ _ _) ?_ | with_reducible refine Mo_of (f_J7_fill_bad5a_L10_m _ _ _ _ _ _ _) ?_ | with_reducible refine Mo_of (f_J7_fill_bad5a_m _ _ _ _ _) ?_ | with_reducible refine Mo_of (f_J7_fill_eb02e_L10_m _ _ _ _ _ _ _) ?_ | with_reducible refine Mo_of (f_J7_fill_eb02e_m _ _ _ _ _) ?_ | with_reducible refine Mo_of (f_X5_settle_L15_m _ _ _ _ _ _ _ _) ?_ | with_reducible refine Mo_of (f_X5_settle_m _ _ _ _ _) ?_ | with_reducible refine Mo_of (f_X5_handIn_m _ _ _ _ _) ?_ | with_reducible refine Mo_of (f_X5_cellAt_m _ _ _) ?_ | with_reducible refine Mo_of (f_X5_operate_m _ _ _) ?_ | with_reducible refine Mo_of (f_X5_pickCell_m _ _ _) ?_ | with_reducible refine Mo_of (f_X0_add_m _ _ _) ?_ | with_reducible refine Mo_of (f_X2_add_m _ _ _ _) ?_ | with_reducible refine Mo_of (f_X8_take_m _ _ _) ?_ | with_reducible refine Mo_of (f_X5_openFrame_m _ _ _ _ _) ?_ | with_reducible refine Mo_of (f_X5_enter_L16_m _ _ _ _ _ _ _) ?_ | with_reducible refine Mo_of (f_X5_enter_m _ _ _ _) ?_ | with_reducible refine Mo_of (f_X5_await_m _ _ _ _) ?_ | with_reducible refine Mo_of (f_X5_lookUp_m _ _ _ _) ?_ | with_reducible refine Mo_of (f_X5_beginLoop_L52_m _ _ _ _ _ _ _ _ _) ?_ | with_reducible refine Mo_of (f_X5_beginLoop_m _ _ _ _) ?_ | with_reducible refine Mo_of (f_X5_visit_m _ _ _ _) ?_ | with_reducible refine Mo_of (f_X5_meet_m _ _) ?_ | with_reducible refine Mo_of (f_X5_move_m _ _) ?_ | with_reducible refine Mo_of (f_X5_flow_L2_m _ _ _ _) ?_ | with_reducible refine Mo_of (f_X5_flow_m _ _) ?_ | with_reducible refine Mo_of (f_X5_choose_m _ _ _ _) ?_ | with_reducible refine Mo_of (f_X5_enterFunction_L63_m _ _ _ _ _ _ _ _ _) ?_ | with_reducible refine Mo_of (f_X5_enterFunction_m _ _ _ _) ?_ | rfl
set_option maxHeartbeats 4000000 in
set_option maxRecDepth 100000 in
theorem f_X5_endRound_e (l : Launch) (g : im_G) (ad : Nat → Nat) (fu : Nat) (x1 : Int32) (x2 : Int32) (S : im_S) (r : Unit) (S' : im_S) (hm : f_X5_endRound fu x1 x2 S = some (r, S')) : im_EG gA l g ad 4 yX5_endRound cX5_endRound 6 none [.ref (ad 38), .int x1, .int x2] S none S' := by
  unfold f_X5_endRound at hm
  refine is_metG (own := RX5) (by decide +kernel) rfl (Nat.le_of_ble_eq_true rfl) (fun p e s m below meth c X ga bc bs b1 b2 => ?_)
  refine iv_aload_n (pc := 0) X dX5_endRound_0 rfl ?_
  refine iv_iload_n (pc := 1) X dX5_endRound_1 rfl ?_
  refine iv_aload_n (pc := 2) X dX5_endRound_2 rfl ?_
  refine gF_X5_12_38 (pc := 3) X dX5_endRound_3 ?_
  refine gF_X5_254_40 (pc := 6) X dX5_endRound_6 ?_
  refine iv_iload_n (pc := 9) X dX5_endRound_9 rfl ?_
  obtain ⟨hg, hm⟩ := gd_some hm
  refine aL_47 (pc := 10) X dX5_endRound_10 hg (x := (S.1 47) x2.toNatClampNeg) rfl ?_
  obtain ⟨⟨r2, S1⟩, hc3, hm⟩ := bd_some hm
  refine cV_X5_84_38 (pc := 11) X [.int x1, .int ((S.1 47) x2.toNatClampNeg)] [] 2 rfl (f_X5_slotOf_e l g (mx gA ad ga) x1 ((S.1 47) x2.toNatClampNeg) S _ _ hc3) (Nat.le_of_ble_eq_true rfl) (Nat.le_of_ble_eq_true rfl) (Nat.le_of_ble_eq_true rfl) rfl dX5_endRound_11 ?_
  have b1 := gb_step (mo_use hc3 (f_X5_slotOf_m x1 ((S.1 47) x2.toNatClampNeg) S)) b1
  have b2 := gb_step2 (mo_use hc3 (f_X5_slotOf_m x1 ((S.1 47) x2.toNatClampNeg) S)) b2
  refine iv_istore_n (pc := 14) X dX5_endRound_14 (by decide) (lv' := [(3, .int r2), (0, .ref (mx gA ad ga 38)), (1, .int x1), (2, .int x2)]) rfl ?_
  refine iv_aload_n (pc := 15) X dX5_endRound_15 rfl ?_
  refine gF_X5_12_38 (pc := 16) X dX5_endRound_16 ?_
  refine gF_X5_218_40 (pc := 19) X dX5_endRound_19 ?_
  refine iv_iload_n (pc := 22) X dX5_endRound_22 rfl ?_
  obtain ⟨hg, hm⟩ := gd_some hm
  refine aL_49 (pc := 23) X dX5_endRound_23 hg (x := (S1.1 49) x2.toNatClampNeg) rfl ?_
  refine iv_istore (pc := 24) X dX5_endRound_24 (by decide) (lv' := [(4, .int ((S1.1 49) x2.toNatClampNeg)), (3, .int r2), (0, .ref (mx gA ad ga 38)), (1, .int x1), (2, .int x2)]) rfl ?_
  refine iv_aload_n (pc := 26) X dX5_endRound_26 rfl ?_
  refine gF_X5_21_38 (pc := 27) X dX5_endRound_27 ?_
  refine gF_X5_211_64 (pc := 30) X dX5_endRound_30 ?_
  refine iv_iload_n (pc := 33) X dX5_endRound_33 rfl ?_
  obtain ⟨hg, hm⟩ := gd_some hm
  refine aL_65 (pc := 34) X dX5_endRound_34 hg (x := (S1.1 65) r2.toNatClampNeg) rfl ?_
  refine iv_iconst (pc := 35) X dX5_endRound_35 ic_4 ?_
  refine iv_icmp_ne (pc := 36) X dX5_endRound_36 (tgt := 66) rfl (fun hb4 => ?_) (fun hb4 => ?_)
  · rw [if_pos hb4] at hm
    refine iv_aload_n (pc := 66) X dX5_endRound_66 rfl ?_
    refine gF_X5_21_38 (pc := 67) X dX5_endRound_67 ?_
    refine gF_X5_160_64 (pc := 70) X dX5_endRound_70 ?_
    refine iv_iload_n (pc := 73) X dX5_endRound_73 rfl ?_
    obtain ⟨hg, hm⟩ := gd_some hm
    refine aL_66 (pc := 74) X dX5_endRound_74 hg (x := (S1.2.1 66) r2.toNatClampNeg) rfl ?_
    refine iv_lconst (pc := 75) X dX5_endRound_75 lc_0 ?_
    refine iv_lcmp (pc := 76) X dX5_endRound_76 ?_
    refine iv_if_ne (pc := 77) X dX5_endRound_77 (tgt := 92) rfl (fun hb5 => ?_) (fun hb5 => ?_)
    · rw [if_pos hb5] at hm
      refine iv_aload_n (pc := 92) X dX5_endRound_92 rfl ?_
      refine iv_iload (pc := 93) X dX5_endRound_93 rfl ?_
      refine iv_aload_n (pc := 95) X dX5_endRound_95 rfl ?_
      refine gF_X5_28_38 (pc := 96) X dX5_endRound_96 ?_
      refine gF_X5_242_67 (pc := 99) X dX5_endRound_99 ?_
      refine iv_iload_n (pc := 102) X dX5_endRound_102 rfl ?_
      obtain ⟨hg, hm⟩ := gd_some hm
      refine aL_69 (pc := 103) X dX5_endRound_103 hg (x := (S1.1 69) x1.toNatClampNeg) rfl ?_
      refine iv_iload_n (pc := 104) X dX5_endRound_104 rfl ?_
      obtain ⟨⟨r7, S6⟩, hc8, hm⟩ := bd_some hm
      have m2 := mo_use (S := S6) hm (by repeat' first | with_reducible exact Mo_none _ | with_reducible refine Mo_gd ?_ | with_reducible refine Mo_ite ?_ ?_ | with_reducible refine Mo_bind ?_ (fun q => ?_) | with_reducible refine Mo_some ?_ | with_reducible refine Mo_of (f_gr65_m _ _) ?_ | with_reducible refine Mo_of (f_gr66_m _ _) ?_ | with_reducible refine Mo_of (f_gr68_m _ _) ?_ | with_reducible refine Mo_of (f_gr69_m _ _) ?_ | with_reducible refine Mo_of (f_gr70_m _ _) ?_ | with_reducible refine Mo_of (f_gr71_m _ _) ?_ | with_reducible refine Mo_of (f_gr73_m _ _) ?_ | with_reducible refine Mo_of (f_gr74_m _ _) ?_ | with_reducible refine Mo_of (f_X0_clear_m _) ?_ | with_reducible refine Mo_of (f_X0_release_m _ _) ?_ | with_reducible refine Mo_of (f_X2_clear_m _) ?_ | with_reducible refine Mo_of (f_X2_outward_L5_m _ _ _ _ _ _ _) ?_ | with_reducible refine Mo_of (f_X2_outward_m _ _ _ _) ?_ | with_reducible refine Mo_of (f_X3_takesNumbers_L12_m _ _ _ _ _ _) ?_ | with_reducible refine Mo_of (f_X3_takesNumbers_m _ _ _) ?_ | with_reducible refine Mo_of (f_X5_condition_m _) ?_ | with_reducible refine Mo_of (f_X5_slotOf_m _ _ _) ?_ | with_reducible refine Mo_of (f_X5_makeReady_m _ _ _) ?_ | with_reducible refine Mo_of (f_X5_send_m _ _ _ _ _) ?_ | with_reducible refine Mo_of (f_X5_leaveFunction_m _) ?_ | with_reducible refine Mo_of (f_X5_turn_m _ _ _) ?_ | with_reducible refine Mo_of (f_X5_leastError_m _ _ _) ?_ | with_reducible refine Mo_of (f_X5_calculate_m _ _ _ _) ?_ | with_reducible refine Mo_of (f_X8_clear_m _) ?_ | with_reducible refine Mo_of (f_X8_put_m _ _ _ _) ?_ | with_reducible refine Mo_of (f_X8_tableOf_m _ _ _) ?_ | with_reducible refine Mo_of (f_X8_firstCell_m _ _) ?_ | with_reducible refine Mo_of (f_X8_cellsIn_m _ _) ?_ | with_reducible refine Mo_of (f_J9_floorMod_f86c9_m _ _ _) ?_ | with_reducible refine Mo_of (f_J7_rangeCheck_23922_m _ _ _ _) ?_ | with_reducible refine Mo_of (f_J7_fill_bad5a_L10_m _ _ _ _ _ _ _) ?_ | with_reducible refine Mo_of (f_J7_fill_bad5a_m _ _ _ _ _) ?_ | with_reducible refine Mo_of (f_J7_fill_eb02e_L10_m _ _ _ _ _ _ _) ?_ | with_reducible refine Mo_of (f_J7_fill_eb02e_m _ _ _ _ _) ?_ | with_reducible refine Mo_of (f_X5_settle_L15_m _ _ _ _ _ _ _ _) ?_ | with_reducible refine Mo_of (f_X5_settle_m _ _ _ _ _) ?_ | with_reducible refine Mo_of (f_X5_handIn_m _ _ _ _ _) ?_ | with_reducible refine Mo_of (f_X5_cellAt_m _ _ _) ?_ | with_reducible refine Mo_of (f_X5_operate_m _ _ _) ?_ | with_reducible refine Mo_of (f_X5_pickCell_m _ _ _) ?_ | with_reducible refine Mo_of (f_X0_add_m _ _ _) ?_ | with_reducible refine Mo_of (f_X2_add_m _ _ _ _) ?_ | with_reducible refine Mo_of (f_X8_take_m _ _ _) ?_ | with_reducible refine Mo_of (f_X5_openFrame_m _ _ _ _ _) ?_ | with_reducible refine Mo_of (f_X5_enter_L16_m _ _ _ _ _ _ _) ?_ | with_reducible refine Mo_of (f_X5_enter_m _ _ _ _) ?_ | with_reducible refine Mo_of (f_X5_await_m _ _ _ _) ?_ | with_reducible refine Mo_of (f_X5_lookUp_m _ _ _ _) ?_ | with_reducible refine Mo_of (f_X5_beginLoop_L52_m _ _ _ _ _ _ _ _ _) ?_ | with_reducible refine Mo_of (f_X5_beginLoop_m _ _ _ _) ?_ | with_reducible refine Mo_of (f_X5_visit_m _ _ _ _) ?_ | with_reducible refine Mo_of (f_X5_meet_m _ _) ?_ | with_reducible refine Mo_of (f_X5_move_m _ _) ?_ | with_reducible refine Mo_of (f_X5_flow_L2_m _ _ _ _) ?_ | with_reducible refine Mo_of (f_X5_flow_m _ _) ?_ | with_reducible refine Mo_of (f_X5_choose_m _ _ _ _) ?_ | with_reducible refine Mo_of (f_X5_enterFunction_L63_m _ _ _ _ _ _ _ _ _) ?_ | with_reducible refine Mo_of (f_X5_enterFunction_m _ _ _ _) ?_ | with_reducible refine Mo_of (f_X5_endRound_m _ _ _ _) ?_ | rfl)
      refine cG_X5_77_38_gA (pc := 105) X [.int ((S1.1 49) x2.toNatClampNeg), .int ((S1.1 69) x1.toNatClampNeg), .int x2] [] 3 rfl (f_X5_openFrame_e l g (mx gA ad ga) fu ((S1.1 49) x2.toNatClampNeg) ((S1.1 69) x1.toNatClampNeg) x2 S1 _ _ hc8) (Nat.le_of_ble_eq_true rfl) (Nat.le_of_ble_eq_true rfl) (Nat.le_of_ble_eq_true rfl) rfl dX5_endRound_105 (mo_use hc8 (f_X5_openFrame_m fu ((S1.1 49) x2.toNatClampNeg) ((S1.1 69) x1.toNatClampNeg) x2 S1)) m2 b1 b2 (fun ga bc bs b1 b2 => ?_)
      refine iv_istore (pc := 108) X dX5_endRound_108 (by decide) (lv' := [(5, .int r7), (4, .int ((S1.1 49) x2.toNatClampNeg)), (3, .int r2), (0, .ref (mx gA ad ga 38)), (1, .int x1), (2, .int x2)]) rfl ?_
      refine iv_aload_n (pc := 110) X dX5_endRound_110 rfl ?_
      refine gF_X5_28_38 (pc := 111) X dX5_endRound_111 ?_
      refine gF_X5_239_67 (pc := 114) X dX5_endRound_114 ?_
      refine iv_iload_n (pc := 117) X dX5_endRound_117 rfl ?_
      refine iv_iload (pc := 118) X dX5_endRound_118 rfl ?_
      obtain ⟨hg, hm⟩ := gd_some hm
      refine aS_71 (pc := 120) X dX5_endRound_120 hg ?_
      refine iv_aload_n (pc := 121) X dX5_endRound_121 rfl ?_
      refine iv_iload_n (pc := 122) X dX5_endRound_122 rfl ?_
      refine iv_iload (pc := 123) X dX5_endRound_123 rfl ?_
      refine iv_iconst (pc := 125) X dX5_endRound_125 ic_1 ?_
      refine iv_iadd (pc := 126) X dX5_endRound_126 ?_
      obtain ⟨⟨r10, S9⟩, hc11, hm⟩ := bd_some hm
      have m2 := mo_use (S := S9) hm (by repeat' first | with_reducible exact Mo_none _ | with_reducible refine Mo_gd ?_ | with_reducible refine Mo_ite ?_ ?_ | with_reducible refine Mo_bind ?_ (fun q => ?_) | with_reducible refine Mo_some ?_ | with_reducible refine Mo_of (f_gr65_m _ _) ?_ | with_reducible refine Mo_of (f_gr66_m _ _) ?_ | with_reducible refine Mo_of (f_gr68_m _ _) ?_ | with_reducible refine Mo_of (f_gr69_m _ _) ?_ | with_reducible refine Mo_of (f_gr70_m _ _) ?_ | with_reducible refine Mo_of (f_gr71_m _ _) ?_ | with_reducible refine Mo_of (f_gr73_m _ _) ?_ | with_reducible refine Mo_of (f_gr74_m _ _) ?_ | with_reducible refine Mo_of (f_X0_clear_m _) ?_ | with_reducible refine Mo_of (f_X0_release_m _ _) ?_ | with_reducible refine Mo_of (f_X2_clear_m _) ?_ | with_reducible refine Mo_of (f_X2_outward_L5_m _ _ _ _ _ _ _) ?_ | with_reducible refine Mo_of (f_X2_outward_m _ _ _ _) ?_ | with_reducible refine Mo_of (f_X3_takesNumbers_L12_m _ _ _ _ _ _) ?_ | with_reducible refine Mo_of (f_X3_takesNumbers_m _ _ _) ?_ | with_reducible refine Mo_of (f_X5_condition_m _) ?_ | with_reducible refine Mo_of (f_X5_slotOf_m _ _ _) ?_ | with_reducible refine Mo_of (f_X5_makeReady_m _ _ _) ?_ | with_reducible refine Mo_of (f_X5_send_m _ _ _ _ _) ?_ | with_reducible refine Mo_of (f_X5_leaveFunction_m _) ?_ | with_reducible refine Mo_of (f_X5_turn_m _ _ _) ?_ | with_reducible refine Mo_of (f_X5_leastError_m _ _ _) ?_ | with_reducible refine Mo_of (f_X5_calculate_m _ _ _ _) ?_ | with_reducible refine Mo_of (f_X8_clear_m _) ?_ | with_reducible refine Mo_of (f_X8_put_m _ _ _ _) ?_ | with_reducible refine Mo_of (f_X8_tableOf_m _ _ _) ?_ | with_reducible refine Mo_of (f_X8_firstCell_m _ _) ?_ | with_reducible refine Mo_of (f_X8_cellsIn_m _ _) ?_ | with_reducible refine Mo_of (f_J9_floorMod_f86c9_m _ _ _) ?_ | with_reducible refine Mo_of (f_J7_rangeCheck_23922_m _ _ _ _) ?_ | with_reducible refine Mo_of (f_J7_fill_bad5a_L10_m _ _ _ _ _ _ _) ?_ | with_reducible refine Mo_of (f_J7_fill_bad5a_m _ _ _ _ _) ?_ | with_reducible refine Mo_of (f_J7_fill_eb02e_L10_m _ _ _ _ _ _ _) ?_ | with_reducible refine Mo_of (f_J7_fill_eb02e_m _ _ _ _ _) ?_ | with_reducible refine Mo_of (f_X5_settle_L15_m _ _ _ _ _ _ _ _) ?_ | with_reducible refine Mo_of (f_X5_settle_m _ _ _ _ _) ?_ | with_reducible refine Mo_of (f_X5_handIn_m _ _ _ _ _) ?_ | with_reducible refine Mo_of (f_X5_cellAt_m _ _ _) ?_ | with_reducible refine Mo_of (f_X5_operate_m _ _ _) ?_ | with_reducible refine Mo_of (f_X5_pickCell_m _ _ _) ?_ | with_reducible refine Mo_of (f_X0_add_m _ _ _) ?_ | with_reducible refine Mo_of (f_X2_add_m _ _ _ _) ?_ | with_reducible refine Mo_of (f_X8_take_m _ _ _) ?_ | with_reducible refine Mo_of (f_X5_openFrame_m _ _ _ _ _) ?_ | with_reducible refine Mo_of (f_X5_enter_L16_m _ _ _ _ _ _ _) ?_ | with_reducible refine Mo_of (f_X5_enter_m _ _ _ _) ?_ | with_reducible refine Mo_of (f_X5_await_m _ _ _ _) ?_ | with_reducible refine Mo_of (f_X5_lookUp_m _ _ _ _) ?_ | with_reducible refine Mo_of (f_X5_beginLoop_L52_m _ _ _ _ _ _ _ _ _) ?_ | with_reducible refine Mo_of (f_X5_beginLoop_m _ _ _ _) ?_ | with_reducible refine Mo_of (f_X5_visit_m _ _ _ _) ?_ | with_reducible refine Mo_of (f_X5_meet_m _ _) ?_ | with_reducible refine Mo_of (f_X5_move_m _ _) ?_ | with_reducible refine Mo_of (f_X5_flow_L2_m _ _ _ _) ?_ | with_reducible refine Mo_of (f_X5_flow_m _ _) ?_ | with_reducible refine Mo_of (f_X5_choose_m _ _ _ _) ?_ | with_reducible refine Mo_of (f_X5_enterFunction_L63_m _ _ _ _ _ _ _ _ _) ?_ | with_reducible refine Mo_of (f_X5_enterFunction_m _ _ _ _) ?_ | with_reducible refine Mo_of (f_X5_endRound_m _ _ _ _) ?_ | rfl)
      refine cG_X5_95_38_gA (pc := 127) X [.int x1, .int (((S1.1 49) x2.toNatClampNeg) + 1)] [] 2 rfl (f_X5_enter_e l g (mx gA ad ga) fu x1 (((S1.1 49) x2.toNatClampNeg) + 1) (uI S6 71 x1.toNatClampNeg r7) _ _ hc11) (Nat.le_of_ble_eq_true rfl) (Nat.le_of_ble_eq_true rfl) (Nat.le_of_ble_eq_true rfl) rfl dX5_endRound_127 (mo_use hc11 (f_X5_enter_m fu x1 (((S1.1 49) x2.toNatClampNeg) + 1) (uI S6 71 x1.toNatClampNeg r7))) m2 b1 b2 (fun ga bc bs b1 b2 => ?_)
      refine iv_aload_n (pc := 130) X dX5_endRound_130 rfl ?_
      refine iv_iload (pc := 131) X dX5_endRound_131 rfl ?_
      refine iv_iload (pc := 133) X dX5_endRound_133 rfl ?_
      obtain ⟨⟨r13, S12⟩, hc14, hm⟩ := bd_some hm
      have m2 := mo_use (S := S12) hm (by repeat' first | with_reducible exact Mo_none _ | with_reducible refine Mo_gd ?_ | with_reducible refine Mo_ite ?_ ?_ | with_reducible refine Mo_bind ?_ (fun q => ?_) | with_reducible refine Mo_some ?_ | with_reducible refine Mo_of (f_gr65_m _ _) ?_ | with_reducible refine Mo_of (f_gr66_m _ _) ?_ | with_reducible refine Mo_of (f_gr68_m _ _) ?_ | with_reducible refine Mo_of (f_gr69_m _ _) ?_ | with_reducible refine Mo_of (f_gr70_m _ _) ?_ | with_reducible refine Mo_of (f_gr71_m _ _) ?_ | with_reducible refine Mo_of (f_gr73_m _ _) ?_ | with_reducible refine Mo_of (f_gr74_m _ _) ?_ | with_reducible refine Mo_of (f_X0_clear_m _) ?_ | with_reducible refine Mo_of (f_X0_release_m _ _) ?_ | with_reducible refine Mo_of (f_X2_clear_m _) ?_ | with_reducible refine Mo_of (f_X2_outward_L5_m _ _ _ _ _ _ _) ?_ | with_reducible refine Mo_of (f_X2_outward_m _ _ _ _) ?_ | with_reducible refine Mo_of (f_X3_takesNumbers_L12_m _ _ _ _ _ _) ?_ | with_reducible refine Mo_of (f_X3_takesNumbers_m _ _ _) ?_ | with_reducible refine Mo_of (f_X5_condition_m _) ?_ | with_reducible refine Mo_of (f_X5_slotOf_m _ _ _) ?_ | with_reducible refine Mo_of (f_X5_makeReady_m _ _ _) ?_ | with_reducible refine Mo_of (f_X5_send_m _ _ _ _ _) ?_ | with_reducible refine Mo_of (f_X5_leaveFunction_m _) ?_ | with_reducible refine Mo_of (f_X5_turn_m _ _ _) ?_ | with_reducible refine Mo_of (f_X5_leastError_m _ _ _) ?_ | with_reducible refine Mo_of (f_X5_calculate_m _ _ _ _) ?_ | with_reducible refine Mo_of (f_X8_clear_m _) ?_ | with_reducible refine Mo_of (f_X8_put_m _ _ _ _) ?_ | with_reducible refine Mo_of (f_X8_tableOf_m _ _ _) ?_ | with_reducible refine Mo_of (f_X8_firstCell_m _ _) ?_ | with_reducible refine Mo_of (f_X8_cellsIn_m _ _) ?_ | with_reducible refine Mo_of (f_J9_floorMod_f86c9_m _ _ _) ?_ | with_reducible refine Mo_of (f_J7_rangeCheck_23922_m _ _ _ _) ?_ | with_reducible refine Mo_of (f_J7_fill_bad5a_L10_m _ _ _ _ _ _ _) ?_ | with_reducible refine Mo_of (f_J7_fill_bad5a_m _ _ _ _ _) ?_ | with_reducible refine Mo_of (f_J7_fill_eb02e_L10_m _ _ _ _ _ _ _) ?_ | with_reducible refine Mo_of (f_J7_fill_eb02e_m _ _ _ _ _) ?_ | with_reducible refine Mo_of (f_X5_settle_L15_m _ _ _ _ _ _ _ _) ?_ | with_reducible refine Mo_of (f_X5_settle_m _ _ _ _ _) ?_ | with_reducible refine Mo_of (f_X5_handIn_m _ _ _ _ _) ?_ | with_reducible refine Mo_of (f_X5_cellAt_m _ _ _) ?_ | with_reducible refine Mo_of (f_X5_operate_m _ _ _) ?_ | with_reducible refine Mo_of (f_X5_pickCell_m _ _ _) ?_ | with_reducible refine Mo_of (f_X0_add_m _ _ _) ?_ | with_reducible refine Mo_of (f_X2_add_m _ _ _ _) ?_ | with_reducible refine Mo_of (f_X8_take_m _ _ _) ?_ | with_reducible refine Mo_of (f_X5_openFrame_m _ _ _ _ _) ?_ | with_reducible refine Mo_of (f_X5_enter_L16_m _ _ _ _ _ _ _) ?_ | with_reducible refine Mo_of (f_X5_enter_m _ _ _ _) ?_ | with_reducible refine Mo_of (f_X5_await_m _ _ _ _) ?_ | with_reducible refine Mo_of (f_X5_lookUp_m _ _ _ _) ?_ | with_reducible refine Mo_of (f_X5_beginLoop_L52_m _ _ _ _ _ _ _ _ _) ?_ | with_reducible refine Mo_of (f_X5_beginLoop_m _ _ _ _) ?_ | with_reducible refine Mo_of (f_X5_visit_m _ _ _ _) ?_ | with_reducible refine Mo_of (f_X5_meet_m _ _) ?_ | with_reducible refine Mo_of (f_X5_move_m _ _) ?_ | with_reducible refine Mo_of (f_X5_flow_L2_m _ _ _ _) ?_ | with_reducible refine Mo_of (f_X5_flow_m _ _) ?_ | with_reducible refine Mo_of (f_X5_choose_m _ _ _ _) ?_ | with_reducible refine Mo_of (f_X5_enterFunction_L63_m _ _ _ _ _ _ _ _ _) ?_ | with_reducible refine Mo_of (f_X5_enterFunction_m _ _ _ _) ?_ | with_reducible refine Mo_of (f_X5_endRound_m _ _ _ _) ?_ | rfl)
      refine cG_X5_95_38_gA (pc := 135) X [.int r7, .int ((S1.1 49) x2.toNatClampNeg)] [] 2 rfl (f_X5_enter_e l g (mx gA ad ga) fu r7 ((S1.1 49) x2.toNatClampNeg) S9 _ _ hc14) (Nat.le_of_ble_eq_true rfl) (Nat.le_of_ble_eq_true rfl) (Nat.le_of_ble_eq_true rfl) rfl dX5_endRound_135 (mo_use hc14 (f_X5_enter_m fu r7 ((S1.1 49) x2.toNatClampNeg) S9)) m2 b1 b2 (fun ga bc bs b1 b2 => ?_)
      cases hm
      exact is_vretG (pc := 138) X dX5_endRound_138
    · rw [if_neg hb5] at hm
      refine iv_aload_n (pc := 80) X dX5_endRound_80 rfl ?_
      refine iv_iload_n (pc := 81) X dX5_endRound_81 rfl ?_
      refine iv_iload (pc := 82) X dX5_endRound_82 rfl ?_
      refine iv_iconst (pc := 84) X dX5_endRound_84 ic_2 ?_
      refine iv_iadd (pc := 85) X dX5_endRound_85 ?_
      obtain ⟨⟨r16, S15⟩, hc17, hm⟩ := bd_some hm
      have m2 := mo_use (S := S15) hm (by repeat' first | with_reducible exact Mo_none _ | with_reducible refine Mo_gd ?_ | with_reducible refine Mo_ite ?_ ?_ | with_reducible refine Mo_bind ?_ (fun q => ?_) | with_reducible refine Mo_some ?_ | with_reducible refine Mo_of (f_gr65_m _ _) ?_ | with_reducible refine Mo_of (f_gr66_m _ _) ?_ | with_reducible refine Mo_of (f_gr68_m _ _) ?_ | with_reducible refine Mo_of (f_gr69_m _ _) ?_ | with_reducible refine Mo_of (f_gr70_m _ _) ?_ | with_reducible refine Mo_of (f_gr71_m _ _) ?_ | with_reducible refine Mo_of (f_gr73_m _ _) ?_ | with_reducible refine Mo_of (f_gr74_m _ _) ?_ | with_reducible refine Mo_of (f_X0_clear_m _) ?_ | with_reducible refine Mo_of (f_X0_release_m _ _) ?_ | with_reducible refine Mo_of (f_X2_clear_m _) ?_ | with_reducible refine Mo_of (f_X2_outward_L5_m _ _ _ _ _ _ _) ?_ | with_reducible refine Mo_of (f_X2_outward_m _ _ _ _) ?_ | with_reducible refine Mo_of (f_X3_takesNumbers_L12_m _ _ _ _ _ _) ?_ | with_reducible refine Mo_of (f_X3_takesNumbers_m _ _ _) ?_ | with_reducible refine Mo_of (f_X5_condition_m _) ?_ | with_reducible refine Mo_of (f_X5_slotOf_m _ _ _) ?_ | with_reducible refine Mo_of (f_X5_makeReady_m _ _ _) ?_ | with_reducible refine Mo_of (f_X5_send_m _ _ _ _ _) ?_ | with_reducible refine Mo_of (f_X5_leaveFunction_m _) ?_ | with_reducible refine Mo_of (f_X5_turn_m _ _ _) ?_ | with_reducible refine Mo_of (f_X5_leastError_m _ _ _) ?_ | with_reducible refine Mo_of (f_X5_calculate_m _ _ _ _) ?_ | with_reducible refine Mo_of (f_X8_clear_m _) ?_ | with_reducible refine Mo_of (f_X8_put_m _ _ _ _) ?_ | with_reducible refine Mo_of (f_X8_tableOf_m _ _ _) ?_ | with_reducible refine Mo_of (f_X8_firstCell_m _ _) ?_ | with_reducible refine Mo_of (f_X8_cellsIn_m _ _) ?_ | with_reducible refine Mo_of (f_J9_floorMod_f86c9_m _ _ _) ?_ | with_reducible refine Mo_of (f_J7_rangeCheck_23922_m _ _ _ _) ?_ | with_reducible refine Mo_of (f_J7_fill_bad5a_L10_m _ _ _ _ _ _ _) ?_ | with_reducible refine Mo_of (f_J7_fill_bad5a_m _ _ _ _ _) ?_ | with_reducible refine Mo_of (f_J7_fill_eb02e_L10_m _ _ _ _ _ _ _) ?_ | with_reducible refine Mo_of (f_J7_fill_eb02e_m _ _ _ _ _) ?_ | with_reducible refine Mo_of (f_X5_settle_L15_m _ _ _ _ _ _ _ _) ?_ | with_reducible refine Mo_of (f_X5_settle_m _ _ _ _ _) ?_ | with_reducible refine Mo_of (f_X5_handIn_m _ _ _ _ _) ?_ | with_reducible refine Mo_of (f_X5_cellAt_m _ _ _) ?_ | with_reducible refine Mo_of (f_X5_operate_m _ _ _) ?_ | with_reducible refine Mo_of (f_X5_pickCell_m _ _ _) ?_ | with_reducible refine Mo_of (f_X0_add_m _ _ _) ?_ | with_reducible refine Mo_of (f_X2_add_m _ _ _ _) ?_ | with_reducible refine Mo_of (f_X8_take_m _ _ _) ?_ | with_reducible refine Mo_of (f_X5_openFrame_m _ _ _ _ _) ?_ | with_reducible refine Mo_of (f_X5_enter_L16_m _ _ _ _ _ _ _) ?_ | with_reducible refine Mo_of (f_X5_enter_m _ _ _ _) ?_ | with_reducible refine Mo_of (f_X5_await_m _ _ _ _) ?_ | with_reducible refine Mo_of (f_X5_lookUp_m _ _ _ _) ?_ | with_reducible refine Mo_of (f_X5_beginLoop_L52_m _ _ _ _ _ _ _ _ _) ?_ | with_reducible refine Mo_of (f_X5_beginLoop_m _ _ _ _) ?_ | with_reducible refine Mo_of (f_X5_visit_m _ _ _ _) ?_ | with_reducible refine Mo_of (f_X5_meet_m _ _) ?_ | with_reducible refine Mo_of (f_X5_move_m _ _) ?_ | with_reducible refine Mo_of (f_X5_flow_L2_m _ _ _ _) ?_ | with_reducible refine Mo_of (f_X5_flow_m _ _) ?_ | with_reducible refine Mo_of (f_X5_choose_m _ _ _ _) ?_ | with_reducible refine Mo_of (f_X5_enterFunction_L63_m _ _ _ _ _ _ _ _ _) ?_ | with_reducible refine Mo_of (f_X5_enterFunction_m _ _ _ _) ?_ | with_reducible refine Mo_of (f_X5_endRound_m _ _ _ _) ?_ | rfl)
      refine cG_X5_95_38_gA (pc := 86) X [.int x1, .int (((S1.1 49) x2.toNatClampNeg) + 2)] [] 2 rfl (f_X5_enter_e l g (mx gA ad ga) fu x1 (((S1.1 49) x2.toNatClampNeg) + 2) S1 _ _ hc17) (Nat.le_of_ble_eq_true rfl) (Nat.le_of_ble_eq_true rfl) (Nat.le_of_ble_eq_true rfl) rfl dX5_endRound_86 (mo_use hc17 (f_X5_enter_m fu x1 (((S1.1 49) x2.toNatClampNeg) + 2) S1)) m2 b1 b2 (fun ga bc bs b1 b2 => ?_)
      refine iv_goto (pc := 89) X dX5_endRound_89 (tgt := 138) rfl ?_
      cases hm
      exact is_vretG (pc := 138) X dX5_endRound_138
  · rw [if_neg hb4] at hm
    refine iv_aload_n (pc := 39) X dX5_endRound_39 rfl ?_
    refine iv_aload_n (pc := 40) X dX5_endRound_40 rfl ?_
    refine gF_X5_28_38 (pc := 41) X dX5_endRound_41 ?_
    refine gF_X5_242_67 (pc := 44) X dX5_endRound_44 ?_
    refine iv_iload_n (pc := 47) X dX5_endRound_47 rfl ?_
    obtain ⟨hg, hm⟩ := gd_some hm
    refine aL_69 (pc := 48) X dX5_endRound_48 hg (x := (S1.1 69) x1.toNatClampNeg) rfl ?_
    refine iv_iload_n (pc := 49) X dX5_endRound_49 rfl ?_
    refine iv_iconst (pc := 50) X dX5_endRound_50 ic_4 ?_
    refine iv_aload_n (pc := 51) X dX5_endRound_51 rfl ?_
    refine gF_X5_21_38 (pc := 52) X dX5_endRound_52 ?_
    refine gF_X5_160_64 (pc := 55) X dX5_endRound_55 ?_
    refine iv_iload_n (pc := 58) X dX5_endRound_58 rfl ?_
    obtain ⟨hg, hm⟩ := gd_some hm
    refine aL_66 (pc := 59) X dX5_endRound_59 hg (x := (S1.2.1 66) r2.toNatClampNeg) rfl ?_
    obtain ⟨⟨r19, S18⟩, hc20, hm⟩ := bd_some hm
    refine cV_X5_188_38 (pc := 60) X [.int ((S1.1 69) x1.toNatClampNeg), .int x2, .int 4, .long ((S1.2.1 66) r2.toNatClampNeg)] [] 4 rfl (f_X5_send_e l g (mx gA ad ga) ((S1.1 69) x1.toNatClampNeg) x2 4 ((S1.2.1 66) r2.toNatClampNeg) S1 _ _ hc20) (Nat.le_of_ble_eq_true rfl) (Nat.le_of_ble_eq_true rfl) (Nat.le_of_ble_eq_true rfl) rfl dX5_endRound_60 ?_
    have b1 := gb_step (mo_use hc20 (f_X5_send_m ((S1.1 69) x1.toNatClampNeg) x2 4 ((S1.2.1 66) r2.toNatClampNeg) S1)) b1
    have b2 := gb_step2 (mo_use hc20 (f_X5_send_m ((S1.1 69) x1.toNatClampNeg) x2 4 ((S1.2.1 66) r2.toNatClampNeg) S1)) b2
    refine iv_goto (pc := 63) X dX5_endRound_63 (tgt := 138) rfl ?_
    cases hm
    exact is_vretG (pc := 138) X dX5_endRound_138
def f_X5_makeTable_L114 (fu : Nat) : Nat → Int32 → Int32 → Int32 → Int64 → Int32 → Int32 → Int32 → im_S → Option (Unit × im_S)
  | 0, _, _, _, _, _, _, _, _ => none
  | nf + 1, z1, z2, z3, z4, z6, z7, z8, S => if (0 : Int32) ≤ (lg_cmp z8.toInt64 z4) then ((f_X8_tableOf z6 z4.toInt32 S).bind (fun qS2 => (f_X5_send z1 z2 3 qS2.1 qS2.2).bind (fun qS5 => some ((), qS5.2)))) else (gd (in_b z2 512) ((f_X5_openFrame fu ((S.1 49) z2.toNatClampNeg) z1 (z6 + z8) S).bind (fun qS8 => (f_X5_makeReady qS8.1 z7 qS8.2).bind (fun qS11 => f_X5_makeTable_L114 fu nf z1 z2 z3 z4 z6 z7 (z8 + 1) qS11.2))))
theorem f_X5_makeTable_L114_m (fu : Nat) : ∀ (nf : Nat) (z1 : Int32) (z2 : Int32) (z3 : Int32) (z4 : Int64) (z6 : Int32) (z7 : Int32) (z8 : Int32) (S : im_S), Mo (f_X5_makeTable_L114 fu nf z1 z2 z3 z4 z6 z7 z8 S) S := by
  intro nf
  induction nf with
  | zero => intro z1 z2 z3 z4 z6 z7 z8 S; exact Mo_none _
  | succ nf ih =>
    intro z1 z2 z3 z4 z6 z7 z8 S
    unfold f_X5_makeTable_L114
    repeat' first | with_reducible exact Mo_none _ | with_reducible refine Mo_gd ?_ | with_reducible refine Mo_ite ?_ ?_ | with_reducible refine Mo_bind ?_ (fun q => ?_) | with_reducible refine Mo_some ?_ | with_reducible refine Mo_of (ih _ _ _ _ _ _ _ _) ?_ | with_reducible refine Mo_of (f_gr65_m _ _) ?_ | with_reducible refine Mo_of (f_gr66_m _ _) ?_ | with_reducible refine Mo_of (f_gr68_m _ _) ?_ | with_reducible refine Mo_of (f_gr69_m _ _) ?_ | with_reducible refine Mo_of (f_gr70_m _ _) ?_ | with_reducible refine Mo_of (f_gr71_m _ _) ?_ | with_reducible refine Mo_of (f_gr73_m _ _) ?_ | with_reducible refine Mo_of (f_gr74_m _ _) ?_ | with_reducible refine Mo_of (f_X0_clear_m _) ?_ | with_reducible refine Mo_of (f_X0_release_m _ _) ?_ | with_reducible refine Mo_of (f_X2_clear_m _) ?_ | with_reducible refine Mo_of (f_X2_outward_L5_m _ _ _ _ _ _ _) ?_ | with_reducible refine Mo_of (f_X2_outward_m _ _ _ _) ?_ | with_reducible refine Mo_of (f_X3_takesNumbers_L12_m _ _ _ _ _ _) ?_ | with_reducible refine Mo_of (f_X3_takesNumbers_m _ _ _) ?_ | with_reducible refine Mo_of (f_X5_condition_m _) ?_ | with_reducible refine Mo_of (f_X5_slotOf_m _ _ _) ?_ | with_reducible refine Mo_of (f_X5_makeReady_m _ _ _) ?_ | with_reducible refine Mo_of (f_X5_send_m _ _ _ _ _) ?_ | with_reducible refine Mo_of (f_X5_leaveFunction_m _) ?_ | with_reducible refine Mo_of (f_X5_turn_m _ _ _) ?_ | with_reducible refine Mo_of (f_X5_leastError_m _ _ _) ?_ | with_reducible refine Mo_of (f_X5_calculate_m _ _ _ _) ?_ | with_reducible refine Mo_of (f_X8_clear_m _) ?_ | with_reducible refine Mo_of (f_X8_put_m _ _ _ _) ?_ | with_reducible refine Mo_of (f_X8_tableOf_m _ _ _) ?_ | with_reducible refine Mo_of (f_X8_firstCell_m _ _) ?_ | with_reducible refine Mo_of (f_X8_cellsIn_m _ _) ?_ | with_reducible refine Mo_of (f_J9_floorMod_f86c9_m _ _ _) ?_ | with_reducible refine Mo_of (f_J7_rangeCheck_23922_m _ _ _ _) ?_ | with_reducible refine Mo_of (f_J7_fill_bad5a_L10_m _ _ _ _ _ _ _) ?_ | with_reducible refine Mo_of (f_J7_fill_bad5a_m _ _ _ _ _) ?_ | with_reducible refine Mo_of (f_J7_fill_eb02e_L10_m _ _ _ _ _ _ _) ?_ | with_reducible refine Mo_of (f_J7_fill_eb02e_m _ _ _ _ _) ?_ | with_reducible refine Mo_of (f_X5_settle_L15_m _ _ _ _ _ _ _ _) ?_ | with_reducible refine Mo_of (f_X5_settle_m _ _ _ _ _) ?_ | with_reducible refine Mo_of (f_X5_handIn_m _ _ _ _ _) ?_ | with_reducible refine Mo_of (f_X5_cellAt_m _ _ _) ?_ | with_reducible refine Mo_of (f_X5_operate_m _ _ _) ?_ | with_reducible refine Mo_of (f_X5_pickCell_m _ _ _) ?_ | with_reducible refine Mo_of (f_X0_add_m _ _ _) ?_ | with_reducible refine Mo_of (f_X2_add_m _ _ _ _) ?_ | with_reducible refine Mo_of (f_X8_take_m _ _ _) ?_ | with_reducible refine Mo_of (f_X5_openFrame_m _ _ _ _ _) ?_ | with_reducible refine Mo_of (f_X5_enter_L16_m _ _ _ _ _ _ _) ?_ | with_reducible refine Mo_of (f_X5_enter_m _ _ _ _) ?_ | with_reducible refine Mo_of (f_X5_await_m _ _ _ _) ?_ | with_reducible refine Mo_of (f_X5_lookUp_m _ _ _ _) ?_ | with_reducible refine Mo_of (f_X5_beginLoop_L52_m _ _ _ _ _ _ _ _ _) ?_ | with_reducible refine Mo_of (f_X5_beginLoop_m _ _ _ _) ?_ | with_reducible refine Mo_of (f_X5_visit_m _ _ _ _) ?_ | with_reducible refine Mo_of (f_X5_meet_m _ _) ?_ | with_reducible refine Mo_of (f_X5_move_m _ _) ?_ | with_reducible refine Mo_of (f_X5_flow_L2_m _ _ _ _) ?_ | with_reducible refine Mo_of (f_X5_flow_m _ _) ?_ | with_reducible refine Mo_of (f_X5_choose_m _ _ _ _) ?_ | with_reducible refine Mo_of (f_X5_enterFunction_L63_m _ _ _ _ _ _ _ _ _) ?_ | with_reducible refine Mo_of (f_X5_enterFunction_m _ _ _ _) ?_ | with_reducible refine Mo_of (f_X5_endRound_m _ _ _ _) ?_ | rfl
set_option maxHeartbeats 4000000 in
set_option maxRecDepth 100000 in
theorem f_X5_makeTable_L114_w {fu : Nat} (l : Launch) (g : im_G) (ad : Nat → Nat) {p : Program} {e : Env} {s : State} {m : MethodId} {below : List Frame} {meth : Method} {c : Code} {args : Array Value} {mc ms : Nat} (X : im_X p l s m args meth c g cX5_makeTable 9 RX5 none) : ∀ (nf : Nat) (z1 : Int32) (z2 : Int32) (z3 : Int32) (z4 : Int64) (z6 : Int32) (z7 : Int32) (z8 : Int32) (S : im_S) (r : Unit) (S' : im_S), f_X5_makeTable_L114 fu nf z1 z2 z3 z4 z6 z7 z8 S = some (r, S') → ∀ (ga : Nat → Nat) (bc bs : Nat), (gP S' - gP S) / 64 + 0 ≤ bc → 2 * gP S' + 0 ≤ 2 * gP S + bs → im_V p l e (im_R 4 mc ms) s m args below meth c g 9 (im_ZG gA below g ad args s mc ms none S') (mx gA ad ga) im_N (im_cn g (mx gA ad ga) S) bc bs 114 [(0, .ref (mx gA ad ga 38)), (1, .int z1), (2, .int z2), (3, .int z3), (4, .long z4), (6, .int z6), (7, .int z7), (8, .int z8)] [] := by
  intro nf
  induction nf with
  | zero =>
    intro z1 z2 z3 z4 z6 z7 z8 S r S' hm
    cases hm
  | succ nf ih =>
    intro z1 z2 z3 z4 z6 z7 z8 S r S' hm ga bc bs b1 b2
    unfold f_X5_makeTable_L114 at hm
    refine iv_iload (pc := 114) X dX5_makeTable_114 rfl ?_
    refine iv_i2l (pc := 116) X dX5_makeTable_116 rfl ?_
    refine iv_lload (pc := 117) X dX5_makeTable_117 rfl ?_
    refine iv_lcmp (pc := 119) X dX5_makeTable_119 ?_
    refine iv_if_ge (pc := 120) X dX5_makeTable_120 (tgt := 154) rfl (fun hb1 => ?_) (fun hb1 => ?_)
    · rw [if_pos hb1] at hm
      refine iv_aload_n (pc := 154) X dX5_makeTable_154 rfl ?_
      refine iv_iload_n (pc := 155) X dX5_makeTable_155 rfl ?_
      refine iv_iload_n (pc := 156) X dX5_makeTable_156 rfl ?_
      refine iv_iconst (pc := 157) X dX5_makeTable_157 ic_3 ?_
      refine iv_iload (pc := 158) X dX5_makeTable_158 rfl ?_
      refine iv_lload (pc := 160) X dX5_makeTable_160 rfl ?_
      refine iv_l2i (pc := 162) X dX5_makeTable_162 rfl ?_
      obtain ⟨⟨r3, S2⟩, hc4, hm⟩ := bd_some hm
      refine cS_X5_310 (pc := 163) X [.int z6, .int z4.toInt32] [.int 3, .int z2, .int z1, .ref (mx gA ad ga 38)] 2 rfl (f_X8_tableOf_e l g (mx gA ad ga) z6 z4.toInt32 S _ _ hc4) (Nat.le_of_ble_eq_true rfl) (Nat.le_of_ble_eq_true rfl) (Nat.le_of_ble_eq_true rfl) rfl dX5_makeTable_163 ?_
      have b1 := gb_step (mo_use hc4 (f_X8_tableOf_m z6 z4.toInt32 S)) b1
      have b2 := gb_step2 (mo_use hc4 (f_X8_tableOf_m z6 z4.toInt32 S)) b2
      obtain ⟨⟨r6, S5⟩, hc7, hm⟩ := bd_some hm
      refine cV_X5_188_38 (pc := 166) X [.int z1, .int z2, .int 3, .long r3] [] 4 rfl (f_X5_send_e l g (mx gA ad ga) z1 z2 3 r3 S2 _ _ hc7) (Nat.le_of_ble_eq_true rfl) (Nat.le_of_ble_eq_true rfl) (Nat.le_of_ble_eq_true rfl) rfl dX5_makeTable_166 ?_
      have b1 := gb_step (mo_use hc7 (f_X5_send_m z1 z2 3 r3 S2)) b1
      have b2 := gb_step2 (mo_use hc7 (f_X5_send_m z1 z2 3 r3 S2)) b2
      cases hm
      exact is_vretG (pc := 169) X dX5_makeTable_169
    · rw [if_neg hb1] at hm
      refine iv_aload_n (pc := 123) X dX5_makeTable_123 rfl ?_
      refine iv_aload_n (pc := 124) X dX5_makeTable_124 rfl ?_
      refine iv_aload_n (pc := 125) X dX5_makeTable_125 rfl ?_
      refine gF_X5_12_38 (pc := 126) X dX5_makeTable_126 ?_
      refine gF_X5_218_40 (pc := 129) X dX5_makeTable_129 ?_
      refine iv_iload_n (pc := 132) X dX5_makeTable_132 rfl ?_
      obtain ⟨hg, hm⟩ := gd_some hm
      refine aL_49 (pc := 133) X dX5_makeTable_133 hg (x := (S.1 49) z2.toNatClampNeg) rfl ?_
      refine iv_iload_n (pc := 134) X dX5_makeTable_134 rfl ?_
      refine iv_iload (pc := 135) X dX5_makeTable_135 rfl ?_
      refine iv_iload (pc := 137) X dX5_makeTable_137 rfl ?_
      refine iv_iadd (pc := 139) X dX5_makeTable_139 ?_
      obtain ⟨⟨r9, S8⟩, hc10, hm⟩ := bd_some hm
      have m2 := mo_use (S := S8) hm (by repeat' first | with_reducible exact Mo_none _ | with_reducible refine Mo_gd ?_ | with_reducible refine Mo_ite ?_ ?_ | with_reducible refine Mo_bind ?_ (fun q => ?_) | with_reducible refine Mo_some ?_ | with_reducible refine Mo_of (f_gr65_m _ _) ?_ | with_reducible refine Mo_of (f_gr66_m _ _) ?_ | with_reducible refine Mo_of (f_gr68_m _ _) ?_ | with_reducible refine Mo_of (f_gr69_m _ _) ?_ | with_reducible refine Mo_of (f_gr70_m _ _) ?_ | with_reducible refine Mo_of (f_gr71_m _ _) ?_ | with_reducible refine Mo_of (f_gr73_m _ _) ?_ | with_reducible refine Mo_of (f_gr74_m _ _) ?_ | with_reducible refine Mo_of (f_X0_clear_m _) ?_ | with_reducible refine Mo_of (f_X0_release_m _ _) ?_ | with_reducible refine Mo_of (f_X2_clear_m _) ?_ | with_reducible refine Mo_of (f_X2_outward_L5_m _ _ _ _ _ _ _) ?_ | with_reducible refine Mo_of (f_X2_outward_m _ _ _ _) ?_ | with_reducible refine Mo_of (f_X3_takesNumbers_L12_m _ _ _ _ _ _) ?_ | with_reducible refine Mo_of (f_X3_takesNumbers_m _ _ _) ?_ | with_reducible refine Mo_of (f_X5_condition_m _) ?_ | with_reducible refine Mo_of (f_X5_slotOf_m _ _ _) ?_ | with_reducible refine Mo_of (f_X5_makeReady_m _ _ _) ?_ | with_reducible refine Mo_of (f_X5_send_m _ _ _ _ _) ?_ | with_reducible refine Mo_of (f_X5_leaveFunction_m _) ?_ | with_reducible refine Mo_of (f_X5_turn_m _ _ _) ?_ | with_reducible refine Mo_of (f_X5_leastError_m _ _ _) ?_ | with_reducible refine Mo_of (f_X5_calculate_m _ _ _ _) ?_ | with_reducible refine Mo_of (f_X8_clear_m _) ?_ | with_reducible refine Mo_of (f_X8_put_m _ _ _ _) ?_ | with_reducible refine Mo_of (f_X8_tableOf_m _ _ _) ?_ | with_reducible refine Mo_of (f_X8_firstCell_m _ _) ?_ | with_reducible refine Mo_of (f_X8_cellsIn_m _ _) ?_ | with_reducible refine Mo_of (f_J9_floorMod_f86c9_m _ _ _) ?_ | with_reducible refine Mo_of (f_J7_rangeCheck_23922_m _ _ _ _) ?_ | with_reducible refine Mo_of (f_J7_fill_bad5a_L10_m _ _ _ _ _ _ _) ?_ | with_reducible refine Mo_of (f_J7_fill_bad5a_m _ _ _ _ _) ?_ | with_reducible refine Mo_of (f_J7_fill_eb02e_L10_m _ _ _ _ _ _ _) ?_ | with_reducible refine Mo_of (f_J7_fill_eb02e_m _ _ _ _ _) ?_ | with_reducible refine Mo_of (f_X5_settle_L15_m _ _ _ _ _ _ _ _) ?_ | with_reducible refine Mo_of (f_X5_settle_m _ _ _ _ _) ?_ | with_reducible refine Mo_of (f_X5_handIn_m _ _ _ _ _) ?_ | with_reducible refine Mo_of (f_X5_cellAt_m _ _ _) ?_ | with_reducible refine Mo_of (f_X5_operate_m _ _ _) ?_ | with_reducible refine Mo_of (f_X5_pickCell_m _ _ _) ?_ | with_reducible refine Mo_of (f_X0_add_m _ _ _) ?_ | with_reducible refine Mo_of (f_X2_add_m _ _ _ _) ?_ | with_reducible refine Mo_of (f_X8_take_m _ _ _) ?_ | with_reducible refine Mo_of (f_X5_openFrame_m _ _ _ _ _) ?_ | with_reducible refine Mo_of (f_X5_enter_L16_m _ _ _ _ _ _ _) ?_ | with_reducible refine Mo_of (f_X5_enter_m _ _ _ _) ?_ | with_reducible refine Mo_of (f_X5_await_m _ _ _ _) ?_ | with_reducible refine Mo_of (f_X5_lookUp_m _ _ _ _) ?_ | with_reducible refine Mo_of (f_X5_beginLoop_L52_m _ _ _ _ _ _ _ _ _) ?_ | with_reducible refine Mo_of (f_X5_beginLoop_m _ _ _ _) ?_ | with_reducible refine Mo_of (f_X5_visit_m _ _ _ _) ?_ | with_reducible refine Mo_of (f_X5_meet_m _ _) ?_ | with_reducible refine Mo_of (f_X5_move_m _ _) ?_ | with_reducible refine Mo_of (f_X5_flow_L2_m _ _ _ _) ?_ | with_reducible refine Mo_of (f_X5_flow_m _ _) ?_ | with_reducible refine Mo_of (f_X5_choose_m _ _ _ _) ?_ | with_reducible refine Mo_of (f_X5_enterFunction_L63_m _ _ _ _ _ _ _ _ _) ?_ | with_reducible refine Mo_of (f_X5_enterFunction_m _ _ _ _) ?_ | with_reducible refine Mo_of (f_X5_endRound_m _ _ _ _) ?_ | with_reducible refine Mo_of (f_X5_makeTable_L114_m _ _ _ _ _ _ _ _ _ _) ?_ | rfl)
      refine cG_X5_77_38_gA (pc := 140) X [.int ((S.1 49) z2.toNatClampNeg), .int z1, .int (z6 + z8)] [.ref (mx gA ad ga 38)] 3 rfl (f_X5_openFrame_e l g (mx gA ad ga) fu ((S.1 49) z2.toNatClampNeg) z1 (z6 + z8) S _ _ hc10) (Nat.le_of_ble_eq_true rfl) (Nat.le_of_ble_eq_true rfl) (Nat.le_of_ble_eq_true rfl) rfl dX5_makeTable_140 (mo_use hc10 (f_X5_openFrame_m fu ((S.1 49) z2.toNatClampNeg) z1 (z6 + z8) S)) m2 b1 b2 (fun ga bc bs b1 b2 => ?_)
      refine iv_iload (pc := 143) X dX5_makeTable_143 rfl ?_
      obtain ⟨⟨r12, S11⟩, hc13, hm⟩ := bd_some hm
      refine cV_X5_198_38 (pc := 145) X [.int r9, .int z7] [] 2 rfl (f_X5_makeReady_e l g (mx gA ad ga) r9 z7 S8 _ _ hc13) (Nat.le_of_ble_eq_true rfl) (Nat.le_of_ble_eq_true rfl) (Nat.le_of_ble_eq_true rfl) rfl dX5_makeTable_145 ?_
      have b1 := gb_step (mo_use hc13 (f_X5_makeReady_m r9 z7 S8)) b1
      have b2 := gb_step2 (mo_use hc13 (f_X5_makeReady_m r9 z7 S8)) b2
      refine iv_iinc (pc := 148) X dX5_makeTable_148 rfl (by decide) (v := z8 + 1) rfl (lv' := [(8, .int (z8 + 1)), (0, .ref (mx gA ad ga 38)), (1, .int z1), (2, .int z2), (3, .int z3), (4, .long z4), (6, .int z6), (7, .int z7)]) rfl ?_
      refine iv_goto (pc := 151) X dX5_makeTable_151 (tgt := 114) rfl ?_
      refine iv_sub [1, 2, 3, 4, 5, 6, 7, 0] (lv2 := [(0, .ref (mx gA ad ga 38)), (1, .int z1), (2, .int z2), (3, .int z3), (4, .long z4), (6, .int z6), (7, .int z7), (8, .int (z8 + 1))]) rfl ?_
      exact ih z1 z2 z3 z4 z6 z7 (z8 + 1) S11 _ _ hm ga bc bs b1 b2
def f_X5_makeTable (fu : Nat) (x1 : Int32) (x2 : Int32) (S : im_S) : Option (Unit × im_S) := gd (in_b x2 512) ((f_X5_slotOf x1 ((S.1 46) x2.toNatClampNeg) S).bind (fun qS1 => gd (in_b qS1.1 (qS1.2.2.2 66)) (gd (in_b qS1.1 (qS1.2.2.2 65)) (if ((qS1.2.1 65) qS1.1.toNatClampNeg : Int32) ≠ 4 then (if (lg_cmp ((qS1.2.2.1 66) qS1.1.toNatClampNeg) 0 : Int32) < 0 then ((f_X5_send x1 x2 4 3 qS1.2).bind (fun qS6 => some ((), qS6.2))) else (if (lg_cmp ((qS1.2.2.1 66) qS1.1.toNatClampNeg) 20 : Int32) ≤ 0 then ((f_X8_take fu (((qS1.2.2.1 66) qS1.1.toNatClampNeg).toInt32) qS1.2).bind (fun qS10 => gd (in_b x2 512) (gd (in_b ((qS10.2.1 47) x2.toNatClampNeg) 512) (f_X5_makeTable_L114 fu fu x1 x2 qS1.1 ((qS1.2.2.1 66) qS1.1.toNatClampNeg) qS10.1 ((qS10.2.1 48) (((qS10.2.1 47) x2.toNatClampNeg).toNatClampNeg)) 0 qS10.2)))) else ((f_X5_send x1 x2 4 3 qS1.2).bind (fun qS13 => some ((), qS13.2))))) else ((f_X5_send x1 x2 4 ((qS1.2.2.1 66) qS1.1.toNatClampNeg) qS1.2).bind (fun qS16 => some ((), qS16.2)))))))
theorem f_X5_makeTable_m (fu : Nat) (x1 : Int32) (x2 : Int32) (S : im_S) : Mo (f_X5_makeTable fu x1 x2 S) S := by
  unfold f_X5_makeTable
  repeat' first | with_reducible exact Mo_none _ | with_reducible refine Mo_gd ?_ | with_reducible refine Mo_ite ?_ ?_ | with_reducible refine Mo_bind ?_ (fun q => ?_) | with_reducible refine Mo_some ?_ | with_reducible refine Mo_of (f_gr65_m _ _) ?_ | with_reducible refine Mo_of (f_gr66_m _ _) ?_ | with_reducible refine Mo_of (f_gr68_m _ _) ?_ | with_reducible refine Mo_of (f_gr69_m _ _) ?_ | with_reducible refine Mo_of (f_gr70_m _ _) ?_ | with_reducible refine Mo_of (f_gr71_m _ _) ?_ | with_reducible refine Mo_of (f_gr73_m _ _) ?_ | with_reducible refine Mo_of (f_gr74_m _ _) ?_ | with_reducible refine Mo_of (f_X0_clear_m _) ?_ | with_reducible refine Mo_of (f_X0_release_m _ _) ?_ | with_reducible refine Mo_of (f_X2_clear_m _) ?_ | with_reducible refine Mo_of (f_X2_outward_L5_m _ _ _ _ _ _ _) ?_ | with_reducible refine Mo_of (f_X2_outward_m _ _ _ _) ?_ | with_reducible refine Mo_of (f_X3_takesNumbers_L12_m _ _ _ _ _ _) ?_ | with_reducible refine Mo_of (f_X3_takesNumbers_m _ _ _) ?_ | with_reducible refine Mo_of (f_X5_condition_m _) ?_ | with_reducible refine Mo_of (f_X5_slotOf_m _ _ _) ?_ | with_reducible refine Mo_of (f_X5_makeReady_m _ _ _) ?_ | with_reducible refine Mo_of (f_X5_send_m _ _ _ _ _) ?_ | with_reducible refine Mo_of (f_X5_leaveFunction_m _) ?_ | with_reducible refine Mo_of (f_X5_turn_m _ _ _) ?_ | with_reducible refine Mo_of (f_X5_leastError_m _ _ _) ?_ | with_reducible refine Mo_of (f_X5_calculate_m _ _ _ _) ?_ | with_reducible refine Mo_of (f_X8_clear_m _) ?_ | with_reducible refine Mo_of (f_X8_put_m _ _ _ _) ?_ | with_reducible refine Mo_of (f_X8_tableOf_m _ _ _) ?_ | with_reducible refine Mo_of (f_X8_firstCell_m _ _) ?_ | with_reducible refine Mo_of (f_X8_cellsIn_m _ _) ?_ | with_reducible refine Mo_of (f_J9_floorMod_f86c9_m _ _ _) ?_ | with_reducible refine Mo_of (f_J7_rangeCheck_23922_m _ _ _ _) ?_ | with_reducible refine Mo_of (f_J7_fill_bad5a_L10_m _ _ _ _ _ _ _) ?_ | with_reducible refine Mo_of (f_J7_fill_bad5a_m _ _ _ _ _) ?_ | with_reducible refine Mo_of (f_J7_fill_eb02e_L10_m _ _ _ _ _ _ _) ?_ | with_reducible refine Mo_of (f_J7_fill_eb02e_m _ _ _ _ _) ?_ | with_reducible refine Mo_of (f_X5_settle_L15_m _ _ _ _ _ _ _ _) ?_ | with_reducible refine Mo_of (f_X5_settle_m _ _ _ _ _) ?_ | with_reducible refine Mo_of (f_X5_handIn_m _ _ _ _ _) ?_ | with_reducible refine Mo_of (f_X5_cellAt_m _ _ _) ?_ | with_reducible refine Mo_of (f_X5_operate_m _ _ _) ?_ | with_reducible refine Mo_of (f_X5_pickCell_m _ _ _) ?_ | with_reducible refine Mo_of (f_X0_add_m _ _ _) ?_ | with_reducible refine Mo_of (f_X2_add_m _ _ _ _) ?_ | with_reducible refine Mo_of (f_X8_take_m _ _ _) ?_ | with_reducible refine Mo_of (f_X5_openFrame_m _ _ _ _ _) ?_ | with_reducible refine Mo_of (f_X5_enter_L16_m _ _ _ _ _ _ _) ?_ | with_reducible refine Mo_of (f_X5_enter_m _ _ _ _) ?_ | with_reducible refine Mo_of (f_X5_await_m _ _ _ _) ?_ | with_reducible refine Mo_of (f_X5_lookUp_m _ _ _ _) ?_ | with_reducible refine Mo_of (f_X5_beginLoop_L52_m _ _ _ _ _ _ _ _ _) ?_ | with_reducible refine Mo_of (f_X5_beginLoop_m _ _ _ _) ?_ | with_reducible refine Mo_of (f_X5_visit_m _ _ _ _) ?_ | with_reducible refine Mo_of (f_X5_meet_m _ _) ?_ | with_reducible refine Mo_of (f_X5_move_m _ _) ?_ | with_reducible refine Mo_of (f_X5_flow_L2_m _ _ _ _) ?_ | with_reducible refine Mo_of (f_X5_flow_m _ _) ?_ | with_reducible refine Mo_of (f_X5_choose_m _ _ _ _) ?_ | with_reducible refine Mo_of (f_X5_enterFunction_L63_m _ _ _ _ _ _ _ _ _) ?_ | with_reducible refine Mo_of (f_X5_enterFunction_m _ _ _ _) ?_ | with_reducible refine Mo_of (f_X5_endRound_m _ _ _ _) ?_ | with_reducible refine Mo_of (f_X5_makeTable_L114_m _ _ _ _ _ _ _ _ _ _) ?_ | rfl
set_option maxHeartbeats 4000000 in
set_option maxRecDepth 100000 in
theorem f_X5_makeTable_e (l : Launch) (g : im_G) (ad : Nat → Nat) (fu : Nat) (x1 : Int32) (x2 : Int32) (S : im_S) (r : Unit) (S' : im_S) (hm : f_X5_makeTable fu x1 x2 S = some (r, S')) : im_EG gA l g ad 4 yX5_makeTable cX5_makeTable 9 none [.ref (ad 38), .int x1, .int x2] S none S' := by
  unfold f_X5_makeTable at hm
  refine is_metG (own := RX5) (by decide +kernel) rfl (Nat.le_of_ble_eq_true rfl) (fun p e s m below meth c X ga bc bs b1 b2 => ?_)
  refine iv_aload_n (pc := 0) X dX5_makeTable_0 rfl ?_
  refine iv_iload_n (pc := 1) X dX5_makeTable_1 rfl ?_
  refine iv_aload_n (pc := 2) X dX5_makeTable_2 rfl ?_
  refine gF_X5_12_38 (pc := 3) X dX5_makeTable_3 ?_
  refine gF_X5_201_40 (pc := 6) X dX5_makeTable_6 ?_
  refine iv_iload_n (pc := 9) X dX5_makeTable_9 rfl ?_
  obtain ⟨hg, hm⟩ := gd_some hm
  refine aL_46 (pc := 10) X dX5_makeTable_10 hg (x := (S.1 46) x2.toNatClampNeg) rfl ?_
  obtain ⟨⟨r2, S1⟩, hc3, hm⟩ := bd_some hm
  refine cV_X5_84_38 (pc := 11) X [.int x1, .int ((S.1 46) x2.toNatClampNeg)] [] 2 rfl (f_X5_slotOf_e l g (mx gA ad ga) x1 ((S.1 46) x2.toNatClampNeg) S _ _ hc3) (Nat.le_of_ble_eq_true rfl) (Nat.le_of_ble_eq_true rfl) (Nat.le_of_ble_eq_true rfl) rfl dX5_makeTable_11 ?_
  have b1 := gb_step (mo_use hc3 (f_X5_slotOf_m x1 ((S.1 46) x2.toNatClampNeg) S)) b1
  have b2 := gb_step2 (mo_use hc3 (f_X5_slotOf_m x1 ((S.1 46) x2.toNatClampNeg) S)) b2
  refine iv_istore_n (pc := 14) X dX5_makeTable_14 (by decide) (lv' := [(3, .int r2), (0, .ref (mx gA ad ga 38)), (1, .int x1), (2, .int x2)]) rfl ?_
  refine iv_aload_n (pc := 15) X dX5_makeTable_15 rfl ?_
  refine gF_X5_21_38 (pc := 16) X dX5_makeTable_16 ?_
  refine gF_X5_160_64 (pc := 19) X dX5_makeTable_19 ?_
  refine iv_iload_n (pc := 22) X dX5_makeTable_22 rfl ?_
  obtain ⟨hg, hm⟩ := gd_some hm
  refine aL_66 (pc := 23) X dX5_makeTable_23 hg (x := (S1.2.1 66) r2.toNatClampNeg) rfl ?_
  refine iv_lstore (pc := 24) X dX5_makeTable_24 (by decide) (lv' := [(4, .long ((S1.2.1 66) r2.toNatClampNeg)), (3, .int r2), (0, .ref (mx gA ad ga 38)), (1, .int x1), (2, .int x2)]) rfl ?_
  refine iv_aload_n (pc := 26) X dX5_makeTable_26 rfl ?_
  refine gF_X5_21_38 (pc := 27) X dX5_makeTable_27 ?_
  refine gF_X5_211_64 (pc := 30) X dX5_makeTable_30 ?_
  refine iv_iload_n (pc := 33) X dX5_makeTable_33 rfl ?_
  obtain ⟨hg, hm⟩ := gd_some hm
  refine aL_65 (pc := 34) X dX5_makeTable_34 hg (x := (S1.1 65) r2.toNatClampNeg) rfl ?_
  refine iv_iconst (pc := 35) X dX5_makeTable_35 ic_4 ?_
  refine iv_icmp_ne (pc := 36) X dX5_makeTable_36 (tgt := 51) rfl (fun hb4 => ?_) (fun hb4 => ?_)
  · rw [if_pos hb4] at hm
    refine iv_lload (pc := 51) X dX5_makeTable_51 rfl ?_
    refine iv_lconst (pc := 53) X dX5_makeTable_53 lc_0 ?_
    refine iv_lcmp (pc := 54) X dX5_makeTable_54 ?_
    refine iv_if_lt (pc := 55) X dX5_makeTable_55 (tgt := 67) rfl (fun hb5 => ?_) (fun hb5 => ?_)
    · rw [if_pos hb5] at hm
      refine iv_aload_n (pc := 67) X dX5_makeTable_67 rfl ?_
      refine iv_iload_n (pc := 68) X dX5_makeTable_68 rfl ?_
      refine iv_iload_n (pc := 69) X dX5_makeTable_69 rfl ?_
      refine iv_iconst (pc := 70) X dX5_makeTable_70 ic_4 ?_
      refine iv_ldc2 (pc := 71) X wk_X5_308 dX5_makeTable_71 ?_
      obtain ⟨⟨r7, S6⟩, hc8, hm⟩ := bd_some hm
      refine cV_X5_188_38 (pc := 74) X [.int x1, .int x2, .int 4, .long 3] [] 4 rfl (f_X5_send_e l g (mx gA ad ga) x1 x2 4 3 S1 _ _ hc8) (Nat.le_of_ble_eq_true rfl) (Nat.le_of_ble_eq_true rfl) (Nat.le_of_ble_eq_true rfl) rfl dX5_makeTable_74 ?_
      have b1 := gb_step (mo_use hc8 (f_X5_send_m x1 x2 4 3 S1)) b1
      have b2 := gb_step2 (mo_use hc8 (f_X5_send_m x1 x2 4 3 S1)) b2
      refine iv_goto (pc := 77) X dX5_makeTable_77 (tgt := 169) rfl ?_
      cases hm
      exact is_vretG (pc := 169) X dX5_makeTable_169
    · rw [if_neg hb5] at hm
      refine iv_lload (pc := 58) X dX5_makeTable_58 rfl ?_
      refine iv_ldc2 (pc := 60) X wk_X5_306 dX5_makeTable_60 ?_
      refine iv_lcmp (pc := 63) X dX5_makeTable_63 ?_
      refine iv_if_le (pc := 64) X dX5_makeTable_64 (tgt := 80) rfl (fun hb9 => ?_) (fun hb9 => ?_)
      · rw [if_pos hb9] at hm
        refine iv_aload_n (pc := 80) X dX5_makeTable_80 rfl ?_
        refine gF_X5_21_38 (pc := 81) X dX5_makeTable_81 ?_
        refine iv_lload (pc := 84) X dX5_makeTable_84 rfl ?_
        refine iv_l2i (pc := 86) X dX5_makeTable_86 rfl ?_
        obtain ⟨⟨r11, S10⟩, hc12, hm⟩ := bd_some hm
        have m2 := mo_use (S := S10) hm (by repeat' first | with_reducible exact Mo_none _ | with_reducible refine Mo_gd ?_ | with_reducible refine Mo_ite ?_ ?_ | with_reducible refine Mo_bind ?_ (fun q => ?_) | with_reducible refine Mo_some ?_ | with_reducible refine Mo_of (f_gr65_m _ _) ?_ | with_reducible refine Mo_of (f_gr66_m _ _) ?_ | with_reducible refine Mo_of (f_gr68_m _ _) ?_ | with_reducible refine Mo_of (f_gr69_m _ _) ?_ | with_reducible refine Mo_of (f_gr70_m _ _) ?_ | with_reducible refine Mo_of (f_gr71_m _ _) ?_ | with_reducible refine Mo_of (f_gr73_m _ _) ?_ | with_reducible refine Mo_of (f_gr74_m _ _) ?_ | with_reducible refine Mo_of (f_X0_clear_m _) ?_ | with_reducible refine Mo_of (f_X0_release_m _ _) ?_ | with_reducible refine Mo_of (f_X2_clear_m _) ?_ | with_reducible refine Mo_of (f_X2_outward_L5_m _ _ _ _ _ _ _) ?_ | with_reducible refine Mo_of (f_X2_outward_m _ _ _ _) ?_ | with_reducible refine Mo_of (f_X3_takesNumbers_L12_m _ _ _ _ _ _) ?_ | with_reducible refine Mo_of (f_X3_takesNumbers_m _ _ _) ?_ | with_reducible refine Mo_of (f_X5_condition_m _) ?_ | with_reducible refine Mo_of (f_X5_slotOf_m _ _ _) ?_ | with_reducible refine Mo_of (f_X5_makeReady_m _ _ _) ?_ | with_reducible refine Mo_of (f_X5_send_m _ _ _ _ _) ?_ | with_reducible refine Mo_of (f_X5_leaveFunction_m _) ?_ | with_reducible refine Mo_of (f_X5_turn_m _ _ _) ?_ | with_reducible refine Mo_of (f_X5_leastError_m _ _ _) ?_ | with_reducible refine Mo_of (f_X5_calculate_m _ _ _ _) ?_ | with_reducible refine Mo_of (f_X8_clear_m _) ?_ | with_reducible refine Mo_of (f_X8_put_m _ _ _ _) ?_ | with_reducible refine Mo_of (f_X8_tableOf_m _ _ _) ?_ | with_reducible refine Mo_of (f_X8_firstCell_m _ _) ?_ | with_reducible refine Mo_of (f_X8_cellsIn_m _ _) ?_ | with_reducible refine Mo_of (f_J9_floorMod_f86c9_m _ _ _) ?_ | with_reducible refine Mo_of (f_J7_rangeCheck_23922_m _ _ _ _) ?_ | with_reducible refine Mo_of (f_J7_fill_bad5a_L10_m _ _ _ _ _ _ _) ?_ | with_reducible refine Mo_of (f_J7_fill_bad5a_m _ _ _ _ _) ?_ | with_reducible refine Mo_of (f_J7_fill_eb02e_L10_m _ _ _ _ _ _ _) ?_ | with_reducible refine Mo_of (f_J7_fill_eb02e_m _ _ _ _ _) ?_ | with_reducible refine Mo_of (f_X5_settle_L15_m _ _ _ _ _ _ _ _) ?_ | with_reducible refine Mo_of (f_X5_settle_m _ _ _ _ _) ?_ | with_reducible refine Mo_of (f_X5_handIn_m _ _ _ _ _) ?_ | with_reducible refine Mo_of (f_X5_cellAt_m _ _ _) ?_ | with_reducible refine Mo_of (f_X5_operate_m _ _ _) ?_ | with_reducible refine Mo_of (f_X5_pickCell_m _ _ _) ?_ | with_reducible refine Mo_of (f_X0_add_m _ _ _) ?_ | with_reducible refine Mo_of (f_X2_add_m _ _ _ _) ?_ | with_reducible refine Mo_of (f_X8_take_m _ _ _) ?_ | with_reducible refine Mo_of (f_X5_openFrame_m _ _ _ _ _) ?_ | with_reducible refine Mo_of (f_X5_enter_L16_m _ _ _ _ _ _ _) ?_ | with_reducible refine Mo_of (f_X5_enter_m _ _ _ _) ?_ | with_reducible refine Mo_of (f_X5_await_m _ _ _ _) ?_ | with_reducible refine Mo_of (f_X5_lookUp_m _ _ _ _) ?_ | with_reducible refine Mo_of (f_X5_beginLoop_L52_m _ _ _ _ _ _ _ _ _) ?_ | with_reducible refine Mo_of (f_X5_beginLoop_m _ _ _ _) ?_ | with_reducible refine Mo_of (f_X5_visit_m _ _ _ _) ?_ | with_reducible refine Mo_of (f_X5_meet_m _ _) ?_ | with_reducible refine Mo_of (f_X5_move_m _ _) ?_ | with_reducible refine Mo_of (f_X5_flow_L2_m _ _ _ _) ?_ | with_reducible refine Mo_of (f_X5_flow_m _ _) ?_ | with_reducible refine Mo_of (f_X5_choose_m _ _ _ _) ?_ | with_reducible refine Mo_of (f_X5_enterFunction_L63_m _ _ _ _ _ _ _ _ _) ?_ | with_reducible refine Mo_of (f_X5_enterFunction_m _ _ _ _) ?_ | with_reducible refine Mo_of (f_X5_endRound_m _ _ _ _) ?_ | with_reducible refine Mo_of (f_X5_makeTable_L114_m _ _ _ _ _ _ _ _ _ _) ?_ | with_reducible refine Mo_of (f_X5_makeTable_m _ _ _ _) ?_ | rfl)
        refine cG_X5_132_64_gA (pc := 87) X [.int (((S1.2.1 66) r2.toNatClampNeg).toInt32)] [] 1 rfl (f_X8_take_e l g (mx gA ad ga) fu (((S1.2.1 66) r2.toNatClampNeg).toInt32) S1 _ _ hc12) (Nat.le_of_ble_eq_true rfl) (Nat.le_of_ble_eq_true rfl) (Nat.le_of_ble_eq_true rfl) rfl dX5_makeTable_87 (mo_use hc12 (f_X8_take_m fu (((S1.2.1 66) r2.toNatClampNeg).toInt32) S1)) m2 b1 b2 (fun ga bc bs b1 b2 => ?_)
        refine iv_istore (pc := 90) X dX5_makeTable_90 (by decide) (lv' := [(6, .int r11), (4, .long ((S1.2.1 66) r2.toNatClampNeg)), (3, .int r2), (0, .ref (mx gA ad ga 38)), (1, .int x1), (2, .int x2)]) rfl ?_
        refine iv_aload_n (pc := 92) X dX5_makeTable_92 rfl ?_
        refine gF_X5_12_38 (pc := 93) X dX5_makeTable_93 ?_
        refine gF_X5_92_40 (pc := 96) X dX5_makeTable_96 ?_
        refine iv_aload_n (pc := 99) X dX5_makeTable_99 rfl ?_
        refine gF_X5_12_38 (pc := 100) X dX5_makeTable_100 ?_
        refine gF_X5_254_40 (pc := 103) X dX5_makeTable_103 ?_
        refine iv_iload_n (pc := 106) X dX5_makeTable_106 rfl ?_
        obtain ⟨hg, hm⟩ := gd_some hm
        refine aL_47 (pc := 107) X dX5_makeTable_107 hg (x := (S10.1 47) x2.toNatClampNeg) rfl ?_
        obtain ⟨hg, hm⟩ := gd_some hm
        refine aL_48 (pc := 108) X dX5_makeTable_108 hg (x := (S10.1 48) (((S10.1 47) x2.toNatClampNeg).toNatClampNeg)) rfl ?_
        refine iv_istore (pc := 109) X dX5_makeTable_109 (by decide) (lv' := [(7, .int ((S10.1 48) (((S10.1 47) x2.toNatClampNeg).toNatClampNeg))), (6, .int r11), (4, .long ((S1.2.1 66) r2.toNatClampNeg)), (3, .int r2), (0, .ref (mx gA ad ga 38)), (1, .int x1), (2, .int x2)]) rfl ?_
        refine iv_iconst (pc := 111) X dX5_makeTable_111 ic_0 ?_
        refine iv_istore (pc := 112) X dX5_makeTable_112 (by decide) (lv' := [(8, .int 0), (7, .int ((S10.1 48) (((S10.1 47) x2.toNatClampNeg).toNatClampNeg))), (6, .int r11), (4, .long ((S1.2.1 66) r2.toNatClampNeg)), (3, .int r2), (0, .ref (mx gA ad ga 38)), (1, .int x1), (2, .int x2)]) rfl ?_
        refine iv_sub [5, 6, 7, 4, 3, 2, 1, 0] (lv2 := [(0, .ref (mx gA ad ga 38)), (1, .int x1), (2, .int x2), (3, .int r2), (4, .long ((S1.2.1 66) r2.toNatClampNeg)), (6, .int r11), (7, .int ((S10.1 48) (((S10.1 47) x2.toNatClampNeg).toNatClampNeg))), (8, .int 0)]) rfl ?_
        exact f_X5_makeTable_L114_w (fu := fu) l g ad X fu x1 x2 r2 ((S1.2.1 66) r2.toNatClampNeg) r11 ((S10.1 48) (((S10.1 47) x2.toNatClampNeg).toNatClampNeg)) 0 S10 _ _ hm ga bc bs b1 b2
      · rw [if_neg hb9] at hm
        refine iv_aload_n (pc := 67) X dX5_makeTable_67 rfl ?_
        refine iv_iload_n (pc := 68) X dX5_makeTable_68 rfl ?_
        refine iv_iload_n (pc := 69) X dX5_makeTable_69 rfl ?_
        refine iv_iconst (pc := 70) X dX5_makeTable_70 ic_4 ?_
        refine iv_ldc2 (pc := 71) X wk_X5_308 dX5_makeTable_71 ?_
        obtain ⟨⟨r14, S13⟩, hc15, hm⟩ := bd_some hm
        refine cV_X5_188_38 (pc := 74) X [.int x1, .int x2, .int 4, .long 3] [] 4 rfl (f_X5_send_e l g (mx gA ad ga) x1 x2 4 3 S1 _ _ hc15) (Nat.le_of_ble_eq_true rfl) (Nat.le_of_ble_eq_true rfl) (Nat.le_of_ble_eq_true rfl) rfl dX5_makeTable_74 ?_
        have b1 := gb_step (mo_use hc15 (f_X5_send_m x1 x2 4 3 S1)) b1
        have b2 := gb_step2 (mo_use hc15 (f_X5_send_m x1 x2 4 3 S1)) b2
        refine iv_goto (pc := 77) X dX5_makeTable_77 (tgt := 169) rfl ?_
        cases hm
        exact is_vretG (pc := 169) X dX5_makeTable_169
  · rw [if_neg hb4] at hm
    refine iv_aload_n (pc := 39) X dX5_makeTable_39 rfl ?_
    refine iv_iload_n (pc := 40) X dX5_makeTable_40 rfl ?_
    refine iv_iload_n (pc := 41) X dX5_makeTable_41 rfl ?_
    refine iv_iconst (pc := 42) X dX5_makeTable_42 ic_4 ?_
    refine iv_lload (pc := 43) X dX5_makeTable_43 rfl ?_
    obtain ⟨⟨r17, S16⟩, hc18, hm⟩ := bd_some hm
    refine cV_X5_188_38 (pc := 45) X [.int x1, .int x2, .int 4, .long ((S1.2.1 66) r2.toNatClampNeg)] [] 4 rfl (f_X5_send_e l g (mx gA ad ga) x1 x2 4 ((S1.2.1 66) r2.toNatClampNeg) S1 _ _ hc18) (Nat.le_of_ble_eq_true rfl) (Nat.le_of_ble_eq_true rfl) (Nat.le_of_ble_eq_true rfl) rfl dX5_makeTable_45 ?_
    have b1 := gb_step (mo_use hc18 (f_X5_send_m x1 x2 4 ((S1.2.1 66) r2.toNatClampNeg) S1)) b1
    have b2 := gb_step2 (mo_use hc18 (f_X5_send_m x1 x2 4 ((S1.2.1 66) r2.toNatClampNeg) S1)) b2
    refine iv_goto (pc := 48) X dX5_makeTable_48 (tgt := 169) rfl ?_
    cases hm
    exact is_vretG (pc := 169) X dX5_makeTable_169
def f_X5_enterCell (fu : Nat) (x1 : Int32) (x2 : Int32) (S : im_S) : Option (Unit × im_S) := gd (in_b x2 512) (gd (in_b x1 (S.2.2 69)) ((f_X5_slotOf ((S.1 69) x1.toNatClampNeg) ((S.1 44) x2.toNatClampNeg) S).bind (fun qS1 => gd (in_b qS1.1 (qS1.2.2.2 66)) (gd (in_b x1 (qS1.2.2.2 70)) ((f_X8_firstCell ((qS1.2.2.1 66) qS1.1.toNatClampNeg) qS1.2).bind (fun qS4 => (f_X5_slotOf x1 x2 qS4.2).bind (fun qS7 => (f_X5_settle fu qS7.1 1 ((((qS1.2.1 70) x1.toNatClampNeg) - qS4.1).toInt64) qS7.2).bind (fun qS10 => gd (in_b ((S.1 44) x2.toNatClampNeg) 512) ((f_X5_slotOf x1 ((qS10.2.1 47) (((S.1 44) x2.toNatClampNeg).toNatClampNeg)) qS10.2).bind (fun qS13 => (f_X5_settle fu qS13.1 3 ((qS1.2.2.1 66) qS1.1.toNatClampNeg) qS13.2).bind (fun qS16 => gd (in_b ((S.1 44) x2.toNatClampNeg) 512) ((f_X5_enter fu x1 ((qS16.2.1 49) (((S.1 44) x2.toNatClampNeg).toNatClampNeg)) qS16.2).bind (fun qS19 => some ((), qS19.2))))))))))))))
theorem f_X5_enterCell_m (fu : Nat) (x1 : Int32) (x2 : Int32) (S : im_S) : Mo (f_X5_enterCell fu x1 x2 S) S := by
  unfold f_X5_enterCell
  repeat' first | with_reducible exact Mo_none _ | with_reducible refine Mo_gd ?_ | with_reducible refine Mo_ite ?_ ?_ | with_reducible refine Mo_bind ?_ (fun q => ?_) | with_reducible refine Mo_some ?_ | with_reducible refine Mo_of (f_gr65_m _ _) ?_ | with_reducible refine Mo_of (f_gr66_m _ _) ?_ | with_reducible refine Mo_of (f_gr68_m _ _) ?_ | with_reducible refine Mo_of (f_gr69_m _ _) ?_ | with_reducible refine Mo_of (f_gr70_m _ _) ?_ | with_reducible refine Mo_of (f_gr71_m _ _) ?_ | with_reducible refine Mo_of (f_gr73_m _ _) ?_ | with_reducible refine Mo_of (f_gr74_m _ _) ?_ | with_reducible refine Mo_of (f_X0_clear_m _) ?_ | with_reducible refine Mo_of (f_X0_release_m _ _) ?_ | with_reducible refine Mo_of (f_X2_clear_m _) ?_ | with_reducible refine Mo_of (f_X2_outward_L5_m _ _ _ _ _ _ _) ?_ | with_reducible refine Mo_of (f_X2_outward_m _ _ _ _) ?_ | with_reducible refine Mo_of (f_X3_takesNumbers_L12_m _ _ _ _ _ _) ?_ | with_reducible refine Mo_of (f_X3_takesNumbers_m _ _ _) ?_ | with_reducible refine Mo_of (f_X5_condition_m _) ?_ | with_reducible refine Mo_of (f_X5_slotOf_m _ _ _) ?_ | with_reducible refine Mo_of (f_X5_makeReady_m _ _ _) ?_ | with_reducible refine Mo_of (f_X5_send_m _ _ _ _ _) ?_ | with_reducible refine Mo_of (f_X5_leaveFunction_m _) ?_ | with_reducible refine Mo_of (f_X5_turn_m _ _ _) ?_ | with_reducible refine Mo_of (f_X5_leastError_m _ _ _) ?_ | with_reducible refine Mo_of (f_X5_calculate_m _ _ _ _) ?_ | with_reducible refine Mo_of (f_X8_clear_m _) ?_ | with_reducible refine Mo_of (f_X8_put_m _ _ _ _) ?_ | with_reducible refine Mo_of (f_X8_tableOf_m _ _ _) ?_ | with_reducible refine Mo_of (f_X8_firstCell_m _ _) ?_ | with_reducible refine Mo_of (f_X8_cellsIn_m _ _) ?_ | with_reducible refine Mo_of (f_J9_floorMod_f86c9_m _ _ _) ?_ | with_reducible refine Mo_of (f_J7_rangeCheck_23922_m _ _ _ _) ?_ | with_reducible refine Mo_of (f_J7_fill_bad5a_L10_m _ _ _ _ _ _ _) ?_ | with_reducible refine Mo_of (f_J7_fill_bad5a_m _ _ _ _ _) ?_ | with_reducible refine Mo_of (f_J7_fill_eb02e_L10_m _ _ _ _ _ _ _) ?_ | with_reducible refine Mo_of (f_J7_fill_eb02e_m _ _ _ _ _) ?_ | with_reducible refine Mo_of (f_X5_settle_L15_m _ _ _ _ _ _ _ _) ?_ | with_reducible refine Mo_of (f_X5_settle_m _ _ _ _ _) ?_ | with_reducible refine Mo_of (f_X5_handIn_m _ _ _ _ _) ?_ | with_reducible refine Mo_of (f_X5_cellAt_m _ _ _) ?_ | with_reducible refine Mo_of (f_X5_operate_m _ _ _) ?_ | with_reducible refine Mo_of (f_X5_pickCell_m _ _ _) ?_ | with_reducible refine Mo_of (f_X0_add_m _ _ _) ?_ | with_reducible refine Mo_of (f_X2_add_m _ _ _ _) ?_ | with_reducible refine Mo_of (f_X8_take_m _ _ _) ?_ | with_reducible refine Mo_of (f_X5_openFrame_m _ _ _ _ _) ?_ | with_reducible refine Mo_of (f_X5_enter_L16_m _ _ _ _ _ _ _) ?_ | with_reducible refine Mo_of (f_X5_enter_m _ _ _ _) ?_ | with_reducible refine Mo_of (f_X5_await_m _ _ _ _) ?_ | with_reducible refine Mo_of (f_X5_lookUp_m _ _ _ _) ?_ | with_reducible refine Mo_of (f_X5_beginLoop_L52_m _ _ _ _ _ _ _ _ _) ?_ | with_reducible refine Mo_of (f_X5_beginLoop_m _ _ _ _) ?_ | with_reducible refine Mo_of (f_X5_visit_m _ _ _ _) ?_ | with_reducible refine Mo_of (f_X5_meet_m _ _) ?_ | with_reducible refine Mo_of (f_X5_move_m _ _) ?_ | with_reducible refine Mo_of (f_X5_flow_L2_m _ _ _ _) ?_ | with_reducible refine Mo_of (f_X5_flow_m _ _) ?_ | with_reducible refine Mo_of (f_X5_choose_m _ _ _ _) ?_ | with_reducible refine Mo_of (f_X5_enterFunction_L63_m _ _ _ _ _ _ _ _ _) ?_ | with_reducible refine Mo_of (f_X5_enterFunction_m _ _ _ _) ?_ | with_reducible refine Mo_of (f_X5_endRound_m _ _ _ _) ?_ | with_reducible refine Mo_of (f_X5_makeTable_L114_m _ _ _ _ _ _ _ _ _ _) ?_ | with_reducible refine Mo_of (f_X5_makeTable_m _ _ _ _) ?_ | rfl
set_option maxHeartbeats 4000000 in
set_option maxRecDepth 100000 in
theorem f_X5_enterCell_e (l : Launch) (g : im_G) (ad : Nat → Nat) (fu : Nat) (x1 : Int32) (x2 : Int32) (S : im_S) (r : Unit) (S' : im_S) (hm : f_X5_enterCell fu x1 x2 S = some (r, S')) : im_EG gC l g ad 4 yX5_enterCell cX5_enterCell 7 none [.ref (ad 38), .int x1, .int x2] S none S' := by
  unfold f_X5_enterCell at hm
  refine is_metG (own := RX5) (by decide +kernel) rfl (Nat.le_of_ble_eq_true rfl) (fun p e s m below meth c X ga bc bs b1 b2 => ?_)
  refine iv_aload_n (pc := 0) X dX5_enterCell_0 rfl ?_
  refine gF_X5_12_38 (pc := 1) X dX5_enterCell_1 ?_
  refine gF_X5_233_40 (pc := 4) X dX5_enterCell_4 ?_
  refine iv_iload_n (pc := 7) X dX5_enterCell_7 rfl ?_
  obtain ⟨hg, hm⟩ := gd_some hm
  refine aL_44 (pc := 8) X dX5_enterCell_8 hg (x := (S.1 44) x2.toNatClampNeg) rfl ?_
  refine iv_istore_n (pc := 9) X dX5_enterCell_9 (by decide) (lv' := [(3, .int ((S.1 44) x2.toNatClampNeg)), (0, .ref (mx gC ad ga 38)), (1, .int x1), (2, .int x2)]) rfl ?_
  refine iv_aload_n (pc := 10) X dX5_enterCell_10 rfl ?_
  refine gF_X5_21_38 (pc := 11) X dX5_enterCell_11 ?_
  refine gF_X5_160_64 (pc := 14) X dX5_enterCell_14 ?_
  refine iv_aload_n (pc := 17) X dX5_enterCell_17 rfl ?_
  refine iv_aload_n (pc := 18) X dX5_enterCell_18 rfl ?_
  refine gF_X5_28_38 (pc := 19) X dX5_enterCell_19 ?_
  refine gF_X5_242_67 (pc := 22) X dX5_enterCell_22 ?_
  refine iv_iload_n (pc := 25) X dX5_enterCell_25 rfl ?_
  obtain ⟨hg, hm⟩ := gd_some hm
  refine aL_69 (pc := 26) X dX5_enterCell_26 hg (x := (S.1 69) x1.toNatClampNeg) rfl ?_
  refine iv_iload_n (pc := 27) X dX5_enterCell_27 rfl ?_
  obtain ⟨⟨r2, S1⟩, hc3, hm⟩ := bd_some hm
  refine cV_X5_84_38 (pc := 28) X [.int ((S.1 69) x1.toNatClampNeg), .int ((S.1 44) x2.toNatClampNeg)] [.ref (mx gC ad ga 66)] 2 rfl (f_X5_slotOf_e l g (mx gC ad ga) ((S.1 69) x1.toNatClampNeg) ((S.1 44) x2.toNatClampNeg) S _ _ hc3) (Nat.le_of_ble_eq_true rfl) (Nat.le_of_ble_eq_true rfl) (Nat.le_of_ble_eq_true rfl) rfl dX5_enterCell_28 ?_
  have b1 := gb_step (mo_use hc3 (f_X5_slotOf_m ((S.1 69) x1.toNatClampNeg) ((S.1 44) x2.toNatClampNeg) S)) b1
  have b2 := gb_step2 (mo_use hc3 (f_X5_slotOf_m ((S.1 69) x1.toNatClampNeg) ((S.1 44) x2.toNatClampNeg) S)) b2
  obtain ⟨hg, hm⟩ := gd_some hm
  refine aL_66 (pc := 31) X dX5_enterCell_31 hg (x := (S1.2.1 66) r2.toNatClampNeg) rfl ?_
  refine iv_lstore (pc := 32) X dX5_enterCell_32 (by decide) (lv' := [(4, .long ((S1.2.1 66) r2.toNatClampNeg)), (3, .int ((S.1 44) x2.toNatClampNeg)), (0, .ref (mx gC ad ga 38)), (1, .int x1), (2, .int x2)]) rfl ?_
  refine iv_aload_n (pc := 34) X dX5_enterCell_34 rfl ?_
  refine gF_X5_28_38 (pc := 35) X dX5_enterCell_35 ?_
  refine gF_X5_245_67 (pc := 38) X dX5_enterCell_38 ?_
  refine iv_iload_n (pc := 41) X dX5_enterCell_41 rfl ?_
  obtain ⟨hg, hm⟩ := gd_some hm
  refine aL_70 (pc := 42) X dX5_enterCell_42 hg (x := (S1.1 70) x1.toNatClampNeg) rfl ?_
  refine iv_lload (pc := 43) X dX5_enterCell_43 rfl ?_
  obtain ⟨⟨r5, S4⟩, hc6, hm⟩ := bd_some hm
  refine cS_X5_264 (pc := 45) X [.long ((S1.2.1 66) r2.toNatClampNeg)] [.int ((S1.1 70) x1.toNatClampNeg)] 1 rfl (f_X8_firstCell_e l g (mx gC ad ga) ((S1.2.1 66) r2.toNatClampNeg) S1 _ _ hc6) (Nat.le_of_ble_eq_true rfl) (Nat.le_of_ble_eq_true rfl) (Nat.le_of_ble_eq_true rfl) rfl dX5_enterCell_45 ?_
  have b1 := gb_step (mo_use hc6 (f_X8_firstCell_m ((S1.2.1 66) r2.toNatClampNeg) S1)) b1
  have b2 := gb_step2 (mo_use hc6 (f_X8_firstCell_m ((S1.2.1 66) r2.toNatClampNeg) S1)) b2
  refine iv_isub (pc := 48) X dX5_enterCell_48 ?_
  refine iv_istore (pc := 49) X dX5_enterCell_49 (by decide) (lv' := [(6, .int (((S1.1 70) x1.toNatClampNeg) - r5)), (4, .long ((S1.2.1 66) r2.toNatClampNeg)), (3, .int ((S.1 44) x2.toNatClampNeg)), (0, .ref (mx gC ad ga 38)), (1, .int x1), (2, .int x2)]) rfl ?_
  refine iv_aload_n (pc := 51) X dX5_enterCell_51 rfl ?_
  refine iv_aload_n (pc := 52) X dX5_enterCell_52 rfl ?_
  refine iv_iload_n (pc := 53) X dX5_enterCell_53 rfl ?_
  refine iv_iload_n (pc := 54) X dX5_enterCell_54 rfl ?_
  obtain ⟨⟨r8, S7⟩, hc9, hm⟩ := bd_some hm
  refine cV_X5_84_38 (pc := 55) X [.int x1, .int x2] [.ref (mx gC ad ga 38)] 2 rfl (f_X5_slotOf_e l g (mx gC ad ga) x1 x2 S4 _ _ hc9) (Nat.le_of_ble_eq_true rfl) (Nat.le_of_ble_eq_true rfl) (Nat.le_of_ble_eq_true rfl) rfl dX5_enterCell_55 ?_
  have b1 := gb_step (mo_use hc9 (f_X5_slotOf_m x1 x2 S4)) b1
  have b2 := gb_step2 (mo_use hc9 (f_X5_slotOf_m x1 x2 S4)) b2
  refine iv_iconst (pc := 58) X dX5_enterCell_58 ic_1 ?_
  refine iv_iload (pc := 59) X dX5_enterCell_59 rfl ?_
  refine iv_i2l (pc := 61) X dX5_enterCell_61 rfl ?_
  obtain ⟨⟨r11, S10⟩, hc12, hm⟩ := bd_some hm
  refine cV_X5_230_38 (pc := 62) X [.int r8, .int 1, .long ((((S1.1 70) x1.toNatClampNeg) - r5).toInt64)] [] 3 rfl (f_X5_settle_e l g (mx gC ad ga) fu r8 1 ((((S1.1 70) x1.toNatClampNeg) - r5).toInt64) S7 _ _ hc12) (Nat.le_of_ble_eq_true rfl) (Nat.le_of_ble_eq_true rfl) (Nat.le_of_ble_eq_true rfl) rfl dX5_enterCell_62 ?_
  have b1 := gb_step (mo_use hc12 (f_X5_settle_m fu r8 1 ((((S1.1 70) x1.toNatClampNeg) - r5).toInt64) S7)) b1
  have b2 := gb_step2 (mo_use hc12 (f_X5_settle_m fu r8 1 ((((S1.1 70) x1.toNatClampNeg) - r5).toInt64) S7)) b2
  refine iv_aload_n (pc := 65) X dX5_enterCell_65 rfl ?_
  refine iv_aload_n (pc := 66) X dX5_enterCell_66 rfl ?_
  refine iv_iload_n (pc := 67) X dX5_enterCell_67 rfl ?_
  refine iv_aload_n (pc := 68) X dX5_enterCell_68 rfl ?_
  refine gF_X5_12_38 (pc := 69) X dX5_enterCell_69 ?_
  refine gF_X5_254_40 (pc := 72) X dX5_enterCell_72 ?_
  refine iv_iload_n (pc := 75) X dX5_enterCell_75 rfl ?_
  obtain ⟨hg, hm⟩ := gd_some hm
  refine aL_47 (pc := 76) X dX5_enterCell_76 hg (x := (S10.1 47) (((S.1 44) x2.toNatClampNeg).toNatClampNeg)) rfl ?_
  obtain ⟨⟨r14, S13⟩, hc15, hm⟩ := bd_some hm
  refine cV_X5_84_38 (pc := 77) X [.int x1, .int ((S10.1 47) (((S.1 44) x2.toNatClampNeg).toNatClampNeg))] [.ref (mx gC ad ga 38)] 2 rfl (f_X5_slotOf_e l g (mx gC ad ga) x1 ((S10.1 47) (((S.1 44) x2.toNatClampNeg).toNatClampNeg)) S10 _ _ hc15) (Nat.le_of_ble_eq_true rfl) (Nat.le_of_ble_eq_true rfl) (Nat.le_of_ble_eq_true rfl) rfl dX5_enterCell_77 ?_
  have b1 := gb_step (mo_use hc15 (f_X5_slotOf_m x1 ((S10.1 47) (((S.1 44) x2.toNatClampNeg).toNatClampNeg)) S10)) b1
  have b2 := gb_step2 (mo_use hc15 (f_X5_slotOf_m x1 ((S10.1 47) (((S.1 44) x2.toNatClampNeg).toNatClampNeg)) S10)) b2
  refine iv_iconst (pc := 80) X dX5_enterCell_80 ic_3 ?_
  refine iv_lload (pc := 81) X dX5_enterCell_81 rfl ?_
  obtain ⟨⟨r17, S16⟩, hc18, hm⟩ := bd_some hm
  refine cV_X5_230_38 (pc := 83) X [.int r14, .int 3, .long ((S1.2.1 66) r2.toNatClampNeg)] [] 3 rfl (f_X5_settle_e l g (mx gC ad ga) fu r14 3 ((S1.2.1 66) r2.toNatClampNeg) S13 _ _ hc18) (Nat.le_of_ble_eq_true rfl) (Nat.le_of_ble_eq_true rfl) (Nat.le_of_ble_eq_true rfl) rfl dX5_enterCell_83 ?_
  have b1 := gb_step (mo_use hc18 (f_X5_settle_m fu r14 3 ((S1.2.1 66) r2.toNatClampNeg) S13)) b1
  have b2 := gb_step2 (mo_use hc18 (f_X5_settle_m fu r14 3 ((S1.2.1 66) r2.toNatClampNeg) S13)) b2
  refine iv_aload_n (pc := 86) X dX5_enterCell_86 rfl ?_
  refine iv_iload_n (pc := 87) X dX5_enterCell_87 rfl ?_
  refine iv_aload_n (pc := 88) X dX5_enterCell_88 rfl ?_
  refine gF_X5_12_38 (pc := 89) X dX5_enterCell_89 ?_
  refine gF_X5_218_40 (pc := 92) X dX5_enterCell_92 ?_
  refine iv_iload_n (pc := 95) X dX5_enterCell_95 rfl ?_
  obtain ⟨hg, hm⟩ := gd_some hm
  refine aL_49 (pc := 96) X dX5_enterCell_96 hg (x := (S16.1 49) (((S.1 44) x2.toNatClampNeg).toNatClampNeg)) rfl ?_
  obtain ⟨⟨r20, S19⟩, hc21, hm⟩ := bd_some hm
  have m2 := mo_use (S := S19) hm (by repeat' first | with_reducible exact Mo_none _ | with_reducible refine Mo_gd ?_ | with_reducible refine Mo_ite ?_ ?_ | with_reducible refine Mo_bind ?_ (fun q => ?_) | with_reducible refine Mo_some ?_ | with_reducible refine Mo_of (f_gr65_m _ _) ?_ | with_reducible refine Mo_of (f_gr66_m _ _) ?_ | with_reducible refine Mo_of (f_gr68_m _ _) ?_ | with_reducible refine Mo_of (f_gr69_m _ _) ?_ | with_reducible refine Mo_of (f_gr70_m _ _) ?_ | with_reducible refine Mo_of (f_gr71_m _ _) ?_ | with_reducible refine Mo_of (f_gr73_m _ _) ?_ | with_reducible refine Mo_of (f_gr74_m _ _) ?_ | with_reducible refine Mo_of (f_X0_clear_m _) ?_ | with_reducible refine Mo_of (f_X0_release_m _ _) ?_ | with_reducible refine Mo_of (f_X2_clear_m _) ?_ | with_reducible refine Mo_of (f_X2_outward_L5_m _ _ _ _ _ _ _) ?_ | with_reducible refine Mo_of (f_X2_outward_m _ _ _ _) ?_ | with_reducible refine Mo_of (f_X3_takesNumbers_L12_m _ _ _ _ _ _) ?_ | with_reducible refine Mo_of (f_X3_takesNumbers_m _ _ _) ?_ | with_reducible refine Mo_of (f_X5_condition_m _) ?_ | with_reducible refine Mo_of (f_X5_slotOf_m _ _ _) ?_ | with_reducible refine Mo_of (f_X5_makeReady_m _ _ _) ?_ | with_reducible refine Mo_of (f_X5_send_m _ _ _ _ _) ?_ | with_reducible refine Mo_of (f_X5_leaveFunction_m _) ?_ | with_reducible refine Mo_of (f_X5_turn_m _ _ _) ?_ | with_reducible refine Mo_of (f_X5_leastError_m _ _ _) ?_ | with_reducible refine Mo_of (f_X5_calculate_m _ _ _ _) ?_ | with_reducible refine Mo_of (f_X8_clear_m _) ?_ | with_reducible refine Mo_of (f_X8_put_m _ _ _ _) ?_ | with_reducible refine Mo_of (f_X8_tableOf_m _ _ _) ?_ | with_reducible refine Mo_of (f_X8_firstCell_m _ _) ?_ | with_reducible refine Mo_of (f_X8_cellsIn_m _ _) ?_ | with_reducible refine Mo_of (f_J9_floorMod_f86c9_m _ _ _) ?_ | with_reducible refine Mo_of (f_J7_rangeCheck_23922_m _ _ _ _) ?_ | with_reducible refine Mo_of (f_J7_fill_bad5a_L10_m _ _ _ _ _ _ _) ?_ | with_reducible refine Mo_of (f_J7_fill_bad5a_m _ _ _ _ _) ?_ | with_reducible refine Mo_of (f_J7_fill_eb02e_L10_m _ _ _ _ _ _ _) ?_ | with_reducible refine Mo_of (f_J7_fill_eb02e_m _ _ _ _ _) ?_ | with_reducible refine Mo_of (f_X5_settle_L15_m _ _ _ _ _ _ _ _) ?_ | with_reducible refine Mo_of (f_X5_settle_m _ _ _ _ _) ?_ | with_reducible refine Mo_of (f_X5_handIn_m _ _ _ _ _) ?_ | with_reducible refine Mo_of (f_X5_cellAt_m _ _ _) ?_ | with_reducible refine Mo_of (f_X5_operate_m _ _ _) ?_ | with_reducible refine Mo_of (f_X5_pickCell_m _ _ _) ?_ | with_reducible refine Mo_of (f_X0_add_m _ _ _) ?_ | with_reducible refine Mo_of (f_X2_add_m _ _ _ _) ?_ | with_reducible refine Mo_of (f_X8_take_m _ _ _) ?_ | with_reducible refine Mo_of (f_X5_openFrame_m _ _ _ _ _) ?_ | with_reducible refine Mo_of (f_X5_enter_L16_m _ _ _ _ _ _ _) ?_ | with_reducible refine Mo_of (f_X5_enter_m _ _ _ _) ?_ | with_reducible refine Mo_of (f_X5_await_m _ _ _ _) ?_ | with_reducible refine Mo_of (f_X5_lookUp_m _ _ _ _) ?_ | with_reducible refine Mo_of (f_X5_beginLoop_L52_m _ _ _ _ _ _ _ _ _) ?_ | with_reducible refine Mo_of (f_X5_beginLoop_m _ _ _ _) ?_ | with_reducible refine Mo_of (f_X5_visit_m _ _ _ _) ?_ | with_reducible refine Mo_of (f_X5_meet_m _ _) ?_ | with_reducible refine Mo_of (f_X5_move_m _ _) ?_ | with_reducible refine Mo_of (f_X5_flow_L2_m _ _ _ _) ?_ | with_reducible refine Mo_of (f_X5_flow_m _ _) ?_ | with_reducible refine Mo_of (f_X5_choose_m _ _ _ _) ?_ | with_reducible refine Mo_of (f_X5_enterFunction_L63_m _ _ _ _ _ _ _ _ _) ?_ | with_reducible refine Mo_of (f_X5_enterFunction_m _ _ _ _) ?_ | with_reducible refine Mo_of (f_X5_endRound_m _ _ _ _) ?_ | with_reducible refine Mo_of (f_X5_makeTable_L114_m _ _ _ _ _ _ _ _ _ _) ?_ | with_reducible refine Mo_of (f_X5_makeTable_m _ _ _ _) ?_ | with_reducible refine Mo_of (f_X5_enterCell_m _ _ _ _) ?_ | rfl)
  refine cG_X5_95_38_gC (pc := 97) X [.int x1, .int ((S16.1 49) (((S.1 44) x2.toNatClampNeg).toNatClampNeg))] [] 2 rfl (f_X5_enter_e l g (mx gC ad ga) fu x1 ((S16.1 49) (((S.1 44) x2.toNatClampNeg).toNatClampNeg)) S16 _ _ hc21) (Nat.le_of_ble_eq_true rfl) (Nat.le_of_ble_eq_true rfl) (Nat.le_of_ble_eq_true rfl) rfl dX5_enterCell_97 (mo_use hc21 (f_X5_enter_m fu x1 ((S16.1 49) (((S.1 44) x2.toNatClampNeg).toNatClampNeg)) S16)) m2 b1 b2 (fun ga bc bs b1 b2 => ?_)
  cases hm
  exact is_vretG (pc := 100) X dX5_enterCell_100
def f_X5_happen (fu : Nat) (x1 : Int32) (S : im_S) : Option (Unit × im_S) := gd (in_b x1 1001) (gd (nz_I 512) (gd (in_b x1 1001) (gd (nz_I 512) (gd (in_b ((S.1 38 8) - 1) 1001) (gd (in_b x1 1001) (gd (in_b (((S.1 39) x1.toNatClampNeg) - ((S.1 39) x1.toNatClampNeg) / 512 * 512) 512) (if ((S.1 41) ((((S.1 39) x1.toNatClampNeg) - ((S.1 39) x1.toNatClampNeg) / 512 * 512).toNatClampNeg)) = (4 : Int32) then ((f_X5_turn (((S.1 39) x1.toNatClampNeg) / 512) (((S.1 39) x1.toNatClampNeg) - ((S.1 39) x1.toNatClampNeg) / 512 * 512) (uI (uI S 38 8 ((S.1 38 8) - 1)) 39 x1.toNatClampNeg ((S.1 39) (((S.1 38 8) - 1).toNatClampNeg)))).bind (fun qS2 => some ((), qS2.2))) else (if ((S.1 41) ((((S.1 39) x1.toNatClampNeg) - ((S.1 39) x1.toNatClampNeg) / 512 * 512).toNatClampNeg)) = (5 : Int32) then ((f_X5_operate (((S.1 39) x1.toNatClampNeg) / 512) (((S.1 39) x1.toNatClampNeg) - ((S.1 39) x1.toNatClampNeg) / 512 * 512) (uI (uI S 38 8 ((S.1 38 8) - 1)) 39 x1.toNatClampNeg ((S.1 39) (((S.1 38 8) - 1).toNatClampNeg)))).bind (fun qS6 => some ((), qS6.2))) else (if ((S.1 41) ((((S.1 39) x1.toNatClampNeg) - ((S.1 39) x1.toNatClampNeg) / 512 * 512).toNatClampNeg)) = (6 : Int32) then ((f_X5_pickCell (((S.1 39) x1.toNatClampNeg) / 512) (((S.1 39) x1.toNatClampNeg) - ((S.1 39) x1.toNatClampNeg) / 512 * 512) (uI (uI S 38 8 ((S.1 38 8) - 1)) 39 x1.toNatClampNeg ((S.1 39) (((S.1 38 8) - 1).toNatClampNeg)))).bind (fun qS10 => some ((), qS10.2))) else (if ((S.1 41) ((((S.1 39) x1.toNatClampNeg) - ((S.1 39) x1.toNatClampNeg) / 512 * 512).toNatClampNeg)) = (7 : Int32) then ((f_X5_choose fu (((S.1 39) x1.toNatClampNeg) / 512) (((S.1 39) x1.toNatClampNeg) - ((S.1 39) x1.toNatClampNeg) / 512 * 512) (uI (uI S 38 8 ((S.1 38 8) - 1)) 39 x1.toNatClampNeg ((S.1 39) (((S.1 38 8) - 1).toNatClampNeg)))).bind (fun qS14 => some ((), qS14.2))) else (if ((S.1 41) ((((S.1 39) x1.toNatClampNeg) - ((S.1 39) x1.toNatClampNeg) / 512 * 512).toNatClampNeg)) = (8 : Int32) then ((f_X5_enterFunction fu (((S.1 39) x1.toNatClampNeg) / 512) (((S.1 39) x1.toNatClampNeg) - ((S.1 39) x1.toNatClampNeg) / 512 * 512) (uI (uI S 38 8 ((S.1 38 8) - 1)) 39 x1.toNatClampNeg ((S.1 39) (((S.1 38 8) - 1).toNatClampNeg)))).bind (fun qS18 => some ((), qS18.2))) else (if ((S.1 41) ((((S.1 39) x1.toNatClampNeg) - ((S.1 39) x1.toNatClampNeg) / 512 * 512).toNatClampNeg)) = (9 : Int32) then ((f_X5_endRound fu (((S.1 39) x1.toNatClampNeg) / 512) (((S.1 39) x1.toNatClampNeg) - ((S.1 39) x1.toNatClampNeg) / 512 * 512) (uI (uI S 38 8 ((S.1 38 8) - 1)) 39 x1.toNatClampNeg ((S.1 39) (((S.1 38 8) - 1).toNatClampNeg)))).bind (fun qS22 => some ((), qS22.2))) else (if ((S.1 41) ((((S.1 39) x1.toNatClampNeg) - ((S.1 39) x1.toNatClampNeg) / 512 * 512).toNatClampNeg)) = (10 : Int32) then ((f_X5_makeTable fu (((S.1 39) x1.toNatClampNeg) / 512) (((S.1 39) x1.toNatClampNeg) - ((S.1 39) x1.toNatClampNeg) / 512 * 512) (uI (uI S 38 8 ((S.1 38 8) - 1)) 39 x1.toNatClampNeg ((S.1 39) (((S.1 38 8) - 1).toNatClampNeg)))).bind (fun qS26 => some ((), qS26.2))) else ((f_X5_enterCell fu (((S.1 39) x1.toNatClampNeg) / 512) (((S.1 39) x1.toNatClampNeg) - ((S.1 39) x1.toNatClampNeg) / 512 * 512) (uI (uI S 38 8 ((S.1 38 8) - 1)) 39 x1.toNatClampNeg ((S.1 39) (((S.1 38 8) - 1).toNatClampNeg)))).bind (fun qS29 => some ((), qS29.2))))))))))))))))
theorem f_X5_happen_m (fu : Nat) (x1 : Int32) (S : im_S) : Mo (f_X5_happen fu x1 S) S := by
  unfold f_X5_happen
  repeat' first | with_reducible exact Mo_none _ | with_reducible refine Mo_gd ?_ | with_reducible refine Mo_ite ?_ ?_ | with_reducible refine Mo_bind ?_ (fun q => ?_) | with_reducible refine Mo_some ?_ | with_reducible refine Mo_of (f_gr65_m _ _) ?_ | with_reducible refine Mo_of (f_gr66_m _ _) ?_ | with_reducible refine Mo_of (f_gr68_m _ _) ?_ | with_reducible refine Mo_of (f_gr69_m _ _) ?_ | with_reducible refine Mo_of (f_gr70_m _ _) ?_ | with_reducible refine Mo_of (f_gr71_m _ _) ?_ | with_reducible refine Mo_of (f_gr73_m _ _) ?_ | with_reducible refine Mo_of (f_gr74_m _ _) ?_ | with_reducible refine Mo_of (f_X0_clear_m _) ?_ | with_reducible refine Mo_of (f_X0_release_m _ _) ?_ | with_reducible refine Mo_of (f_X2_clear_m _) ?_ | with_reducible refine Mo_of (f_X2_outward_L5_m _ _ _ _ _ _ _) ?_ | with_reducible refine Mo_of (f_X2_outward_m _ _ _ _) ?_ | with_reducible refine Mo_of (f_X3_takesNumbers_L12_m _ _ _ _ _ _) ?_ | with_reducible refine Mo_of (f_X3_takesNumbers_m _ _ _) ?_ | with_reducible refine Mo_of (f_X5_condition_m _) ?_ | with_reducible refine Mo_of (f_X5_slotOf_m _ _ _) ?_ | with_reducible refine Mo_of (f_X5_makeReady_m _ _ _) ?_ | with_reducible refine Mo_of (f_X5_send_m _ _ _ _ _) ?_ | with_reducible refine Mo_of (f_X5_leaveFunction_m _) ?_ | with_reducible refine Mo_of (f_X5_turn_m _ _ _) ?_ | with_reducible refine Mo_of (f_X5_leastError_m _ _ _) ?_ | with_reducible refine Mo_of (f_X5_calculate_m _ _ _ _) ?_ | with_reducible refine Mo_of (f_X8_clear_m _) ?_ | with_reducible refine Mo_of (f_X8_put_m _ _ _ _) ?_ | with_reducible refine Mo_of (f_X8_tableOf_m _ _ _) ?_ | with_reducible refine Mo_of (f_X8_firstCell_m _ _) ?_ | with_reducible refine Mo_of (f_X8_cellsIn_m _ _) ?_ | with_reducible refine Mo_of (f_J9_floorMod_f86c9_m _ _ _) ?_ | with_reducible refine Mo_of (f_J7_rangeCheck_23922_m _ _ _ _) ?_ | with_reducible refine Mo_of (f_J7_fill_bad5a_L10_m _ _ _ _ _ _ _) ?_ | with_reducible refine Mo_of (f_J7_fill_bad5a_m _ _ _ _ _) ?_ | with_reducible refine Mo_of (f_J7_fill_eb02e_L10_m _ _ _ _ _ _ _) ?_ | with_reducible refine Mo_of (f_J7_fill_eb02e_m _ _ _ _ _) ?_ | with_reducible refine Mo_of (f_X5_settle_L15_m _ _ _ _ _ _ _ _) ?_ | with_reducible refine Mo_of (f_X5_settle_m _ _ _ _ _) ?_ | with_reducible refine Mo_of (f_X5_handIn_m _ _ _ _ _) ?_ | with_reducible refine Mo_of (f_X5_cellAt_m _ _ _) ?_ | with_reducible refine Mo_of (f_X5_operate_m _ _ _) ?_ | with_reducible refine Mo_of (f_X5_pickCell_m _ _ _) ?_ | with_reducible refine Mo_of (f_X0_add_m _ _ _) ?_ | with_reducible refine Mo_of (f_X2_add_m _ _ _ _) ?_ | with_reducible refine Mo_of (f_X8_take_m _ _ _) ?_ | with_reducible refine Mo_of (f_X5_openFrame_m _ _ _ _ _) ?_ | with_reducible refine Mo_of (f_X5_enter_L16_m _ _ _ _ _ _ _) ?_ | with_reducible refine Mo_of (f_X5_enter_m _ _ _ _) ?_ | with_reducible refine Mo_of (f_X5_await_m _ _ _ _) ?_ | with_reducible refine Mo_of (f_X5_lookUp_m _ _ _ _) ?_ | with_reducible refine Mo_of (f_X5_beginLoop_L52_m _ _ _ _ _ _ _ _ _) ?_ | with_reducible refine Mo_of (f_X5_beginLoop_m _ _ _ _) ?_ | with_reducible refine Mo_of (f_X5_visit_m _ _ _ _) ?_ | with_reducible refine Mo_of (f_X5_meet_m _ _) ?_ | with_reducible refine Mo_of (f_X5_move_m _ _) ?_ | with_reducible refine Mo_of (f_X5_flow_L2_m _ _ _ _) ?_ | with_reducible refine Mo_of (f_X5_flow_m _ _) ?_ | with_reducible refine Mo_of (f_X5_choose_m _ _ _ _) ?_ | with_reducible refine Mo_of (f_X5_enterFunction_L63_m _ _ _ _ _ _ _ _ _) ?_ | with_reducible refine Mo_of (f_X5_enterFunction_m _ _ _ _) ?_ | with_reducible refine Mo_of (f_X5_endRound_m _ _ _ _) ?_ | with_reducible refine Mo_of (f_X5_makeTable_L114_m _ _ _ _ _ _ _ _ _ _) ?_ | with_reducible refine Mo_of (f_X5_makeTable_m _ _ _ _) ?_ | with_reducible refine Mo_of (f_X5_enterCell_m _ _ _ _) ?_ | rfl
set_option maxHeartbeats 4000000 in
set_option maxRecDepth 100000 in
theorem f_X5_happen_e (l : Launch) (g : im_G) (ad : Nat → Nat) (fu : Nat) (x1 : Int32) (S : im_S) (r : Unit) (S' : im_S) (hm : f_X5_happen fu x1 S = some (r, S')) : im_EG gA l g ad 5 yX5_happen cX5_happen 4 none [.ref (ad 38), .int x1] S none S' := by
  unfold f_X5_happen at hm
  refine is_metG (own := RX5) (by decide +kernel) rfl (Nat.le_of_ble_eq_true rfl) (fun p e s m below meth c X ga bc bs b1 b2 => ?_)
  refine iv_aload_n (pc := 0) X dX5_happen_0 rfl ?_
  refine gF_X5_39_38 (pc := 1) X dX5_happen_1 ?_
  refine iv_iload_n (pc := 4) X dX5_happen_4 rfl ?_
  obtain ⟨hg, hm⟩ := gd_some hm
  refine aL_39 (pc := 5) X dX5_happen_5 hg (x := (S.1 39) x1.toNatClampNeg) rfl ?_
  refine iv_sipush (pc := 6) X dX5_happen_6 sc_512 ?_
  obtain ⟨hg, hm⟩ := gd_some hm
  refine iv_idiv (pc := 9) X dX5_happen_9 (of_decide_eq_true hg) ?_
  refine iv_istore_n (pc := 10) X dX5_happen_10 (by decide) (lv' := [(2, .int (((S.1 39) x1.toNatClampNeg) / 512)), (0, .ref (mx gA ad ga 38)), (1, .int x1)]) rfl ?_
  refine iv_aload_n (pc := 11) X dX5_happen_11 rfl ?_
  refine gF_X5_39_38 (pc := 12) X dX5_happen_12 ?_
  refine iv_iload_n (pc := 15) X dX5_happen_15 rfl ?_
  obtain ⟨hg, hm⟩ := gd_some hm
  refine aL_39 (pc := 16) X dX5_happen_16 hg (x := (S.1 39) x1.toNatClampNeg) rfl ?_
  refine iv_sipush (pc := 17) X dX5_happen_17 sc_512 ?_
  obtain ⟨hg, hm⟩ := gd_some hm
  refine iv_irem (pc := 20) X dX5_happen_20 (of_decide_eq_true hg) ?_
  refine iv_istore_n (pc := 21) X dX5_happen_21 (by decide) (lv' := [(3, .int (((S.1 39) x1.toNatClampNeg) - ((S.1 39) x1.toNatClampNeg) / 512 * 512)), (2, .int (((S.1 39) x1.toNatClampNeg) / 512)), (0, .ref (mx gA ad ga 38)), (1, .int x1)]) rfl ?_
  refine iv_aload_n (pc := 22) X dX5_happen_22 rfl ?_
  refine iv_dup (pc := 23) X dX5_happen_23 rfl ?_
  refine gF_X5_51_38 (pc := 24) X dX5_happen_24 (x := S.1 38 8) rfl ?_
  refine iv_iconst (pc := 27) X dX5_happen_27 ic_1 ?_
  refine iv_isub (pc := 28) X dX5_happen_28 ?_
  refine pF_X5_51_38 (pc := 29) X dX5_happen_29 ?_
  refine iv_aload_n (pc := 32) X dX5_happen_32 rfl ?_
  refine gF_X5_39_38 (pc := 33) X dX5_happen_33 ?_
  refine iv_iload_n (pc := 36) X dX5_happen_36 rfl ?_
  refine iv_aload_n (pc := 37) X dX5_happen_37 rfl ?_
  refine gF_X5_39_38 (pc := 38) X dX5_happen_38 ?_
  refine iv_aload_n (pc := 41) X dX5_happen_41 rfl ?_
  refine gF_X5_51_38 (pc := 42) X dX5_happen_42 (x := (S.1 38 8) - 1) rfl ?_
  obtain ⟨hg, hm⟩ := gd_some hm
  refine aL_39 (pc := 45) X dX5_happen_45 hg (x := (S.1 39) (((S.1 38 8) - 1).toNatClampNeg)) rfl ?_
  obtain ⟨hg, hm⟩ := gd_some hm
  refine aS_39 (pc := 46) X dX5_happen_46 hg ?_
  refine iv_aload_n (pc := 47) X dX5_happen_47 rfl ?_
  refine gF_X5_12_38 (pc := 48) X dX5_happen_48 ?_
  refine gF_X5_179_40 (pc := 51) X dX5_happen_51 ?_
  refine iv_iload_n (pc := 54) X dX5_happen_54 rfl ?_
  obtain ⟨hg, hm⟩ := gd_some hm
  refine aL_41 (pc := 55) X dX5_happen_55 hg (x := (S.1 41) ((((S.1 39) x1.toNatClampNeg) - ((S.1 39) x1.toNatClampNeg) / 512 * 512).toNatClampNeg)) rfl ?_
  by_cases hb1 : ((S.1 41) ((((S.1 39) x1.toNatClampNeg) - ((S.1 39) x1.toNatClampNeg) / 512 * 512).toNatClampNeg)) = (4 : Int32)
  · rw [if_pos hb1] at hm
    refine iv_tableIn X dX5_happen_56 (off := 44) (tgt := 100) (by rw [hb1]; decide) (by rw [hb1]; decide) (by rw [hb1]; decide) (by decide) ?_
    refine iv_aload_n (pc := 100) X dX5_happen_100 rfl ?_
    refine iv_iload_n (pc := 101) X dX5_happen_101 rfl ?_
    refine iv_iload_n (pc := 102) X dX5_happen_102 rfl ?_
    obtain ⟨⟨r3, S2⟩, hc4, hm⟩ := bd_some hm
    refine cV_X5_267_38 (pc := 103) X [.int (((S.1 39) x1.toNatClampNeg) / 512), .int (((S.1 39) x1.toNatClampNeg) - ((S.1 39) x1.toNatClampNeg) / 512 * 512)] [] 2 rfl (f_X5_turn_e l g (mx gA ad ga) (((S.1 39) x1.toNatClampNeg) / 512) (((S.1 39) x1.toNatClampNeg) - ((S.1 39) x1.toNatClampNeg) / 512 * 512) (uI (uI S 38 8 ((S.1 38 8) - 1)) 39 x1.toNatClampNeg ((S.1 39) (((S.1 38 8) - 1).toNatClampNeg))) _ _ hc4) (Nat.le_of_ble_eq_true rfl) (Nat.le_of_ble_eq_true rfl) (Nat.le_of_ble_eq_true rfl) rfl dX5_happen_103 ?_
    have b1 := gb_step (mo_use hc4 (f_X5_turn_m (((S.1 39) x1.toNatClampNeg) / 512) (((S.1 39) x1.toNatClampNeg) - ((S.1 39) x1.toNatClampNeg) / 512 * 512) (uI (uI S 38 8 ((S.1 38 8) - 1)) 39 x1.toNatClampNeg ((S.1 39) (((S.1 38 8) - 1).toNatClampNeg))))) b1
    have b2 := gb_step2 (mo_use hc4 (f_X5_turn_m (((S.1 39) x1.toNatClampNeg) / 512) (((S.1 39) x1.toNatClampNeg) - ((S.1 39) x1.toNatClampNeg) / 512 * 512) (uI (uI S 38 8 ((S.1 38 8) - 1)) 39 x1.toNatClampNeg ((S.1 39) (((S.1 38 8) - 1).toNatClampNeg))))) b2
    refine iv_goto (pc := 106) X dX5_happen_106 (tgt := 169) rfl ?_
    cases hm
    exact is_vretG (pc := 169) X dX5_happen_169
  · rw [if_neg hb1] at hm
    by_cases hb5 : ((S.1 41) ((((S.1 39) x1.toNatClampNeg) - ((S.1 39) x1.toNatClampNeg) / 512 * 512).toNatClampNeg)) = (5 : Int32)
    · rw [if_pos hb5] at hm
      refine iv_tableIn X dX5_happen_56 (off := 53) (tgt := 109) (by rw [hb5]; decide) (by rw [hb5]; decide) (by rw [hb5]; decide) (by decide) ?_
      refine iv_aload_n (pc := 109) X dX5_happen_109 rfl ?_
      refine iv_iload_n (pc := 110) X dX5_happen_110 rfl ?_
      refine iv_iload_n (pc := 111) X dX5_happen_111 rfl ?_
      obtain ⟨⟨r7, S6⟩, hc8, hm⟩ := bd_some hm
      refine cV_X5_270_38 (pc := 112) X [.int (((S.1 39) x1.toNatClampNeg) / 512), .int (((S.1 39) x1.toNatClampNeg) - ((S.1 39) x1.toNatClampNeg) / 512 * 512)] [] 2 rfl (f_X5_operate_e l g (mx gA ad ga) (((S.1 39) x1.toNatClampNeg) / 512) (((S.1 39) x1.toNatClampNeg) - ((S.1 39) x1.toNatClampNeg) / 512 * 512) (uI (uI S 38 8 ((S.1 38 8) - 1)) 39 x1.toNatClampNeg ((S.1 39) (((S.1 38 8) - 1).toNatClampNeg))) _ _ hc8) (Nat.le_of_ble_eq_true rfl) (Nat.le_of_ble_eq_true rfl) (Nat.le_of_ble_eq_true rfl) rfl dX5_happen_112 ?_
      have b1 := gb_step (mo_use hc8 (f_X5_operate_m (((S.1 39) x1.toNatClampNeg) / 512) (((S.1 39) x1.toNatClampNeg) - ((S.1 39) x1.toNatClampNeg) / 512 * 512) (uI (uI S 38 8 ((S.1 38 8) - 1)) 39 x1.toNatClampNeg ((S.1 39) (((S.1 38 8) - 1).toNatClampNeg))))) b1
      have b2 := gb_step2 (mo_use hc8 (f_X5_operate_m (((S.1 39) x1.toNatClampNeg) / 512) (((S.1 39) x1.toNatClampNeg) - ((S.1 39) x1.toNatClampNeg) / 512 * 512) (uI (uI S 38 8 ((S.1 38 8) - 1)) 39 x1.toNatClampNeg ((S.1 39) (((S.1 38 8) - 1).toNatClampNeg))))) b2
      refine iv_goto (pc := 115) X dX5_happen_115 (tgt := 169) rfl ?_
      cases hm
      exact is_vretG (pc := 169) X dX5_happen_169
    · rw [if_neg hb5] at hm
      by_cases hb9 : ((S.1 41) ((((S.1 39) x1.toNatClampNeg) - ((S.1 39) x1.toNatClampNeg) / 512 * 512).toNatClampNeg)) = (6 : Int32)
      · rw [if_pos hb9] at hm
        refine iv_tableIn X dX5_happen_56 (off := 62) (tgt := 118) (by rw [hb9]; decide) (by rw [hb9]; decide) (by rw [hb9]; decide) (by decide) ?_
        refine iv_aload_n (pc := 118) X dX5_happen_118 rfl ?_
        refine iv_iload_n (pc := 119) X dX5_happen_119 rfl ?_
        refine iv_iload_n (pc := 120) X dX5_happen_120 rfl ?_
        obtain ⟨⟨r11, S10⟩, hc12, hm⟩ := bd_some hm
        refine cV_X5_273_38 (pc := 121) X [.int (((S.1 39) x1.toNatClampNeg) / 512), .int (((S.1 39) x1.toNatClampNeg) - ((S.1 39) x1.toNatClampNeg) / 512 * 512)] [] 2 rfl (f_X5_pickCell_e l g (mx gA ad ga) (((S.1 39) x1.toNatClampNeg) / 512) (((S.1 39) x1.toNatClampNeg) - ((S.1 39) x1.toNatClampNeg) / 512 * 512) (uI (uI S 38 8 ((S.1 38 8) - 1)) 39 x1.toNatClampNeg ((S.1 39) (((S.1 38 8) - 1).toNatClampNeg))) _ _ hc12) (Nat.le_of_ble_eq_true rfl) (Nat.le_of_ble_eq_true rfl) (Nat.le_of_ble_eq_true rfl) rfl dX5_happen_121 ?_
        have b1 := gb_step (mo_use hc12 (f_X5_pickCell_m (((S.1 39) x1.toNatClampNeg) / 512) (((S.1 39) x1.toNatClampNeg) - ((S.1 39) x1.toNatClampNeg) / 512 * 512) (uI (uI S 38 8 ((S.1 38 8) - 1)) 39 x1.toNatClampNeg ((S.1 39) (((S.1 38 8) - 1).toNatClampNeg))))) b1
        have b2 := gb_step2 (mo_use hc12 (f_X5_pickCell_m (((S.1 39) x1.toNatClampNeg) / 512) (((S.1 39) x1.toNatClampNeg) - ((S.1 39) x1.toNatClampNeg) / 512 * 512) (uI (uI S 38 8 ((S.1 38 8) - 1)) 39 x1.toNatClampNeg ((S.1 39) (((S.1 38 8) - 1).toNatClampNeg))))) b2
        refine iv_goto (pc := 124) X dX5_happen_124 (tgt := 169) rfl ?_
        cases hm
        exact is_vretG (pc := 169) X dX5_happen_169
      · rw [if_neg hb9] at hm
        by_cases hb13 : ((S.1 41) ((((S.1 39) x1.toNatClampNeg) - ((S.1 39) x1.toNatClampNeg) / 512 * 512).toNatClampNeg)) = (7 : Int32)
        · rw [if_pos hb13] at hm
          refine iv_tableIn X dX5_happen_56 (off := 71) (tgt := 127) (by rw [hb13]; decide) (by rw [hb13]; decide) (by rw [hb13]; decide) (by decide) ?_
          refine iv_aload_n (pc := 127) X dX5_happen_127 rfl ?_
          refine iv_iload_n (pc := 128) X dX5_happen_128 rfl ?_
          refine iv_iload_n (pc := 129) X dX5_happen_129 rfl ?_
          obtain ⟨⟨r15, S14⟩, hc16, hm⟩ := bd_some hm
          have m2 := mo_use (S := S14) hm (by repeat' first | with_reducible exact Mo_none _ | with_reducible refine Mo_gd ?_ | with_reducible refine Mo_ite ?_ ?_ | with_reducible refine Mo_bind ?_ (fun q => ?_) | with_reducible refine Mo_some ?_ | with_reducible refine Mo_of (f_gr65_m _ _) ?_ | with_reducible refine Mo_of (f_gr66_m _ _) ?_ | with_reducible refine Mo_of (f_gr68_m _ _) ?_ | with_reducible refine Mo_of (f_gr69_m _ _) ?_ | with_reducible refine Mo_of (f_gr70_m _ _) ?_ | with_reducible refine Mo_of (f_gr71_m _ _) ?_ | with_reducible refine Mo_of (f_gr73_m _ _) ?_ | with_reducible refine Mo_of (f_gr74_m _ _) ?_ | with_reducible refine Mo_of (f_X0_clear_m _) ?_ | with_reducible refine Mo_of (f_X0_release_m _ _) ?_ | with_reducible refine Mo_of (f_X2_clear_m _) ?_ | with_reducible refine Mo_of (f_X2_outward_L5_m _ _ _ _ _ _ _) ?_ | with_reducible refine Mo_of (f_X2_outward_m _ _ _ _) ?_ | with_reducible refine Mo_of (f_X3_takesNumbers_L12_m _ _ _ _ _ _) ?_ | with_reducible refine Mo_of (f_X3_takesNumbers_m _ _ _) ?_ | with_reducible refine Mo_of (f_X5_condition_m _) ?_ | with_reducible refine Mo_of (f_X5_slotOf_m _ _ _) ?_ | with_reducible refine Mo_of (f_X5_makeReady_m _ _ _) ?_ | with_reducible refine Mo_of (f_X5_send_m _ _ _ _ _) ?_ | with_reducible refine Mo_of (f_X5_leaveFunction_m _) ?_ | with_reducible refine Mo_of (f_X5_turn_m _ _ _) ?_ | with_reducible refine Mo_of (f_X5_leastError_m _ _ _) ?_ | with_reducible refine Mo_of (f_X5_calculate_m _ _ _ _) ?_ | with_reducible refine Mo_of (f_X8_clear_m _) ?_ | with_reducible refine Mo_of (f_X8_put_m _ _ _ _) ?_ | with_reducible refine Mo_of (f_X8_tableOf_m _ _ _) ?_ | with_reducible refine Mo_of (f_X8_firstCell_m _ _) ?_ | with_reducible refine Mo_of (f_X8_cellsIn_m _ _) ?_ | with_reducible refine Mo_of (f_J9_floorMod_f86c9_m _ _ _) ?_ | with_reducible refine Mo_of (f_J7_rangeCheck_23922_m _ _ _ _) ?_ | with_reducible refine Mo_of (f_J7_fill_bad5a_L10_m _ _ _ _ _ _ _) ?_ | with_reducible refine Mo_of (f_J7_fill_bad5a_m _ _ _ _ _) ?_ | with_reducible refine Mo_of (f_J7_fill_eb02e_L10_m _ _ _ _ _ _ _) ?_ | with_reducible refine Mo_of (f_J7_fill_eb02e_m _ _ _ _ _) ?_ | with_reducible refine Mo_of (f_X5_settle_L15_m _ _ _ _ _ _ _ _) ?_ | with_reducible refine Mo_of (f_X5_settle_m _ _ _ _ _) ?_ | with_reducible refine Mo_of (f_X5_handIn_m _ _ _ _ _) ?_ | with_reducible refine Mo_of (f_X5_cellAt_m _ _ _) ?_ | with_reducible refine Mo_of (f_X5_operate_m _ _ _) ?_ | with_reducible refine Mo_of (f_X5_pickCell_m _ _ _) ?_ | with_reducible refine Mo_of (f_X0_add_m _ _ _) ?_ | with_reducible refine Mo_of (f_X2_add_m _ _ _ _) ?_ | with_reducible refine Mo_of (f_X8_take_m _ _ _) ?_ | with_reducible refine Mo_of (f_X5_openFrame_m _ _ _ _ _) ?_ | with_reducible refine Mo_of (f_X5_enter_L16_m _ _ _ _ _ _ _) ?_ | with_reducible refine Mo_of (f_X5_enter_m _ _ _ _) ?_ | with_reducible refine Mo_of (f_X5_await_m _ _ _ _) ?_ | with_reducible refine Mo_of (f_X5_lookUp_m _ _ _ _) ?_ | with_reducible refine Mo_of (f_X5_beginLoop_L52_m _ _ _ _ _ _ _ _ _) ?_ | with_reducible refine Mo_of (f_X5_beginLoop_m _ _ _ _) ?_ | with_reducible refine Mo_of (f_X5_visit_m _ _ _ _) ?_ | with_reducible refine Mo_of (f_X5_meet_m _ _) ?_ | with_reducible refine Mo_of (f_X5_move_m _ _) ?_ | with_reducible refine Mo_of (f_X5_flow_L2_m _ _ _ _) ?_ | with_reducible refine Mo_of (f_X5_flow_m _ _) ?_ | with_reducible refine Mo_of (f_X5_choose_m _ _ _ _) ?_ | with_reducible refine Mo_of (f_X5_enterFunction_L63_m _ _ _ _ _ _ _ _ _) ?_ | with_reducible refine Mo_of (f_X5_enterFunction_m _ _ _ _) ?_ | with_reducible refine Mo_of (f_X5_endRound_m _ _ _ _) ?_ | with_reducible refine Mo_of (f_X5_makeTable_L114_m _ _ _ _ _ _ _ _ _ _) ?_ | with_reducible refine Mo_of (f_X5_makeTable_m _ _ _ _) ?_ | with_reducible refine Mo_of (f_X5_enterCell_m _ _ _ _) ?_ | with_reducible refine Mo_of (f_X5_happen_m _ _ _) ?_ | rfl)
          refine cG_X5_276_38_gA (pc := 130) X [.int (((S.1 39) x1.toNatClampNeg) / 512), .int (((S.1 39) x1.toNatClampNeg) - ((S.1 39) x1.toNatClampNeg) / 512 * 512)] [] 2 rfl (f_X5_choose_e l g (mx gA ad ga) fu (((S.1 39) x1.toNatClampNeg) / 512) (((S.1 39) x1.toNatClampNeg) - ((S.1 39) x1.toNatClampNeg) / 512 * 512) (uI (uI S 38 8 ((S.1 38 8) - 1)) 39 x1.toNatClampNeg ((S.1 39) (((S.1 38 8) - 1).toNatClampNeg))) _ _ hc16) (Nat.le_of_ble_eq_true rfl) (Nat.le_of_ble_eq_true rfl) (Nat.le_of_ble_eq_true rfl) rfl dX5_happen_130 (mo_use hc16 (f_X5_choose_m fu (((S.1 39) x1.toNatClampNeg) / 512) (((S.1 39) x1.toNatClampNeg) - ((S.1 39) x1.toNatClampNeg) / 512 * 512) (uI (uI S 38 8 ((S.1 38 8) - 1)) 39 x1.toNatClampNeg ((S.1 39) (((S.1 38 8) - 1).toNatClampNeg))))) m2 b1 b2 (fun ga bc bs b1 b2 => ?_)
          refine iv_goto (pc := 133) X dX5_happen_133 (tgt := 169) rfl ?_
          cases hm
          exact is_vretG (pc := 169) X dX5_happen_169
        · rw [if_neg hb13] at hm
          by_cases hb17 : ((S.1 41) ((((S.1 39) x1.toNatClampNeg) - ((S.1 39) x1.toNatClampNeg) / 512 * 512).toNatClampNeg)) = (8 : Int32)
          · rw [if_pos hb17] at hm
            refine iv_tableIn X dX5_happen_56 (off := 80) (tgt := 136) (by rw [hb17]; decide) (by rw [hb17]; decide) (by rw [hb17]; decide) (by decide) ?_
            refine iv_aload_n (pc := 136) X dX5_happen_136 rfl ?_
            refine iv_iload_n (pc := 137) X dX5_happen_137 rfl ?_
            refine iv_iload_n (pc := 138) X dX5_happen_138 rfl ?_
            obtain ⟨⟨r19, S18⟩, hc20, hm⟩ := bd_some hm
            have m2 := mo_use (S := S18) hm (by repeat' first | with_reducible exact Mo_none _ | with_reducible refine Mo_gd ?_ | with_reducible refine Mo_ite ?_ ?_ | with_reducible refine Mo_bind ?_ (fun q => ?_) | with_reducible refine Mo_some ?_ | with_reducible refine Mo_of (f_gr65_m _ _) ?_ | with_reducible refine Mo_of (f_gr66_m _ _) ?_ | with_reducible refine Mo_of (f_gr68_m _ _) ?_ | with_reducible refine Mo_of (f_gr69_m _ _) ?_ | with_reducible refine Mo_of (f_gr70_m _ _) ?_ | with_reducible refine Mo_of (f_gr71_m _ _) ?_ | with_reducible refine Mo_of (f_gr73_m _ _) ?_ | with_reducible refine Mo_of (f_gr74_m _ _) ?_ | with_reducible refine Mo_of (f_X0_clear_m _) ?_ | with_reducible refine Mo_of (f_X0_release_m _ _) ?_ | with_reducible refine Mo_of (f_X2_clear_m _) ?_ | with_reducible refine Mo_of (f_X2_outward_L5_m _ _ _ _ _ _ _) ?_ | with_reducible refine Mo_of (f_X2_outward_m _ _ _ _) ?_ | with_reducible refine Mo_of (f_X3_takesNumbers_L12_m _ _ _ _ _ _) ?_ | with_reducible refine Mo_of (f_X3_takesNumbers_m _ _ _) ?_ | with_reducible refine Mo_of (f_X5_condition_m _) ?_ | with_reducible refine Mo_of (f_X5_slotOf_m _ _ _) ?_ | with_reducible refine Mo_of (f_X5_makeReady_m _ _ _) ?_ | with_reducible refine Mo_of (f_X5_send_m _ _ _ _ _) ?_ | with_reducible refine Mo_of (f_X5_leaveFunction_m _) ?_ | with_reducible refine Mo_of (f_X5_turn_m _ _ _) ?_ | with_reducible refine Mo_of (f_X5_leastError_m _ _ _) ?_ | with_reducible refine Mo_of (f_X5_calculate_m _ _ _ _) ?_ | with_reducible refine Mo_of (f_X8_clear_m _) ?_ | with_reducible refine Mo_of (f_X8_put_m _ _ _ _) ?_ | with_reducible refine Mo_of (f_X8_tableOf_m _ _ _) ?_ | with_reducible refine Mo_of (f_X8_firstCell_m _ _) ?_ | with_reducible refine Mo_of (f_X8_cellsIn_m _ _) ?_ | with_reducible refine Mo_of (f_J9_floorMod_f86c9_m _ _ _) ?_ | with_reducible refine Mo_of (f_J7_rangeCheck_23922_m _ _ _ _) ?_ | with_reducible refine Mo_of (f_J7_fill_bad5a_L10_m _ _ _ _ _ _ _) ?_ | with_reducible refine Mo_of (f_J7_fill_bad5a_m _ _ _ _ _) ?_ | with_reducible refine Mo_of (f_J7_fill_eb02e_L10_m _ _ _ _ _ _ _) ?_ | with_reducible refine Mo_of (f_J7_fill_eb02e_m _ _ _ _ _) ?_ | with_reducible refine Mo_of (f_X5_settle_L15_m _ _ _ _ _ _ _ _) ?_ | with_reducible refine Mo_of (f_X5_settle_m _ _ _ _ _) ?_ | with_reducible refine Mo_of (f_X5_handIn_m _ _ _ _ _) ?_ | with_reducible refine Mo_of (f_X5_cellAt_m _ _ _) ?_ | with_reducible refine Mo_of (f_X5_operate_m _ _ _) ?_ | with_reducible refine Mo_of (f_X5_pickCell_m _ _ _) ?_ | with_reducible refine Mo_of (f_X0_add_m _ _ _) ?_ | with_reducible refine Mo_of (f_X2_add_m _ _ _ _) ?_ | with_reducible refine Mo_of (f_X8_take_m _ _ _) ?_ | with_reducible refine Mo_of (f_X5_openFrame_m _ _ _ _ _) ?_ | with_reducible refine Mo_of (f_X5_enter_L16_m _ _ _ _ _ _ _) ?_ | with_reducible refine Mo_of (f_X5_enter_m _ _ _ _) ?_ | with_reducible refine Mo_of (f_X5_await_m _ _ _ _) ?_ | with_reducible refine Mo_of (f_X5_lookUp_m _ _ _ _) ?_ | with_reducible refine Mo_of (f_X5_beginLoop_L52_m _ _ _ _ _ _ _ _ _) ?_ | with_reducible refine Mo_of (f_X5_beginLoop_m _ _ _ _) ?_ | with_reducible refine Mo_of (f_X5_visit_m _ _ _ _) ?_ | with_reducible refine Mo_of (f_X5_meet_m _ _) ?_ | with_reducible refine Mo_of (f_X5_move_m _ _) ?_ | with_reducible refine Mo_of (f_X5_flow_L2_m _ _ _ _) ?_ | with_reducible refine Mo_of (f_X5_flow_m _ _) ?_ | with_reducible refine Mo_of (f_X5_choose_m _ _ _ _) ?_ | with_reducible refine Mo_of (f_X5_enterFunction_L63_m _ _ _ _ _ _ _ _ _) ?_ | with_reducible refine Mo_of (f_X5_enterFunction_m _ _ _ _) ?_ | with_reducible refine Mo_of (f_X5_endRound_m _ _ _ _) ?_ | with_reducible refine Mo_of (f_X5_makeTable_L114_m _ _ _ _ _ _ _ _ _ _) ?_ | with_reducible refine Mo_of (f_X5_makeTable_m _ _ _ _) ?_ | with_reducible refine Mo_of (f_X5_enterCell_m _ _ _ _) ?_ | with_reducible refine Mo_of (f_X5_happen_m _ _ _) ?_ | rfl)
            refine cG_X5_279_38_gA (pc := 139) X [.int (((S.1 39) x1.toNatClampNeg) / 512), .int (((S.1 39) x1.toNatClampNeg) - ((S.1 39) x1.toNatClampNeg) / 512 * 512)] [] 2 rfl (f_X5_enterFunction_e l g (mx gA ad ga) fu (((S.1 39) x1.toNatClampNeg) / 512) (((S.1 39) x1.toNatClampNeg) - ((S.1 39) x1.toNatClampNeg) / 512 * 512) (uI (uI S 38 8 ((S.1 38 8) - 1)) 39 x1.toNatClampNeg ((S.1 39) (((S.1 38 8) - 1).toNatClampNeg))) _ _ hc20) (Nat.le_of_ble_eq_true rfl) (Nat.le_of_ble_eq_true rfl) (Nat.le_of_ble_eq_true rfl) rfl dX5_happen_139 (mo_use hc20 (f_X5_enterFunction_m fu (((S.1 39) x1.toNatClampNeg) / 512) (((S.1 39) x1.toNatClampNeg) - ((S.1 39) x1.toNatClampNeg) / 512 * 512) (uI (uI S 38 8 ((S.1 38 8) - 1)) 39 x1.toNatClampNeg ((S.1 39) (((S.1 38 8) - 1).toNatClampNeg))))) m2 b1 b2 (fun ga bc bs b1 b2 => ?_)
            refine iv_goto (pc := 142) X dX5_happen_142 (tgt := 169) rfl ?_
            cases hm
            exact is_vretG (pc := 169) X dX5_happen_169
          · rw [if_neg hb17] at hm
            by_cases hb21 : ((S.1 41) ((((S.1 39) x1.toNatClampNeg) - ((S.1 39) x1.toNatClampNeg) / 512 * 512).toNatClampNeg)) = (9 : Int32)
            · rw [if_pos hb21] at hm
              refine iv_tableIn X dX5_happen_56 (off := 89) (tgt := 145) (by rw [hb21]; decide) (by rw [hb21]; decide) (by rw [hb21]; decide) (by decide) ?_
              refine iv_aload_n (pc := 145) X dX5_happen_145 rfl ?_
              refine iv_iload_n (pc := 146) X dX5_happen_146 rfl ?_
              refine iv_iload_n (pc := 147) X dX5_happen_147 rfl ?_
              obtain ⟨⟨r23, S22⟩, hc24, hm⟩ := bd_some hm
              have m2 := mo_use (S := S22) hm (by repeat' first | with_reducible exact Mo_none _ | with_reducible refine Mo_gd ?_ | with_reducible refine Mo_ite ?_ ?_ | with_reducible refine Mo_bind ?_ (fun q => ?_) | with_reducible refine Mo_some ?_ | with_reducible refine Mo_of (f_gr65_m _ _) ?_ | with_reducible refine Mo_of (f_gr66_m _ _) ?_ | with_reducible refine Mo_of (f_gr68_m _ _) ?_ | with_reducible refine Mo_of (f_gr69_m _ _) ?_ | with_reducible refine Mo_of (f_gr70_m _ _) ?_ | with_reducible refine Mo_of (f_gr71_m _ _) ?_ | with_reducible refine Mo_of (f_gr73_m _ _) ?_ | with_reducible refine Mo_of (f_gr74_m _ _) ?_ | with_reducible refine Mo_of (f_X0_clear_m _) ?_ | with_reducible refine Mo_of (f_X0_release_m _ _) ?_ | with_reducible refine Mo_of (f_X2_clear_m _) ?_ | with_reducible refine Mo_of (f_X2_outward_L5_m _ _ _ _ _ _ _) ?_ | with_reducible refine Mo_of (f_X2_outward_m _ _ _ _) ?_ | with_reducible refine Mo_of (f_X3_takesNumbers_L12_m _ _ _ _ _ _) ?_ | with_reducible refine Mo_of (f_X3_takesNumbers_m _ _ _) ?_ | with_reducible refine Mo_of (f_X5_condition_m _) ?_ | with_reducible refine Mo_of (f_X5_slotOf_m _ _ _) ?_ | with_reducible refine Mo_of (f_X5_makeReady_m _ _ _) ?_ | with_reducible refine Mo_of (f_X5_send_m _ _ _ _ _) ?_ | with_reducible refine Mo_of (f_X5_leaveFunction_m _) ?_ | with_reducible refine Mo_of (f_X5_turn_m _ _ _) ?_ | with_reducible refine Mo_of (f_X5_leastError_m _ _ _) ?_ | with_reducible refine Mo_of (f_X5_calculate_m _ _ _ _) ?_ | with_reducible refine Mo_of (f_X8_clear_m _) ?_ | with_reducible refine Mo_of (f_X8_put_m _ _ _ _) ?_ | with_reducible refine Mo_of (f_X8_tableOf_m _ _ _) ?_ | with_reducible refine Mo_of (f_X8_firstCell_m _ _) ?_ | with_reducible refine Mo_of (f_X8_cellsIn_m _ _) ?_ | with_reducible refine Mo_of (f_J9_floorMod_f86c9_m _ _ _) ?_ | with_reducible refine Mo_of (f_J7_rangeCheck_23922_m _ _ _ _) ?_ | with_reducible refine Mo_of (f_J7_fill_bad5a_L10_m _ _ _ _ _ _ _) ?_ | with_reducible refine Mo_of (f_J7_fill_bad5a_m _ _ _ _ _) ?_ | with_reducible refine Mo_of (f_J7_fill_eb02e_L10_m _ _ _ _ _ _ _) ?_ | with_reducible refine Mo_of (f_J7_fill_eb02e_m _ _ _ _ _) ?_ | with_reducible refine Mo_of (f_X5_settle_L15_m _ _ _ _ _ _ _ _) ?_ | with_reducible refine Mo_of (f_X5_settle_m _ _ _ _ _) ?_ | with_reducible refine Mo_of (f_X5_handIn_m _ _ _ _ _) ?_ | with_reducible refine Mo_of (f_X5_cellAt_m _ _ _) ?_ | with_reducible refine Mo_of (f_X5_operate_m _ _ _) ?_ | with_reducible refine Mo_of (f_X5_pickCell_m _ _ _) ?_ | with_reducible refine Mo_of (f_X0_add_m _ _ _) ?_ | with_reducible refine Mo_of (f_X2_add_m _ _ _ _) ?_ | with_reducible refine Mo_of (f_X8_take_m _ _ _) ?_ | with_reducible refine Mo_of (f_X5_openFrame_m _ _ _ _ _) ?_ | with_reducible refine Mo_of (f_X5_enter_L16_m _ _ _ _ _ _ _) ?_ | with_reducible refine Mo_of (f_X5_enter_m _ _ _ _) ?_ | with_reducible refine Mo_of (f_X5_await_m _ _ _ _) ?_ | with_reducible refine Mo_of (f_X5_lookUp_m _ _ _ _) ?_ | with_reducible refine Mo_of (f_X5_beginLoop_L52_m _ _ _ _ _ _ _ _ _) ?_ | with_reducible refine Mo_of (f_X5_beginLoop_m _ _ _ _) ?_ | with_reducible refine Mo_of (f_X5_visit_m _ _ _ _) ?_ | with_reducible refine Mo_of (f_X5_meet_m _ _) ?_ | with_reducible refine Mo_of (f_X5_move_m _ _) ?_ | with_reducible refine Mo_of (f_X5_flow_L2_m _ _ _ _) ?_ | with_reducible refine Mo_of (f_X5_flow_m _ _) ?_ | with_reducible refine Mo_of (f_X5_choose_m _ _ _ _) ?_ | with_reducible refine Mo_of (f_X5_enterFunction_L63_m _ _ _ _ _ _ _ _ _) ?_ | with_reducible refine Mo_of (f_X5_enterFunction_m _ _ _ _) ?_ | with_reducible refine Mo_of (f_X5_endRound_m _ _ _ _) ?_ | with_reducible refine Mo_of (f_X5_makeTable_L114_m _ _ _ _ _ _ _ _ _ _) ?_ | with_reducible refine Mo_of (f_X5_makeTable_m _ _ _ _) ?_ | with_reducible refine Mo_of (f_X5_enterCell_m _ _ _ _) ?_ | with_reducible refine Mo_of (f_X5_happen_m _ _ _) ?_ | rfl)
              refine cG_X5_282_38_gA (pc := 148) X [.int (((S.1 39) x1.toNatClampNeg) / 512), .int (((S.1 39) x1.toNatClampNeg) - ((S.1 39) x1.toNatClampNeg) / 512 * 512)] [] 2 rfl (f_X5_endRound_e l g (mx gA ad ga) fu (((S.1 39) x1.toNatClampNeg) / 512) (((S.1 39) x1.toNatClampNeg) - ((S.1 39) x1.toNatClampNeg) / 512 * 512) (uI (uI S 38 8 ((S.1 38 8) - 1)) 39 x1.toNatClampNeg ((S.1 39) (((S.1 38 8) - 1).toNatClampNeg))) _ _ hc24) (Nat.le_of_ble_eq_true rfl) (Nat.le_of_ble_eq_true rfl) (Nat.le_of_ble_eq_true rfl) rfl dX5_happen_148 (mo_use hc24 (f_X5_endRound_m fu (((S.1 39) x1.toNatClampNeg) / 512) (((S.1 39) x1.toNatClampNeg) - ((S.1 39) x1.toNatClampNeg) / 512 * 512) (uI (uI S 38 8 ((S.1 38 8) - 1)) 39 x1.toNatClampNeg ((S.1 39) (((S.1 38 8) - 1).toNatClampNeg))))) m2 b1 b2 (fun ga bc bs b1 b2 => ?_)
              refine iv_goto (pc := 151) X dX5_happen_151 (tgt := 169) rfl ?_
              cases hm
              exact is_vretG (pc := 169) X dX5_happen_169
            · rw [if_neg hb21] at hm
              by_cases hb25 : ((S.1 41) ((((S.1 39) x1.toNatClampNeg) - ((S.1 39) x1.toNatClampNeg) / 512 * 512).toNatClampNeg)) = (10 : Int32)
              · rw [if_pos hb25] at hm
                refine iv_tableIn X dX5_happen_56 (off := 98) (tgt := 154) (by rw [hb25]; decide) (by rw [hb25]; decide) (by rw [hb25]; decide) (by decide) ?_
                refine iv_aload_n (pc := 154) X dX5_happen_154 rfl ?_
                refine iv_iload_n (pc := 155) X dX5_happen_155 rfl ?_
                refine iv_iload_n (pc := 156) X dX5_happen_156 rfl ?_
                obtain ⟨⟨r27, S26⟩, hc28, hm⟩ := bd_some hm
                have m2 := mo_use (S := S26) hm (by repeat' first | with_reducible exact Mo_none _ | with_reducible refine Mo_gd ?_ | with_reducible refine Mo_ite ?_ ?_ | with_reducible refine Mo_bind ?_ (fun q => ?_) | with_reducible refine Mo_some ?_ | with_reducible refine Mo_of (f_gr65_m _ _) ?_ | with_reducible refine Mo_of (f_gr66_m _ _) ?_ | with_reducible refine Mo_of (f_gr68_m _ _) ?_ | with_reducible refine Mo_of (f_gr69_m _ _) ?_ | with_reducible refine Mo_of (f_gr70_m _ _) ?_ | with_reducible refine Mo_of (f_gr71_m _ _) ?_ | with_reducible refine Mo_of (f_gr73_m _ _) ?_ | with_reducible refine Mo_of (f_gr74_m _ _) ?_ | with_reducible refine Mo_of (f_X0_clear_m _) ?_ | with_reducible refine Mo_of (f_X0_release_m _ _) ?_ | with_reducible refine Mo_of (f_X2_clear_m _) ?_ | with_reducible refine Mo_of (f_X2_outward_L5_m _ _ _ _ _ _ _) ?_ | with_reducible refine Mo_of (f_X2_outward_m _ _ _ _) ?_ | with_reducible refine Mo_of (f_X3_takesNumbers_L12_m _ _ _ _ _ _) ?_ | with_reducible refine Mo_of (f_X3_takesNumbers_m _ _ _) ?_ | with_reducible refine Mo_of (f_X5_condition_m _) ?_ | with_reducible refine Mo_of (f_X5_slotOf_m _ _ _) ?_ | with_reducible refine Mo_of (f_X5_makeReady_m _ _ _) ?_ | with_reducible refine Mo_of (f_X5_send_m _ _ _ _ _) ?_ | with_reducible refine Mo_of (f_X5_leaveFunction_m _) ?_ | with_reducible refine Mo_of (f_X5_turn_m _ _ _) ?_ | with_reducible refine Mo_of (f_X5_leastError_m _ _ _) ?_ | with_reducible refine Mo_of (f_X5_calculate_m _ _ _ _) ?_ | with_reducible refine Mo_of (f_X8_clear_m _) ?_ | with_reducible refine Mo_of (f_X8_put_m _ _ _ _) ?_ | with_reducible refine Mo_of (f_X8_tableOf_m _ _ _) ?_ | with_reducible refine Mo_of (f_X8_firstCell_m _ _) ?_ | with_reducible refine Mo_of (f_X8_cellsIn_m _ _) ?_ | with_reducible refine Mo_of (f_J9_floorMod_f86c9_m _ _ _) ?_ | with_reducible refine Mo_of (f_J7_rangeCheck_23922_m _ _ _ _) ?_ | with_reducible refine Mo_of (f_J7_fill_bad5a_L10_m _ _ _ _ _ _ _) ?_ | with_reducible refine Mo_of (f_J7_fill_bad5a_m _ _ _ _ _) ?_ | with_reducible refine Mo_of (f_J7_fill_eb02e_L10_m _ _ _ _ _ _ _) ?_ | with_reducible refine Mo_of (f_J7_fill_eb02e_m _ _ _ _ _) ?_ | with_reducible refine Mo_of (f_X5_settle_L15_m _ _ _ _ _ _ _ _) ?_ | with_reducible refine Mo_of (f_X5_settle_m _ _ _ _ _) ?_ | with_reducible refine Mo_of (f_X5_handIn_m _ _ _ _ _) ?_ | with_reducible refine Mo_of (f_X5_cellAt_m _ _ _) ?_ | with_reducible refine Mo_of (f_X5_operate_m _ _ _) ?_ | with_reducible refine Mo_of (f_X5_pickCell_m _ _ _) ?_ | with_reducible refine Mo_of (f_X0_add_m _ _ _) ?_ | with_reducible refine Mo_of (f_X2_add_m _ _ _ _) ?_ | with_reducible refine Mo_of (f_X8_take_m _ _ _) ?_ | with_reducible refine Mo_of (f_X5_openFrame_m _ _ _ _ _) ?_ | with_reducible refine Mo_of (f_X5_enter_L16_m _ _ _ _ _ _ _) ?_ | with_reducible refine Mo_of (f_X5_enter_m _ _ _ _) ?_ | with_reducible refine Mo_of (f_X5_await_m _ _ _ _) ?_ | with_reducible refine Mo_of (f_X5_lookUp_m _ _ _ _) ?_ | with_reducible refine Mo_of (f_X5_beginLoop_L52_m _ _ _ _ _ _ _ _ _) ?_ | with_reducible refine Mo_of (f_X5_beginLoop_m _ _ _ _) ?_ | with_reducible refine Mo_of (f_X5_visit_m _ _ _ _) ?_ | with_reducible refine Mo_of (f_X5_meet_m _ _) ?_ | with_reducible refine Mo_of (f_X5_move_m _ _) ?_ | with_reducible refine Mo_of (f_X5_flow_L2_m _ _ _ _) ?_ | with_reducible refine Mo_of (f_X5_flow_m _ _) ?_ | with_reducible refine Mo_of (f_X5_choose_m _ _ _ _) ?_ | with_reducible refine Mo_of (f_X5_enterFunction_L63_m _ _ _ _ _ _ _ _ _) ?_ | with_reducible refine Mo_of (f_X5_enterFunction_m _ _ _ _) ?_ | with_reducible refine Mo_of (f_X5_endRound_m _ _ _ _) ?_ | with_reducible refine Mo_of (f_X5_makeTable_L114_m _ _ _ _ _ _ _ _ _ _) ?_ | with_reducible refine Mo_of (f_X5_makeTable_m _ _ _ _) ?_ | with_reducible refine Mo_of (f_X5_enterCell_m _ _ _ _) ?_ | with_reducible refine Mo_of (f_X5_happen_m _ _ _) ?_ | rfl)
                refine cG_X5_285_38_gA (pc := 157) X [.int (((S.1 39) x1.toNatClampNeg) / 512), .int (((S.1 39) x1.toNatClampNeg) - ((S.1 39) x1.toNatClampNeg) / 512 * 512)] [] 2 rfl (f_X5_makeTable_e l g (mx gA ad ga) fu (((S.1 39) x1.toNatClampNeg) / 512) (((S.1 39) x1.toNatClampNeg) - ((S.1 39) x1.toNatClampNeg) / 512 * 512) (uI (uI S 38 8 ((S.1 38 8) - 1)) 39 x1.toNatClampNeg ((S.1 39) (((S.1 38 8) - 1).toNatClampNeg))) _ _ hc28) (Nat.le_of_ble_eq_true rfl) (Nat.le_of_ble_eq_true rfl) (Nat.le_of_ble_eq_true rfl) rfl dX5_happen_157 (mo_use hc28 (f_X5_makeTable_m fu (((S.1 39) x1.toNatClampNeg) / 512) (((S.1 39) x1.toNatClampNeg) - ((S.1 39) x1.toNatClampNeg) / 512 * 512) (uI (uI S 38 8 ((S.1 38 8) - 1)) 39 x1.toNatClampNeg ((S.1 39) (((S.1 38 8) - 1).toNatClampNeg))))) m2 b1 b2 (fun ga bc bs b1 b2 => ?_)
                refine iv_goto (pc := 160) X dX5_happen_160 (tgt := 169) rfl ?_
                cases hm
                exact is_vretG (pc := 169) X dX5_happen_169
              · rw [if_neg hb25] at hm
                have k0 := sw_ne hb1 (n := 4) (by decide)
                have k1 := sw_ne hb5 (n := 5) (by decide)
                have k2 := sw_ne hb9 (n := 6) (by decide)
                have k3 := sw_ne hb13 (n := 7) (by decide)
                have k4 := sw_ne hb17 (n := 8) (by decide)
                have k5 := sw_ne hb21 (n := 9) (by decide)
                have k6 := sw_ne hb25 (n := 10) (by decide)
                refine iv_tableOut X dX5_happen_56 (tgt := 163) (by omega) (by decide) ?_
                refine iv_aload_n (pc := 163) X dX5_happen_163 rfl ?_
                refine iv_iload_n (pc := 164) X dX5_happen_164 rfl ?_
                refine iv_iload_n (pc := 165) X dX5_happen_165 rfl ?_
                obtain ⟨⟨r30, S29⟩, hc31, hm⟩ := bd_some hm
                have m2 := mo_use (S := S29) hm (by repeat' first | with_reducible exact Mo_none _ | with_reducible refine Mo_gd ?_ | with_reducible refine Mo_ite ?_ ?_ | with_reducible refine Mo_bind ?_ (fun q => ?_) | with_reducible refine Mo_some ?_ | with_reducible refine Mo_of (f_gr65_m _ _) ?_ | with_reducible refine Mo_of (f_gr66_m _ _) ?_ | with_reducible refine Mo_of (f_gr68_m _ _) ?_ | with_reducible refine Mo_of (f_gr69_m _ _) ?_ | with_reducible refine Mo_of (f_gr70_m _ _) ?_ | with_reducible refine Mo_of (f_gr71_m _ _) ?_ | with_reducible refine Mo_of (f_gr73_m _ _) ?_ | with_reducible refine Mo_of (f_gr74_m _ _) ?_ | with_reducible refine Mo_of (f_X0_clear_m _) ?_ | with_reducible refine Mo_of (f_X0_release_m _ _) ?_ | with_reducible refine Mo_of (f_X2_clear_m _) ?_ | with_reducible refine Mo_of (f_X2_outward_L5_m _ _ _ _ _ _ _) ?_ | with_reducible refine Mo_of (f_X2_outward_m _ _ _ _) ?_ | with_reducible refine Mo_of (f_X3_takesNumbers_L12_m _ _ _ _ _ _) ?_ | with_reducible refine Mo_of (f_X3_takesNumbers_m _ _ _) ?_ | with_reducible refine Mo_of (f_X5_condition_m _) ?_ | with_reducible refine Mo_of (f_X5_slotOf_m _ _ _) ?_ | with_reducible refine Mo_of (f_X5_makeReady_m _ _ _) ?_ | with_reducible refine Mo_of (f_X5_send_m _ _ _ _ _) ?_ | with_reducible refine Mo_of (f_X5_leaveFunction_m _) ?_ | with_reducible refine Mo_of (f_X5_turn_m _ _ _) ?_ | with_reducible refine Mo_of (f_X5_leastError_m _ _ _) ?_ | with_reducible refine Mo_of (f_X5_calculate_m _ _ _ _) ?_ | with_reducible refine Mo_of (f_X8_clear_m _) ?_ | with_reducible refine Mo_of (f_X8_put_m _ _ _ _) ?_ | with_reducible refine Mo_of (f_X8_tableOf_m _ _ _) ?_ | with_reducible refine Mo_of (f_X8_firstCell_m _ _) ?_ | with_reducible refine Mo_of (f_X8_cellsIn_m _ _) ?_ | with_reducible refine Mo_of (f_J9_floorMod_f86c9_m _ _ _) ?_ | with_reducible refine Mo_of (f_J7_rangeCheck_23922_m _ _ _ _) ?_ | with_reducible refine Mo_of (f_J7_fill_bad5a_L10_m _ _ _ _ _ _ _) ?_ | with_reducible refine Mo_of (f_J7_fill_bad5a_m _ _ _ _ _) ?_ | with_reducible refine Mo_of (f_J7_fill_eb02e_L10_m _ _ _ _ _ _ _) ?_ | with_reducible refine Mo_of (f_J7_fill_eb02e_m _ _ _ _ _) ?_ | with_reducible refine Mo_of (f_X5_settle_L15_m _ _ _ _ _ _ _ _) ?_ | with_reducible refine Mo_of (f_X5_settle_m _ _ _ _ _) ?_ | with_reducible refine Mo_of (f_X5_handIn_m _ _ _ _ _) ?_ | with_reducible refine Mo_of (f_X5_cellAt_m _ _ _) ?_ | with_reducible refine Mo_of (f_X5_operate_m _ _ _) ?_ | with_reducible refine Mo_of (f_X5_pickCell_m _ _ _) ?_ | with_reducible refine Mo_of (f_X0_add_m _ _ _) ?_ | with_reducible refine Mo_of (f_X2_add_m _ _ _ _) ?_ | with_reducible refine Mo_of (f_X8_take_m _ _ _) ?_ | with_reducible refine Mo_of (f_X5_openFrame_m _ _ _ _ _) ?_ | with_reducible refine Mo_of (f_X5_enter_L16_m _ _ _ _ _ _ _) ?_ | with_reducible refine Mo_of (f_X5_enter_m _ _ _ _) ?_ | with_reducible refine Mo_of (f_X5_await_m _ _ _ _) ?_ | with_reducible refine Mo_of (f_X5_lookUp_m _ _ _ _) ?_ | with_reducible refine Mo_of (f_X5_beginLoop_L52_m _ _ _ _ _ _ _ _ _) ?_ | with_reducible refine Mo_of (f_X5_beginLoop_m _ _ _ _) ?_ | with_reducible refine Mo_of (f_X5_visit_m _ _ _ _) ?_ | with_reducible refine Mo_of (f_X5_meet_m _ _) ?_ | with_reducible refine Mo_of (f_X5_move_m _ _) ?_ | with_reducible refine Mo_of (f_X5_flow_L2_m _ _ _ _) ?_ | with_reducible refine Mo_of (f_X5_flow_m _ _) ?_ | with_reducible refine Mo_of (f_X5_choose_m _ _ _ _) ?_ | with_reducible refine Mo_of (f_X5_enterFunction_L63_m _ _ _ _ _ _ _ _ _) ?_ | with_reducible refine Mo_of (f_X5_enterFunction_m _ _ _ _) ?_ | with_reducible refine Mo_of (f_X5_endRound_m _ _ _ _) ?_ | with_reducible refine Mo_of (f_X5_makeTable_L114_m _ _ _ _ _ _ _ _ _ _) ?_ | with_reducible refine Mo_of (f_X5_makeTable_m _ _ _ _) ?_ | with_reducible refine Mo_of (f_X5_enterCell_m _ _ _ _) ?_ | with_reducible refine Mo_of (f_X5_happen_m _ _ _) ?_ | rfl)
                refine cG_X5_288_38_gA (pc := 166) X [.int (((S.1 39) x1.toNatClampNeg) / 512), .int (((S.1 39) x1.toNatClampNeg) - ((S.1 39) x1.toNatClampNeg) / 512 * 512)] [] 2 rfl (f_X5_enterCell_e l g (mx gA ad ga) fu (((S.1 39) x1.toNatClampNeg) / 512) (((S.1 39) x1.toNatClampNeg) - ((S.1 39) x1.toNatClampNeg) / 512 * 512) (uI (uI S 38 8 ((S.1 38 8) - 1)) 39 x1.toNatClampNeg ((S.1 39) (((S.1 38 8) - 1).toNatClampNeg))) _ _ hc31) (Nat.le_of_ble_eq_true rfl) (Nat.le_of_ble_eq_true rfl) (Nat.le_of_ble_eq_true rfl) rfl dX5_happen_166 (mo_use hc31 (f_X5_enterCell_m fu (((S.1 39) x1.toNatClampNeg) / 512) (((S.1 39) x1.toNatClampNeg) - ((S.1 39) x1.toNatClampNeg) / 512 * 512) (uI (uI S 38 8 ((S.1 38 8) - 1)) 39 x1.toNatClampNeg ((S.1 39) (((S.1 38 8) - 1).toNatClampNeg))))) m2 b1 b2 (fun ga bc bs b1 b2 => ?_)
                cases hm
                exact is_vretG (pc := 169) X dX5_happen_169
def f_X5_begin_L90 (fu : Nat) : Nat → Int32 → Int32 → Int32 → Int32 → Int32 → im_S → Option (Unit × im_S)
  | 0, _, _, _, _, _, _ => none
  | nf + 1, z1, z3, z4, z5, z6, S => if (4 : Int32) ≤ z6 then ((f_X5_enter fu z4 z3 S).bind (fun qS2 => (f_X5_flow fu qS2.2).bind (fun qS5 => some ((), qS5.2)))) else (if (z5 : Int32) = (-1) then ((f_X5_enter fu z4 z3 S).bind (fun qS9 => (f_X5_flow fu qS9.2).bind (fun qS12 => some ((), qS12.2)))) else ((f_X5_slotOf z4 z5 S).bind (fun qS15 => gd (in_b z6 4) ((f_X8_put qS15.1 1 ((qS15.2.2.1 2) z6.toNatClampNeg) qS15.2).bind (fun qS18 => gd (in_b z5 512) (f_X5_begin_L90 fu nf z1 z3 z4 ((qS18.2.1 48) z5.toNatClampNeg) (z6 + 1) qS18.2))))))
theorem f_X5_begin_L90_m (fu : Nat) : ∀ (nf : Nat) (z1 : Int32) (z3 : Int32) (z4 : Int32) (z5 : Int32) (z6 : Int32) (S : im_S), Mo (f_X5_begin_L90 fu nf z1 z3 z4 z5 z6 S) S := by
  intro nf
  induction nf with
  | zero => intro z1 z3 z4 z5 z6 S; exact Mo_none _
  | succ nf ih =>
    intro z1 z3 z4 z5 z6 S
    unfold f_X5_begin_L90
    repeat' first | with_reducible exact Mo_none _ | with_reducible refine Mo_gd ?_ | with_reducible refine Mo_ite ?_ ?_ | with_reducible refine Mo_bind ?_ (fun q => ?_) | with_reducible refine Mo_some ?_ | with_reducible refine Mo_of (ih _ _ _ _ _ _) ?_ | with_reducible refine Mo_of (f_gr65_m _ _) ?_ | with_reducible refine Mo_of (f_gr66_m _ _) ?_ | with_reducible refine Mo_of (f_gr68_m _ _) ?_ | with_reducible refine Mo_of (f_gr69_m _ _) ?_ | with_reducible refine Mo_of (f_gr70_m _ _) ?_ | with_reducible refine Mo_of (f_gr71_m _ _) ?_ | with_reducible refine Mo_of (f_gr73_m _ _) ?_ | with_reducible refine Mo_of (f_gr74_m _ _) ?_ | with_reducible refine Mo_of (f_X0_clear_m _) ?_ | with_reducible refine Mo_of (f_X0_release_m _ _) ?_ | with_reducible refine Mo_of (f_X2_clear_m _) ?_ | with_reducible refine Mo_of (f_X2_outward_L5_m _ _ _ _ _ _ _) ?_ | with_reducible refine Mo_of (f_X2_outward_m _ _ _ _) ?_ | with_reducible refine Mo_of (f_X3_takesNumbers_L12_m _ _ _ _ _ _) ?_ | with_reducible refine Mo_of (f_X3_takesNumbers_m _ _ _) ?_ | with_reducible refine Mo_of (f_X5_condition_m _) ?_ | with_reducible refine Mo_of (f_X5_slotOf_m _ _ _) ?_ | with_reducible refine Mo_of (f_X5_makeReady_m _ _ _) ?_ | with_reducible refine Mo_of (f_X5_send_m _ _ _ _ _) ?_ | with_reducible refine Mo_of (f_X5_leaveFunction_m _) ?_ | with_reducible refine Mo_of (f_X5_turn_m _ _ _) ?_ | with_reducible refine Mo_of (f_X5_leastError_m _ _ _) ?_ | with_reducible refine Mo_of (f_X5_calculate_m _ _ _ _) ?_ | with_reducible refine Mo_of (f_X8_clear_m _) ?_ | with_reducible refine Mo_of (f_X8_put_m _ _ _ _) ?_ | with_reducible refine Mo_of (f_X8_tableOf_m _ _ _) ?_ | with_reducible refine Mo_of (f_X8_firstCell_m _ _) ?_ | with_reducible refine Mo_of (f_X8_cellsIn_m _ _) ?_ | with_reducible refine Mo_of (f_J9_floorMod_f86c9_m _ _ _) ?_ | with_reducible refine Mo_of (f_J7_rangeCheck_23922_m _ _ _ _) ?_ | with_reducible refine Mo_of (f_J7_fill_bad5a_L10_m _ _ _ _ _ _ _) ?_ | with_reducible refine Mo_of (f_J7_fill_bad5a_m _ _ _ _ _) ?_ | with_reducible refine Mo_of (f_J7_fill_eb02e_L10_m _ _ _ _ _ _ _) ?_ | with_reducible refine Mo_of (f_J7_fill_eb02e_m _ _ _ _ _) ?_ | with_reducible refine Mo_of (f_X5_settle_L15_m _ _ _ _ _ _ _ _) ?_ | with_reducible refine Mo_of (f_X5_settle_m _ _ _ _ _) ?_ | with_reducible refine Mo_of (f_X5_handIn_m _ _ _ _ _) ?_ | with_reducible refine Mo_of (f_X5_cellAt_m _ _ _) ?_ | with_reducible refine Mo_of (f_X5_operate_m _ _ _) ?_ | with_reducible refine Mo_of (f_X5_pickCell_m _ _ _) ?_ | with_reducible refine Mo_of (f_X0_add_m _ _ _) ?_ | with_reducible refine Mo_of (f_X2_add_m _ _ _ _) ?_ | with_reducible refine Mo_of (f_X8_take_m _ _ _) ?_ | with_reducible refine Mo_of (f_X5_openFrame_m _ _ _ _ _) ?_ | with_reducible refine Mo_of (f_X5_enter_L16_m _ _ _ _ _ _ _) ?_ | with_reducible refine Mo_of (f_X5_enter_m _ _ _ _) ?_ | with_reducible refine Mo_of (f_X5_await_m _ _ _ _) ?_ | with_reducible refine Mo_of (f_X5_lookUp_m _ _ _ _) ?_ | with_reducible refine Mo_of (f_X5_beginLoop_L52_m _ _ _ _ _ _ _ _ _) ?_ | with_reducible refine Mo_of (f_X5_beginLoop_m _ _ _ _) ?_ | with_reducible refine Mo_of (f_X5_visit_m _ _ _ _) ?_ | with_reducible refine Mo_of (f_X5_meet_m _ _) ?_ | with_reducible refine Mo_of (f_X5_move_m _ _) ?_ | with_reducible refine Mo_of (f_X5_flow_L2_m _ _ _ _) ?_ | with_reducible refine Mo_of (f_X5_flow_m _ _) ?_ | with_reducible refine Mo_of (f_X5_choose_m _ _ _ _) ?_ | with_reducible refine Mo_of (f_X5_enterFunction_L63_m _ _ _ _ _ _ _ _ _) ?_ | with_reducible refine Mo_of (f_X5_enterFunction_m _ _ _ _) ?_ | with_reducible refine Mo_of (f_X5_endRound_m _ _ _ _) ?_ | with_reducible refine Mo_of (f_X5_makeTable_L114_m _ _ _ _ _ _ _ _ _ _) ?_ | with_reducible refine Mo_of (f_X5_makeTable_m _ _ _ _) ?_ | with_reducible refine Mo_of (f_X5_enterCell_m _ _ _ _) ?_ | with_reducible refine Mo_of (f_X5_happen_m _ _ _) ?_ | rfl
set_option maxHeartbeats 4000000 in
set_option maxRecDepth 100000 in
theorem f_X5_begin_L90_w {fu : Nat} (l : Launch) (g : im_G) (ad : Nat → Nat) {p : Program} {e : Env} {s : State} {m : MethodId} {below : List Frame} {meth : Method} {c : Code} {args : Array Value} {mc ms : Nat} (X : im_X p l s m args meth c g cX5_begin 7 RX5 none) : ∀ (nf : Nat) (z1 : Int32) (z3 : Int32) (z4 : Int32) (z5 : Int32) (z6 : Int32) (S : im_S) (r : Unit) (S' : im_S), f_X5_begin_L90 fu nf z1 z3 z4 z5 z6 S = some (r, S') → ∀ (ga : Nat → Nat) (bc bs : Nat), (gP S' - gP S) / 64 + 0 ≤ bc → 2 * gP S' + 0 ≤ 2 * gP S + bs → im_V p l e (im_R 7 mc ms) s m args below meth c g 7 (im_ZG gA below g ad args s mc ms none S') (mx gA ad ga) im_N (im_cn g (mx gA ad ga) S) bc bs 90 [(0, .ref (mx gA ad ga 38)), (1, .int z1), (2, .ref (mx gA ad ga 2)), (3, .int z3), (4, .int z4), (5, .int z5), (6, .int z6)] [] := by
  intro nf
  induction nf with
  | zero =>
    intro z1 z3 z4 z5 z6 S r S' hm
    cases hm
  | succ nf ih =>
    intro z1 z3 z4 z5 z6 S r S' hm ga bc bs b1 b2
    unfold f_X5_begin_L90 at hm
    refine iv_iload (pc := 90) X dX5_begin_90 rfl ?_
    refine iv_iconst (pc := 92) X dX5_begin_92 ic_4 ?_
    refine iv_icmp_ge (pc := 93) X dX5_begin_93 (tgt := 140) rfl (fun hb1 => ?_) (fun hb1 => ?_)
    · rw [if_pos hb1] at hm
      refine iv_aload_n (pc := 140) X dX5_begin_140 rfl ?_
      refine iv_iload (pc := 141) X dX5_begin_141 rfl ?_
      refine iv_iload_n (pc := 143) X dX5_begin_143 rfl ?_
      obtain ⟨⟨r3, S2⟩, hc4, hm⟩ := bd_some hm
      have m2 := mo_use (S := S2) hm (by repeat' first | with_reducible exact Mo_none _ | with_reducible refine Mo_gd ?_ | with_reducible refine Mo_ite ?_ ?_ | with_reducible refine Mo_bind ?_ (fun q => ?_) | with_reducible refine Mo_some ?_ | with_reducible refine Mo_of (f_gr65_m _ _) ?_ | with_reducible refine Mo_of (f_gr66_m _ _) ?_ | with_reducible refine Mo_of (f_gr68_m _ _) ?_ | with_reducible refine Mo_of (f_gr69_m _ _) ?_ | with_reducible refine Mo_of (f_gr70_m _ _) ?_ | with_reducible refine Mo_of (f_gr71_m _ _) ?_ | with_reducible refine Mo_of (f_gr73_m _ _) ?_ | with_reducible refine Mo_of (f_gr74_m _ _) ?_ | with_reducible refine Mo_of (f_X0_clear_m _) ?_ | with_reducible refine Mo_of (f_X0_release_m _ _) ?_ | with_reducible refine Mo_of (f_X2_clear_m _) ?_ | with_reducible refine Mo_of (f_X2_outward_L5_m _ _ _ _ _ _ _) ?_ | with_reducible refine Mo_of (f_X2_outward_m _ _ _ _) ?_ | with_reducible refine Mo_of (f_X3_takesNumbers_L12_m _ _ _ _ _ _) ?_ | with_reducible refine Mo_of (f_X3_takesNumbers_m _ _ _) ?_ | with_reducible refine Mo_of (f_X5_condition_m _) ?_ | with_reducible refine Mo_of (f_X5_slotOf_m _ _ _) ?_ | with_reducible refine Mo_of (f_X5_makeReady_m _ _ _) ?_ | with_reducible refine Mo_of (f_X5_send_m _ _ _ _ _) ?_ | with_reducible refine Mo_of (f_X5_leaveFunction_m _) ?_ | with_reducible refine Mo_of (f_X5_turn_m _ _ _) ?_ | with_reducible refine Mo_of (f_X5_leastError_m _ _ _) ?_ | with_reducible refine Mo_of (f_X5_calculate_m _ _ _ _) ?_ | with_reducible refine Mo_of (f_X8_clear_m _) ?_ | with_reducible refine Mo_of (f_X8_put_m _ _ _ _) ?_ | with_reducible refine Mo_of (f_X8_tableOf_m _ _ _) ?_ | with_reducible refine Mo_of (f_X8_firstCell_m _ _) ?_ | with_reducible refine Mo_of (f_X8_cellsIn_m _ _) ?_ | with_reducible refine Mo_of (f_J9_floorMod_f86c9_m _ _ _) ?_ | with_reducible refine Mo_of (f_J7_rangeCheck_23922_m _ _ _ _) ?_ | with_reducible refine Mo_of (f_J7_fill_bad5a_L10_m _ _ _ _ _ _ _) ?_ | with_reducible refine Mo_of (f_J7_fill_bad5a_m _ _ _ _ _) ?_ | with_reducible refine Mo_of (f_J7_fill_eb02e_L10_m _ _ _ _ _ _ _) ?_ | with_reducible refine Mo_of (f_J7_fill_eb02e_m _ _ _ _ _) ?_ | with_reducible refine Mo_of (f_X5_settle_L15_m _ _ _ _ _ _ _ _) ?_ | with_reducible refine Mo_of (f_X5_settle_m _ _ _ _ _) ?_ | with_reducible refine Mo_of (f_X5_handIn_m _ _ _ _ _) ?_ | with_reducible refine Mo_of (f_X5_cellAt_m _ _ _) ?_ | with_reducible refine Mo_of (f_X5_operate_m _ _ _) ?_ | with_reducible refine Mo_of (f_X5_pickCell_m _ _ _) ?_ | with_reducible refine Mo_of (f_X0_add_m _ _ _) ?_ | with_reducible refine Mo_of (f_X2_add_m _ _ _ _) ?_ | with_reducible refine Mo_of (f_X8_take_m _ _ _) ?_ | with_reducible refine Mo_of (f_X5_openFrame_m _ _ _ _ _) ?_ | with_reducible refine Mo_of (f_X5_enter_L16_m _ _ _ _ _ _ _) ?_ | with_reducible refine Mo_of (f_X5_enter_m _ _ _ _) ?_ | with_reducible refine Mo_of (f_X5_await_m _ _ _ _) ?_ | with_reducible refine Mo_of (f_X5_lookUp_m _ _ _ _) ?_ | with_reducible refine Mo_of (f_X5_beginLoop_L52_m _ _ _ _ _ _ _ _ _) ?_ | with_reducible refine Mo_of (f_X5_beginLoop_m _ _ _ _) ?_ | with_reducible refine Mo_of (f_X5_visit_m _ _ _ _) ?_ | with_reducible refine Mo_of (f_X5_meet_m _ _) ?_ | with_reducible refine Mo_of (f_X5_move_m _ _) ?_ | with_reducible refine Mo_of (f_X5_flow_L2_m _ _ _ _) ?_ | with_reducible refine Mo_of (f_X5_flow_m _ _) ?_ | with_reducible refine Mo_of (f_X5_choose_m _ _ _ _) ?_ | with_reducible refine Mo_of (f_X5_enterFunction_L63_m _ _ _ _ _ _ _ _ _) ?_ | with_reducible refine Mo_of (f_X5_enterFunction_m _ _ _ _) ?_ | with_reducible refine Mo_of (f_X5_endRound_m _ _ _ _) ?_ | with_reducible refine Mo_of (f_X5_makeTable_L114_m _ _ _ _ _ _ _ _ _ _) ?_ | with_reducible refine Mo_of (f_X5_makeTable_m _ _ _ _) ?_ | with_reducible refine Mo_of (f_X5_enterCell_m _ _ _ _) ?_ | with_reducible refine Mo_of (f_X5_happen_m _ _ _) ?_ | with_reducible refine Mo_of (f_X5_begin_L90_m _ _ _ _ _ _ _ _) ?_ | rfl)
      refine cG_X5_95_38_gA (pc := 144) X [.int z4, .int z3] [] 2 rfl (f_X5_enter_e l g (mx gA ad ga) fu z4 z3 S _ _ hc4) (Nat.le_of_ble_eq_true rfl) (Nat.le_of_ble_eq_true rfl) (Nat.le_of_ble_eq_true rfl) rfl dX5_begin_144 (mo_use hc4 (f_X5_enter_m fu z4 z3 S)) m2 b1 b2 (fun ga bc bs b1 b2 => ?_)
      refine iv_aload_n (pc := 147) X dX5_begin_147 rfl ?_
      obtain ⟨⟨r6, S5⟩, hc7, hm⟩ := bd_some hm
      have m2 := mo_use (S := S5) hm (by repeat' first | with_reducible exact Mo_none _ | with_reducible refine Mo_gd ?_ | with_reducible refine Mo_ite ?_ ?_ | with_reducible refine Mo_bind ?_ (fun q => ?_) | with_reducible refine Mo_some ?_ | with_reducible refine Mo_of (f_gr65_m _ _) ?_ | with_reducible refine Mo_of (f_gr66_m _ _) ?_ | with_reducible refine Mo_of (f_gr68_m _ _) ?_ | with_reducible refine Mo_of (f_gr69_m _ _) ?_ | with_reducible refine Mo_of (f_gr70_m _ _) ?_ | with_reducible refine Mo_of (f_gr71_m _ _) ?_ | with_reducible refine Mo_of (f_gr73_m _ _) ?_ | with_reducible refine Mo_of (f_gr74_m _ _) ?_ | with_reducible refine Mo_of (f_X0_clear_m _) ?_ | with_reducible refine Mo_of (f_X0_release_m _ _) ?_ | with_reducible refine Mo_of (f_X2_clear_m _) ?_ | with_reducible refine Mo_of (f_X2_outward_L5_m _ _ _ _ _ _ _) ?_ | with_reducible refine Mo_of (f_X2_outward_m _ _ _ _) ?_ | with_reducible refine Mo_of (f_X3_takesNumbers_L12_m _ _ _ _ _ _) ?_ | with_reducible refine Mo_of (f_X3_takesNumbers_m _ _ _) ?_ | with_reducible refine Mo_of (f_X5_condition_m _) ?_ | with_reducible refine Mo_of (f_X5_slotOf_m _ _ _) ?_ | with_reducible refine Mo_of (f_X5_makeReady_m _ _ _) ?_ | with_reducible refine Mo_of (f_X5_send_m _ _ _ _ _) ?_ | with_reducible refine Mo_of (f_X5_leaveFunction_m _) ?_ | with_reducible refine Mo_of (f_X5_turn_m _ _ _) ?_ | with_reducible refine Mo_of (f_X5_leastError_m _ _ _) ?_ | with_reducible refine Mo_of (f_X5_calculate_m _ _ _ _) ?_ | with_reducible refine Mo_of (f_X8_clear_m _) ?_ | with_reducible refine Mo_of (f_X8_put_m _ _ _ _) ?_ | with_reducible refine Mo_of (f_X8_tableOf_m _ _ _) ?_ | with_reducible refine Mo_of (f_X8_firstCell_m _ _) ?_ | with_reducible refine Mo_of (f_X8_cellsIn_m _ _) ?_ | with_reducible refine Mo_of (f_J9_floorMod_f86c9_m _ _ _) ?_ | with_reducible refine Mo_of (f_J7_rangeCheck_23922_m _ _ _ _) ?_ | with_reducible refine Mo_of (f_J7_fill_bad5a_L10_m _ _ _ _ _ _ _) ?_ | with_reducible refine Mo_of (f_J7_fill_bad5a_m _ _ _ _ _) ?_ | with_reducible refine Mo_of (f_J7_fill_eb02e_L10_m _ _ _ _ _ _ _) ?_ | with_reducible refine Mo_of (f_J7_fill_eb02e_m _ _ _ _ _) ?_ | with_reducible refine Mo_of (f_X5_settle_L15_m _ _ _ _ _ _ _ _) ?_ | with_reducible refine Mo_of (f_X5_settle_m _ _ _ _ _) ?_ | with_reducible refine Mo_of (f_X5_handIn_m _ _ _ _ _) ?_ | with_reducible refine Mo_of (f_X5_cellAt_m _ _ _) ?_ | with_reducible refine Mo_of (f_X5_operate_m _ _ _) ?_ | with_reducible refine Mo_of (f_X5_pickCell_m _ _ _) ?_ | with_reducible refine Mo_of (f_X0_add_m _ _ _) ?_ | with_reducible refine Mo_of (f_X2_add_m _ _ _ _) ?_ | with_reducible refine Mo_of (f_X8_take_m _ _ _) ?_ | with_reducible refine Mo_of (f_X5_openFrame_m _ _ _ _ _) ?_ | with_reducible refine Mo_of (f_X5_enter_L16_m _ _ _ _ _ _ _) ?_ | with_reducible refine Mo_of (f_X5_enter_m _ _ _ _) ?_ | with_reducible refine Mo_of (f_X5_await_m _ _ _ _) ?_ | with_reducible refine Mo_of (f_X5_lookUp_m _ _ _ _) ?_ | with_reducible refine Mo_of (f_X5_beginLoop_L52_m _ _ _ _ _ _ _ _ _) ?_ | with_reducible refine Mo_of (f_X5_beginLoop_m _ _ _ _) ?_ | with_reducible refine Mo_of (f_X5_visit_m _ _ _ _) ?_ | with_reducible refine Mo_of (f_X5_meet_m _ _) ?_ | with_reducible refine Mo_of (f_X5_move_m _ _) ?_ | with_reducible refine Mo_of (f_X5_flow_L2_m _ _ _ _) ?_ | with_reducible refine Mo_of (f_X5_flow_m _ _) ?_ | with_reducible refine Mo_of (f_X5_choose_m _ _ _ _) ?_ | with_reducible refine Mo_of (f_X5_enterFunction_L63_m _ _ _ _ _ _ _ _ _) ?_ | with_reducible refine Mo_of (f_X5_enterFunction_m _ _ _ _) ?_ | with_reducible refine Mo_of (f_X5_endRound_m _ _ _ _) ?_ | with_reducible refine Mo_of (f_X5_makeTable_L114_m _ _ _ _ _ _ _ _ _ _) ?_ | with_reducible refine Mo_of (f_X5_makeTable_m _ _ _ _) ?_ | with_reducible refine Mo_of (f_X5_enterCell_m _ _ _ _) ?_ | with_reducible refine Mo_of (f_X5_happen_m _ _ _) ?_ | with_reducible refine Mo_of (f_X5_begin_L90_m _ _ _ _ _ _ _ _) ?_ | rfl)
      refine cG_X5_99_38_gA (pc := 148) X [] [] 0 rfl (f_X5_flow_e l g (mx gA ad ga) fu  S2 _ _ hc7) (Nat.le_of_ble_eq_true rfl) (Nat.le_of_ble_eq_true rfl) (Nat.le_of_ble_eq_true rfl) rfl dX5_begin_148 (mo_use hc7 (f_X5_flow_m fu  S2)) m2 b1 b2 (fun ga bc bs b1 b2 => ?_)
      cases hm
      exact is_vretG (pc := 151) X dX5_begin_151
    · rw [if_neg hb1] at hm
      refine iv_iload (pc := 96) X dX5_begin_96 rfl ?_
      refine iv_iconst (pc := 98) X dX5_begin_98 ic_m1 ?_
      refine iv_icmp_eq (pc := 99) X dX5_begin_99 (tgt := 140) rfl (fun hb8 => ?_) (fun hb8 => ?_)
      · rw [if_pos hb8] at hm
        refine iv_aload_n (pc := 140) X dX5_begin_140 rfl ?_
        refine iv_iload (pc := 141) X dX5_begin_141 rfl ?_
        refine iv_iload_n (pc := 143) X dX5_begin_143 rfl ?_
        obtain ⟨⟨r10, S9⟩, hc11, hm⟩ := bd_some hm
        have m2 := mo_use (S := S9) hm (by repeat' first | with_reducible exact Mo_none _ | with_reducible refine Mo_gd ?_ | with_reducible refine Mo_ite ?_ ?_ | with_reducible refine Mo_bind ?_ (fun q => ?_) | with_reducible refine Mo_some ?_ | with_reducible refine Mo_of (f_gr65_m _ _) ?_ | with_reducible refine Mo_of (f_gr66_m _ _) ?_ | with_reducible refine Mo_of (f_gr68_m _ _) ?_ | with_reducible refine Mo_of (f_gr69_m _ _) ?_ | with_reducible refine Mo_of (f_gr70_m _ _) ?_ | with_reducible refine Mo_of (f_gr71_m _ _) ?_ | with_reducible refine Mo_of (f_gr73_m _ _) ?_ | with_reducible refine Mo_of (f_gr74_m _ _) ?_ | with_reducible refine Mo_of (f_X0_clear_m _) ?_ | with_reducible refine Mo_of (f_X0_release_m _ _) ?_ | with_reducible refine Mo_of (f_X2_clear_m _) ?_ | with_reducible refine Mo_of (f_X2_outward_L5_m _ _ _ _ _ _ _) ?_ | with_reducible refine Mo_of (f_X2_outward_m _ _ _ _) ?_ | with_reducible refine Mo_of (f_X3_takesNumbers_L12_m _ _ _ _ _ _) ?_ | with_reducible refine Mo_of (f_X3_takesNumbers_m _ _ _) ?_ | with_reducible refine Mo_of (f_X5_condition_m _) ?_ | with_reducible refine Mo_of (f_X5_slotOf_m _ _ _) ?_ | with_reducible refine Mo_of (f_X5_makeReady_m _ _ _) ?_ | with_reducible refine Mo_of (f_X5_send_m _ _ _ _ _) ?_ | with_reducible refine Mo_of (f_X5_leaveFunction_m _) ?_ | with_reducible refine Mo_of (f_X5_turn_m _ _ _) ?_ | with_reducible refine Mo_of (f_X5_leastError_m _ _ _) ?_ | with_reducible refine Mo_of (f_X5_calculate_m _ _ _ _) ?_ | with_reducible refine Mo_of (f_X8_clear_m _) ?_ | with_reducible refine Mo_of (f_X8_put_m _ _ _ _) ?_ | with_reducible refine Mo_of (f_X8_tableOf_m _ _ _) ?_ | with_reducible refine Mo_of (f_X8_firstCell_m _ _) ?_ | with_reducible refine Mo_of (f_X8_cellsIn_m _ _) ?_ | with_reducible refine Mo_of (f_J9_floorMod_f86c9_m _ _ _) ?_ | with_reducible refine Mo_of (f_J7_rangeCheck_23922_m _ _ _ _) ?_ | with_reducible refine Mo_of (f_J7_fill_bad5a_L10_m _ _ _ _ _ _ _) ?_ | with_reducible refine Mo_of (f_J7_fill_bad5a_m _ _ _ _ _) ?_ | with_reducible refine Mo_of (f_J7_fill_eb02e_L10_m _ _ _ _ _ _ _) ?_ | with_reducible refine Mo_of (f_J7_fill_eb02e_m _ _ _ _ _) ?_ | with_reducible refine Mo_of (f_X5_settle_L15_m _ _ _ _ _ _ _ _) ?_ | with_reducible refine Mo_of (f_X5_settle_m _ _ _ _ _) ?_ | with_reducible refine Mo_of (f_X5_handIn_m _ _ _ _ _) ?_ | with_reducible refine Mo_of (f_X5_cellAt_m _ _ _) ?_ | with_reducible refine Mo_of (f_X5_operate_m _ _ _) ?_ | with_reducible refine Mo_of (f_X5_pickCell_m _ _ _) ?_ | with_reducible refine Mo_of (f_X0_add_m _ _ _) ?_ | with_reducible refine Mo_of (f_X2_add_m _ _ _ _) ?_ | with_reducible refine Mo_of (f_X8_take_m _ _ _) ?_ | with_reducible refine Mo_of (f_X5_openFrame_m _ _ _ _ _) ?_ | with_reducible refine Mo_of (f_X5_enter_L16_m _ _ _ _ _ _ _) ?_ | with_reducible refine Mo_of (f_X5_enter_m _ _ _ _) ?_ | with_reducible refine Mo_of (f_X5_await_m _ _ _ _) ?_ | with_reducible refine Mo_of (f_X5_lookUp_m _ _ _ _) ?_ | with_reducible refine Mo_of (f_X5_beginLoop_L52_m _ _ _ _ _ _ _ _ _) ?_ | with_reducible refine Mo_of (f_X5_beginLoop_m _ _ _ _) ?_ | with_reducible refine Mo_of (f_X5_visit_m _ _ _ _) ?_ | with_reducible refine Mo_of (f_X5_meet_m _ _) ?_ | with_reducible refine Mo_of (f_X5_move_m _ _) ?_ | with_reducible refine Mo_of (f_X5_flow_L2_m _ _ _ _) ?_ | with_reducible refine Mo_of (f_X5_flow_m _ _) ?_ | with_reducible refine Mo_of (f_X5_choose_m _ _ _ _) ?_ | with_reducible refine Mo_of (f_X5_enterFunction_L63_m _ _ _ _ _ _ _ _ _) ?_ | with_reducible refine Mo_of (f_X5_enterFunction_m _ _ _ _) ?_ | with_reducible refine Mo_of (f_X5_endRound_m _ _ _ _) ?_ | with_reducible refine Mo_of (f_X5_makeTable_L114_m _ _ _ _ _ _ _ _ _ _) ?_ | with_reducible refine Mo_of (f_X5_makeTable_m _ _ _ _) ?_ | with_reducible refine Mo_of (f_X5_enterCell_m _ _ _ _) ?_ | with_reducible refine Mo_of (f_X5_happen_m _ _ _) ?_ | with_reducible refine Mo_of (f_X5_begin_L90_m _ _ _ _ _ _ _ _) ?_ | rfl)
        refine cG_X5_95_38_gA (pc := 144) X [.int z4, .int z3] [] 2 rfl (f_X5_enter_e l g (mx gA ad ga) fu z4 z3 S _ _ hc11) (Nat.le_of_ble_eq_true rfl) (Nat.le_of_ble_eq_true rfl) (Nat.le_of_ble_eq_true rfl) rfl dX5_begin_144 (mo_use hc11 (f_X5_enter_m fu z4 z3 S)) m2 b1 b2 (fun ga bc bs b1 b2 => ?_)
        refine iv_aload_n (pc := 147) X dX5_begin_147 rfl ?_
        obtain ⟨⟨r13, S12⟩, hc14, hm⟩ := bd_some hm
        have m2 := mo_use (S := S12) hm (by repeat' first | with_reducible exact Mo_none _ | with_reducible refine Mo_gd ?_ | with_reducible refine Mo_ite ?_ ?_ | with_reducible refine Mo_bind ?_ (fun q => ?_) | with_reducible refine Mo_some ?_ | with_reducible refine Mo_of (f_gr65_m _ _) ?_ | with_reducible refine Mo_of (f_gr66_m _ _) ?_ | with_reducible refine Mo_of (f_gr68_m _ _) ?_ | with_reducible refine Mo_of (f_gr69_m _ _) ?_ | with_reducible refine Mo_of (f_gr70_m _ _) ?_ | with_reducible refine Mo_of (f_gr71_m _ _) ?_ | with_reducible refine Mo_of (f_gr73_m _ _) ?_ | with_reducible refine Mo_of (f_gr74_m _ _) ?_ | with_reducible refine Mo_of (f_X0_clear_m _) ?_ | with_reducible refine Mo_of (f_X0_release_m _ _) ?_ | with_reducible refine Mo_of (f_X2_clear_m _) ?_ | with_reducible refine Mo_of (f_X2_outward_L5_m _ _ _ _ _ _ _) ?_ | with_reducible refine Mo_of (f_X2_outward_m _ _ _ _) ?_ | with_reducible refine Mo_of (f_X3_takesNumbers_L12_m _ _ _ _ _ _) ?_ | with_reducible refine Mo_of (f_X3_takesNumbers_m _ _ _) ?_ | with_reducible refine Mo_of (f_X5_condition_m _) ?_ | with_reducible refine Mo_of (f_X5_slotOf_m _ _ _) ?_ | with_reducible refine Mo_of (f_X5_makeReady_m _ _ _) ?_ | with_reducible refine Mo_of (f_X5_send_m _ _ _ _ _) ?_ | with_reducible refine Mo_of (f_X5_leaveFunction_m _) ?_ | with_reducible refine Mo_of (f_X5_turn_m _ _ _) ?_ | with_reducible refine Mo_of (f_X5_leastError_m _ _ _) ?_ | with_reducible refine Mo_of (f_X5_calculate_m _ _ _ _) ?_ | with_reducible refine Mo_of (f_X8_clear_m _) ?_ | with_reducible refine Mo_of (f_X8_put_m _ _ _ _) ?_ | with_reducible refine Mo_of (f_X8_tableOf_m _ _ _) ?_ | with_reducible refine Mo_of (f_X8_firstCell_m _ _) ?_ | with_reducible refine Mo_of (f_X8_cellsIn_m _ _) ?_ | with_reducible refine Mo_of (f_J9_floorMod_f86c9_m _ _ _) ?_ | with_reducible refine Mo_of (f_J7_rangeCheck_23922_m _ _ _ _) ?_ | with_reducible refine Mo_of (f_J7_fill_bad5a_L10_m _ _ _ _ _ _ _) ?_ | with_reducible refine Mo_of (f_J7_fill_bad5a_m _ _ _ _ _) ?_ | with_reducible refine Mo_of (f_J7_fill_eb02e_L10_m _ _ _ _ _ _ _) ?_ | with_reducible refine Mo_of (f_J7_fill_eb02e_m _ _ _ _ _) ?_ | with_reducible refine Mo_of (f_X5_settle_L15_m _ _ _ _ _ _ _ _) ?_ | with_reducible refine Mo_of (f_X5_settle_m _ _ _ _ _) ?_ | with_reducible refine Mo_of (f_X5_handIn_m _ _ _ _ _) ?_ | with_reducible refine Mo_of (f_X5_cellAt_m _ _ _) ?_ | with_reducible refine Mo_of (f_X5_operate_m _ _ _) ?_ | with_reducible refine Mo_of (f_X5_pickCell_m _ _ _) ?_ | with_reducible refine Mo_of (f_X0_add_m _ _ _) ?_ | with_reducible refine Mo_of (f_X2_add_m _ _ _ _) ?_ | with_reducible refine Mo_of (f_X8_take_m _ _ _) ?_ | with_reducible refine Mo_of (f_X5_openFrame_m _ _ _ _ _) ?_ | with_reducible refine Mo_of (f_X5_enter_L16_m _ _ _ _ _ _ _) ?_ | with_reducible refine Mo_of (f_X5_enter_m _ _ _ _) ?_ | with_reducible refine Mo_of (f_X5_await_m _ _ _ _) ?_ | with_reducible refine Mo_of (f_X5_lookUp_m _ _ _ _) ?_ | with_reducible refine Mo_of (f_X5_beginLoop_L52_m _ _ _ _ _ _ _ _ _) ?_ | with_reducible refine Mo_of (f_X5_beginLoop_m _ _ _ _) ?_ | with_reducible refine Mo_of (f_X5_visit_m _ _ _ _) ?_ | with_reducible refine Mo_of (f_X5_meet_m _ _) ?_ | with_reducible refine Mo_of (f_X5_move_m _ _) ?_ | with_reducible refine Mo_of (f_X5_flow_L2_m _ _ _ _) ?_ | with_reducible refine Mo_of (f_X5_flow_m _ _) ?_ | with_reducible refine Mo_of (f_X5_choose_m _ _ _ _) ?_ | with_reducible refine Mo_of (f_X5_enterFunction_L63_m _ _ _ _ _ _ _ _ _) ?_ | with_reducible refine Mo_of (f_X5_enterFunction_m _ _ _ _) ?_ | with_reducible refine Mo_of (f_X5_endRound_m _ _ _ _) ?_ | with_reducible refine Mo_of (f_X5_makeTable_L114_m _ _ _ _ _ _ _ _ _ _) ?_ | with_reducible refine Mo_of (f_X5_makeTable_m _ _ _ _) ?_ | with_reducible refine Mo_of (f_X5_enterCell_m _ _ _ _) ?_ | with_reducible refine Mo_of (f_X5_happen_m _ _ _) ?_ | with_reducible refine Mo_of (f_X5_begin_L90_m _ _ _ _ _ _ _ _) ?_ | rfl)
        refine cG_X5_99_38_gA (pc := 148) X [] [] 0 rfl (f_X5_flow_e l g (mx gA ad ga) fu  S9 _ _ hc14) (Nat.le_of_ble_eq_true rfl) (Nat.le_of_ble_eq_true rfl) (Nat.le_of_ble_eq_true rfl) rfl dX5_begin_148 (mo_use hc14 (f_X5_flow_m fu  S9)) m2 b1 b2 (fun ga bc bs b1 b2 => ?_)
        cases hm
        exact is_vretG (pc := 151) X dX5_begin_151
      · rw [if_neg hb8] at hm
        refine iv_aload_n (pc := 102) X dX5_begin_102 rfl ?_
        refine gF_X5_21_38 (pc := 103) X dX5_begin_103 ?_
        refine iv_aload_n (pc := 106) X dX5_begin_106 rfl ?_
        refine iv_iload (pc := 107) X dX5_begin_107 rfl ?_
        refine iv_iload (pc := 109) X dX5_begin_109 rfl ?_
        obtain ⟨⟨r16, S15⟩, hc17, hm⟩ := bd_some hm
        refine cV_X5_84_38 (pc := 111) X [.int z4, .int z5] [.ref (mx gA ad ga 64)] 2 rfl (f_X5_slotOf_e l g (mx gA ad ga) z4 z5 S _ _ hc17) (Nat.le_of_ble_eq_true rfl) (Nat.le_of_ble_eq_true rfl) (Nat.le_of_ble_eq_true rfl) rfl dX5_begin_111 ?_
        have b1 := gb_step (mo_use hc17 (f_X5_slotOf_m z4 z5 S)) b1
        have b2 := gb_step2 (mo_use hc17 (f_X5_slotOf_m z4 z5 S)) b2
        refine iv_iconst (pc := 114) X dX5_begin_114 ic_1 ?_
        refine iv_aload_n (pc := 115) X dX5_begin_115 rfl ?_
        refine iv_iload (pc := 116) X dX5_begin_116 rfl ?_
        obtain ⟨hg, hm⟩ := gd_some hm
        refine aL_2 (pc := 118) X dX5_begin_118 hg (x := (S15.2.1 2) z6.toNatClampNeg) rfl ?_
        obtain ⟨⟨r19, S18⟩, hc20, hm⟩ := bd_some hm
        refine cV_X5_88_64 (pc := 119) X [.int r16, .int 1, .long ((S15.2.1 2) z6.toNatClampNeg)] [] 3 rfl (f_X8_put_e l g (mx gA ad ga) r16 1 ((S15.2.1 2) z6.toNatClampNeg) S15 _ _ hc20) (Nat.le_of_ble_eq_true rfl) (Nat.le_of_ble_eq_true rfl) (Nat.le_of_ble_eq_true rfl) rfl dX5_begin_119 ?_
        have b1 := gb_step (mo_use hc20 (f_X8_put_m r16 1 ((S15.2.1 2) z6.toNatClampNeg) S15)) b1
        have b2 := gb_step2 (mo_use hc20 (f_X8_put_m r16 1 ((S15.2.1 2) z6.toNatClampNeg) S15)) b2
        refine iv_aload_n (pc := 122) X dX5_begin_122 rfl ?_
        refine gF_X5_12_38 (pc := 123) X dX5_begin_123 ?_
        refine gF_X5_92_40 (pc := 126) X dX5_begin_126 ?_
        refine iv_iload (pc := 129) X dX5_begin_129 rfl ?_
        obtain ⟨hg, hm⟩ := gd_some hm
        refine aL_48 (pc := 131) X dX5_begin_131 hg (x := (S18.1 48) z5.toNatClampNeg) rfl ?_
        refine iv_istore (pc := 132) X dX5_begin_132 (by decide) (lv' := [(5, .int ((S18.1 48) z5.toNatClampNeg)), (0, .ref (mx gA ad ga 38)), (1, .int z1), (2, .ref (mx gA ad ga 2)), (3, .int z3), (4, .int z4), (6, .int z6)]) rfl ?_
        refine iv_iinc (pc := 134) X dX5_begin_134 rfl (by decide) (v := z6 + 1) rfl (lv' := [(6, .int (z6 + 1)), (5, .int ((S18.1 48) z5.toNatClampNeg)), (0, .ref (mx gA ad ga 38)), (1, .int z1), (2, .ref (mx gA ad ga 2)), (3, .int z3), (4, .int z4)]) rfl ?_
        refine iv_goto (pc := 137) X dX5_begin_137 (tgt := 90) rfl ?_
        refine iv_sub [2, 3, 4, 5, 6, 1, 0] (lv2 := [(0, .ref (mx gA ad ga 38)), (1, .int z1), (2, .ref (mx gA ad ga 2)), (3, .int z3), (4, .int z4), (5, .int ((S18.1 48) z5.toNatClampNeg)), (6, .int (z6 + 1))]) rfl ?_
        exact ih z1 z3 z4 ((S18.1 48) z5.toNatClampNeg) (z6 + 1) S18 _ _ hm ga bc bs b1 b2
def f_X5_begin (fu : Nat) (x1 : Int32) (S : im_S) : Option (Unit × im_S) := (f_X8_clear (uI (uI (uI (uI (uI (uI S 38 9 1) 38 2 0) 38 3 0) 38 8 0) 38 10 0) 38 11 0)).bind (fun qS1 => (f_X2_clear qS1.2).bind (fun qS4 => (f_X0_clear qS4.2).bind (fun qS7 => gd (in_b x1 8) ((f_X5_openFrame fu ((qS7.2.1 58) x1.toNatClampNeg) (-1) (-1) qS7.2).bind (fun qS10 => gd (in_b x1 8) (f_X5_begin_L90 fu fu x1 ((qS7.2.1 58) x1.toNatClampNeg) qS10.1 ((qS10.2.1 59) x1.toNatClampNeg) 0 qS10.2))))))
theorem f_X5_begin_m (fu : Nat) (x1 : Int32) (S : im_S) : Mo (f_X5_begin fu x1 S) S := by
  unfold f_X5_begin
  repeat' first | with_reducible exact Mo_none _ | with_reducible refine Mo_gd ?_ | with_reducible refine Mo_ite ?_ ?_ | with_reducible refine Mo_bind ?_ (fun q => ?_) | with_reducible refine Mo_some ?_ | with_reducible refine Mo_of (f_gr65_m _ _) ?_ | with_reducible refine Mo_of (f_gr66_m _ _) ?_ | with_reducible refine Mo_of (f_gr68_m _ _) ?_ | with_reducible refine Mo_of (f_gr69_m _ _) ?_ | with_reducible refine Mo_of (f_gr70_m _ _) ?_ | with_reducible refine Mo_of (f_gr71_m _ _) ?_ | with_reducible refine Mo_of (f_gr73_m _ _) ?_ | with_reducible refine Mo_of (f_gr74_m _ _) ?_ | with_reducible refine Mo_of (f_X0_clear_m _) ?_ | with_reducible refine Mo_of (f_X0_release_m _ _) ?_ | with_reducible refine Mo_of (f_X2_clear_m _) ?_ | with_reducible refine Mo_of (f_X2_outward_L5_m _ _ _ _ _ _ _) ?_ | with_reducible refine Mo_of (f_X2_outward_m _ _ _ _) ?_ | with_reducible refine Mo_of (f_X3_takesNumbers_L12_m _ _ _ _ _ _) ?_ | with_reducible refine Mo_of (f_X3_takesNumbers_m _ _ _) ?_ | with_reducible refine Mo_of (f_X5_condition_m _) ?_ | with_reducible refine Mo_of (f_X5_slotOf_m _ _ _) ?_ | with_reducible refine Mo_of (f_X5_makeReady_m _ _ _) ?_ | with_reducible refine Mo_of (f_X5_send_m _ _ _ _ _) ?_ | with_reducible refine Mo_of (f_X5_leaveFunction_m _) ?_ | with_reducible refine Mo_of (f_X5_turn_m _ _ _) ?_ | with_reducible refine Mo_of (f_X5_leastError_m _ _ _) ?_ | with_reducible refine Mo_of (f_X5_calculate_m _ _ _ _) ?_ | with_reducible refine Mo_of (f_X8_clear_m _) ?_ | with_reducible refine Mo_of (f_X8_put_m _ _ _ _) ?_ | with_reducible refine Mo_of (f_X8_tableOf_m _ _ _) ?_ | with_reducible refine Mo_of (f_X8_firstCell_m _ _) ?_ | with_reducible refine Mo_of (f_X8_cellsIn_m _ _) ?_ | with_reducible refine Mo_of (f_J9_floorMod_f86c9_m _ _ _) ?_ | with_reducible refine Mo_of (f_J7_rangeCheck_23922_m _ _ _ _) ?_ | with_reducible refine Mo_of (f_J7_fill_bad5a_L10_m _ _ _ _ _ _ _) ?_ | with_reducible refine Mo_of (f_J7_fill_bad5a_m _ _ _ _ _) ?_ | with_reducible refine Mo_of (f_J7_fill_eb02e_L10_m _ _ _ _ _ _ _) ?_ | with_reducible refine Mo_of (f_J7_fill_eb02e_m _ _ _ _ _) ?_ | with_reducible refine Mo_of (f_X5_settle_L15_m _ _ _ _ _ _ _ _) ?_ | with_reducible refine Mo_of (f_X5_settle_m _ _ _ _ _) ?_ | with_reducible refine Mo_of (f_X5_handIn_m _ _ _ _ _) ?_ | with_reducible refine Mo_of (f_X5_cellAt_m _ _ _) ?_ | with_reducible refine Mo_of (f_X5_operate_m _ _ _) ?_ | with_reducible refine Mo_of (f_X5_pickCell_m _ _ _) ?_ | with_reducible refine Mo_of (f_X0_add_m _ _ _) ?_ | with_reducible refine Mo_of (f_X2_add_m _ _ _ _) ?_ | with_reducible refine Mo_of (f_X8_take_m _ _ _) ?_ | with_reducible refine Mo_of (f_X5_openFrame_m _ _ _ _ _) ?_ | with_reducible refine Mo_of (f_X5_enter_L16_m _ _ _ _ _ _ _) ?_ | with_reducible refine Mo_of (f_X5_enter_m _ _ _ _) ?_ | with_reducible refine Mo_of (f_X5_await_m _ _ _ _) ?_ | with_reducible refine Mo_of (f_X5_lookUp_m _ _ _ _) ?_ | with_reducible refine Mo_of (f_X5_beginLoop_L52_m _ _ _ _ _ _ _ _ _) ?_ | with_reducible refine Mo_of (f_X5_beginLoop_m _ _ _ _) ?_ | with_reducible refine Mo_of (f_X5_visit_m _ _ _ _) ?_ | with_reducible refine Mo_of (f_X5_meet_m _ _) ?_ | with_reducible refine Mo_of (f_X5_move_m _ _) ?_ | with_reducible refine Mo_of (f_X5_flow_L2_m _ _ _ _) ?_ | with_reducible refine Mo_of (f_X5_flow_m _ _) ?_ | with_reducible refine Mo_of (f_X5_choose_m _ _ _ _) ?_ | with_reducible refine Mo_of (f_X5_enterFunction_L63_m _ _ _ _ _ _ _ _ _) ?_ | with_reducible refine Mo_of (f_X5_enterFunction_m _ _ _ _) ?_ | with_reducible refine Mo_of (f_X5_endRound_m _ _ _ _) ?_ | with_reducible refine Mo_of (f_X5_makeTable_L114_m _ _ _ _ _ _ _ _ _ _) ?_ | with_reducible refine Mo_of (f_X5_makeTable_m _ _ _ _) ?_ | with_reducible refine Mo_of (f_X5_enterCell_m _ _ _ _) ?_ | with_reducible refine Mo_of (f_X5_happen_m _ _ _) ?_ | with_reducible refine Mo_of (f_X5_begin_L90_m _ _ _ _ _ _ _ _) ?_ | rfl
set_option maxHeartbeats 4000000 in
set_option maxRecDepth 100000 in
theorem f_X5_begin_e (l : Launch) (g : im_G) (ad : Nat → Nat) (fu : Nat) (x1 : Int32) (S : im_S) (r : Unit) (S' : im_S) (hm : f_X5_begin fu x1 S = some (r, S')) : im_EG gA l g ad 7 yX5_begin cX5_begin 7 none [.ref (ad 38), .int x1, .ref (ad 2)] S none S' := by
  unfold f_X5_begin at hm
  refine is_metG (own := RX5) (by decide +kernel) rfl (Nat.le_of_ble_eq_true rfl) (fun p e s m below meth c X ga bc bs b1 b2 => ?_)
  refine iv_aload_n (pc := 0) X dX5_begin_0 rfl ?_
  refine iv_iconst (pc := 1) X dX5_begin_1 ic_1 ?_
  refine pF_X5_43_38 (pc := 2) X dX5_begin_2 rfl ?_
  refine iv_aload_n (pc := 5) X dX5_begin_5 rfl ?_
  refine iv_iconst (pc := 6) X dX5_begin_6 ic_0 ?_
  refine pF_X5_47_38 (pc := 7) X dX5_begin_7 ?_
  refine iv_aload_n (pc := 10) X dX5_begin_10 rfl ?_
  refine iv_iconst (pc := 11) X dX5_begin_11 ic_0 ?_
  refine pF_X5_54_38 (pc := 12) X dX5_begin_12 ?_
  refine iv_aload_n (pc := 15) X dX5_begin_15 rfl ?_
  refine iv_iconst (pc := 16) X dX5_begin_16 ic_0 ?_
  refine pF_X5_51_38 (pc := 17) X dX5_begin_17 ?_
  refine iv_aload_n (pc := 20) X dX5_begin_20 rfl ?_
  refine iv_iconst (pc := 21) X dX5_begin_21 ic_0 ?_
  refine pF_X5_57_38 (pc := 22) X dX5_begin_22 ?_
  refine iv_aload_n (pc := 25) X dX5_begin_25 rfl ?_
  refine iv_iconst (pc := 26) X dX5_begin_26 ic_0 ?_
  refine pF_X5_60_38 (pc := 27) X dX5_begin_27 rfl ?_
  refine iv_aload_n (pc := 30) X dX5_begin_30 rfl ?_
  refine gF_X5_21_38 (pc := 31) X dX5_begin_31 ?_
  obtain ⟨⟨r2, S1⟩, hc3, hm⟩ := bd_some hm
  refine cV_X5_63_64 (pc := 34) X [] [] 0 rfl (f_X8_clear_e l g (mx gA ad ga)  (uI (uI (uI (uI (uI (uI S 38 9 1) 38 2 0) 38 3 0) 38 8 0) 38 10 0) 38 11 0) _ _ hc3) (Nat.le_of_ble_eq_true rfl) (Nat.le_of_ble_eq_true rfl) (Nat.le_of_ble_eq_true rfl) rfl dX5_begin_34 ?_
  have b1 := gb_step (mo_use hc3 (f_X8_clear_m  (uI (uI (uI (uI (uI (uI S 38 9 1) 38 2 0) 38 3 0) 38 8 0) 38 10 0) 38 11 0))) b1
  have b2 := gb_step2 (mo_use hc3 (f_X8_clear_m  (uI (uI (uI (uI (uI (uI S 38 9 1) 38 2 0) 38 3 0) 38 8 0) 38 10 0) 38 11 0))) b2
  refine iv_aload_n (pc := 37) X dX5_begin_37 rfl ?_
  refine gF_X5_28_38 (pc := 38) X dX5_begin_38 ?_
  obtain ⟨⟨r5, S4⟩, hc6, hm⟩ := bd_some hm
  refine cV_X5_66_67 (pc := 41) X [] [] 0 rfl (f_X2_clear_e l g (mx gA ad ga)  S1 _ _ hc6) (Nat.le_of_ble_eq_true rfl) (Nat.le_of_ble_eq_true rfl) (Nat.le_of_ble_eq_true rfl) rfl dX5_begin_41 ?_
  have b1 := gb_step (mo_use hc6 (f_X2_clear_m  S1)) b1
  have b2 := gb_step2 (mo_use hc6 (f_X2_clear_m  S1)) b2
  refine iv_aload_n (pc := 44) X dX5_begin_44 rfl ?_
  refine gF_X5_35_38 (pc := 45) X dX5_begin_45 ?_
  obtain ⟨⟨r8, S7⟩, hc9, hm⟩ := bd_some hm
  refine cV_X5_67_72 (pc := 48) X [] [] 0 rfl (f_X0_clear_e l g (mx gA ad ga)  S4 _ _ hc9) (Nat.le_of_ble_eq_true rfl) (Nat.le_of_ble_eq_true rfl) (Nat.le_of_ble_eq_true rfl) rfl dX5_begin_48 ?_
  have b1 := gb_step (mo_use hc9 (f_X0_clear_m  S4)) b1
  have b2 := gb_step2 (mo_use hc9 (f_X0_clear_m  S4)) b2
  refine iv_aload_n (pc := 51) X dX5_begin_51 rfl ?_
  refine gF_X5_12_38 (pc := 52) X dX5_begin_52 ?_
  refine gF_X5_68_40 (pc := 55) X dX5_begin_55 ?_
  refine gF_X5_72_56 (pc := 58) X dX5_begin_58 ?_
  refine iv_iload_n (pc := 61) X dX5_begin_61 rfl ?_
  obtain ⟨hg, hm⟩ := gd_some hm
  refine aL_58 (pc := 62) X dX5_begin_62 hg (x := (S7.1 58) x1.toNatClampNeg) rfl ?_
  refine iv_istore_n (pc := 63) X dX5_begin_63 (by decide) (lv' := [(3, .int ((S7.1 58) x1.toNatClampNeg)), (0, .ref (mx gA ad ga 38)), (1, .int x1), (2, .ref (mx gA ad ga 2))]) rfl ?_
  refine iv_aload_n (pc := 64) X dX5_begin_64 rfl ?_
  refine iv_iload_n (pc := 65) X dX5_begin_65 rfl ?_
  refine iv_iconst (pc := 66) X dX5_begin_66 ic_m1 ?_
  refine iv_iconst (pc := 67) X dX5_begin_67 ic_m1 ?_
  obtain ⟨⟨r11, S10⟩, hc12, hm⟩ := bd_some hm
  have m2 := mo_use (S := S10) hm (by repeat' first | with_reducible exact Mo_none _ | with_reducible refine Mo_gd ?_ | with_reducible refine Mo_ite ?_ ?_ | with_reducible refine Mo_bind ?_ (fun q => ?_) | with_reducible refine Mo_some ?_ | with_reducible refine Mo_of (f_gr65_m _ _) ?_ | with_reducible refine Mo_of (f_gr66_m _ _) ?_ | with_reducible refine Mo_of (f_gr68_m _ _) ?_ | with_reducible refine Mo_of (f_gr69_m _ _) ?_ | with_reducible refine Mo_of (f_gr70_m _ _) ?_ | with_reducible refine Mo_of (f_gr71_m _ _) ?_ | with_reducible refine Mo_of (f_gr73_m _ _) ?_ | with_reducible refine Mo_of (f_gr74_m _ _) ?_ | with_reducible refine Mo_of (f_X0_clear_m _) ?_ | with_reducible refine Mo_of (f_X0_release_m _ _) ?_ | with_reducible refine Mo_of (f_X2_clear_m _) ?_ | with_reducible refine Mo_of (f_X2_outward_L5_m _ _ _ _ _ _ _) ?_ | with_reducible refine Mo_of (f_X2_outward_m _ _ _ _) ?_ | with_reducible refine Mo_of (f_X3_takesNumbers_L12_m _ _ _ _ _ _) ?_ | with_reducible refine Mo_of (f_X3_takesNumbers_m _ _ _) ?_ | with_reducible refine Mo_of (f_X5_condition_m _) ?_ | with_reducible refine Mo_of (f_X5_slotOf_m _ _ _) ?_ | with_reducible refine Mo_of (f_X5_makeReady_m _ _ _) ?_ | with_reducible refine Mo_of (f_X5_send_m _ _ _ _ _) ?_ | with_reducible refine Mo_of (f_X5_leaveFunction_m _) ?_ | with_reducible refine Mo_of (f_X5_turn_m _ _ _) ?_ | with_reducible refine Mo_of (f_X5_leastError_m _ _ _) ?_ | with_reducible refine Mo_of (f_X5_calculate_m _ _ _ _) ?_ | with_reducible refine Mo_of (f_X8_clear_m _) ?_ | with_reducible refine Mo_of (f_X8_put_m _ _ _ _) ?_ | with_reducible refine Mo_of (f_X8_tableOf_m _ _ _) ?_ | with_reducible refine Mo_of (f_X8_firstCell_m _ _) ?_ | with_reducible refine Mo_of (f_X8_cellsIn_m _ _) ?_ | with_reducible refine Mo_of (f_J9_floorMod_f86c9_m _ _ _) ?_ | with_reducible refine Mo_of (f_J7_rangeCheck_23922_m _ _ _ _) ?_ | with_reducible refine Mo_of (f_J7_fill_bad5a_L10_m _ _ _ _ _ _ _) ?_ | with_reducible refine Mo_of (f_J7_fill_bad5a_m _ _ _ _ _) ?_ | with_reducible refine Mo_of (f_J7_fill_eb02e_L10_m _ _ _ _ _ _ _) ?_ | with_reducible refine Mo_of (f_J7_fill_eb02e_m _ _ _ _ _) ?_ | with_reducible refine Mo_of (f_X5_settle_L15_m _ _ _ _ _ _ _ _) ?_ | with_reducible refine Mo_of (f_X5_settle_m _ _ _ _ _) ?_ | with_reducible refine Mo_of (f_X5_handIn_m _ _ _ _ _) ?_ | with_reducible refine Mo_of (f_X5_cellAt_m _ _ _) ?_ | with_reducible refine Mo_of (f_X5_operate_m _ _ _) ?_ | with_reducible refine Mo_of (f_X5_pickCell_m _ _ _) ?_ | with_reducible refine Mo_of (f_X0_add_m _ _ _) ?_ | with_reducible refine Mo_of (f_X2_add_m _ _ _ _) ?_ | with_reducible refine Mo_of (f_X8_take_m _ _ _) ?_ | with_reducible refine Mo_of (f_X5_openFrame_m _ _ _ _ _) ?_ | with_reducible refine Mo_of (f_X5_enter_L16_m _ _ _ _ _ _ _) ?_ | with_reducible refine Mo_of (f_X5_enter_m _ _ _ _) ?_ | with_reducible refine Mo_of (f_X5_await_m _ _ _ _) ?_ | with_reducible refine Mo_of (f_X5_lookUp_m _ _ _ _) ?_ | with_reducible refine Mo_of (f_X5_beginLoop_L52_m _ _ _ _ _ _ _ _ _) ?_ | with_reducible refine Mo_of (f_X5_beginLoop_m _ _ _ _) ?_ | with_reducible refine Mo_of (f_X5_visit_m _ _ _ _) ?_ | with_reducible refine Mo_of (f_X5_meet_m _ _) ?_ | with_reducible refine Mo_of (f_X5_move_m _ _) ?_ | with_reducible refine Mo_of (f_X5_flow_L2_m _ _ _ _) ?_ | with_reducible refine Mo_of (f_X5_flow_m _ _) ?_ | with_reducible refine Mo_of (f_X5_choose_m _ _ _ _) ?_ | with_reducible refine Mo_of (f_X5_enterFunction_L63_m _ _ _ _ _ _ _ _ _) ?_ | with_reducible refine Mo_of (f_X5_enterFunction_m _ _ _ _) ?_ | with_reducible refine Mo_of (f_X5_endRound_m _ _ _ _) ?_ | with_reducible refine Mo_of (f_X5_makeTable_L114_m _ _ _ _ _ _ _ _ _ _) ?_ | with_reducible refine Mo_of (f_X5_makeTable_m _ _ _ _) ?_ | with_reducible refine Mo_of (f_X5_enterCell_m _ _ _ _) ?_ | with_reducible refine Mo_of (f_X5_happen_m _ _ _) ?_ | with_reducible refine Mo_of (f_X5_begin_L90_m _ _ _ _ _ _ _ _) ?_ | with_reducible refine Mo_of (f_X5_begin_m _ _ _) ?_ | rfl)
  refine cG_X5_77_38_gA (pc := 68) X [.int ((S7.1 58) x1.toNatClampNeg), .int (-1), .int (-1)] [] 3 rfl (f_X5_openFrame_e l g (mx gA ad ga) fu ((S7.1 58) x1.toNatClampNeg) (-1) (-1) S7 _ _ hc12) (Nat.le_of_ble_eq_true rfl) (Nat.le_of_ble_eq_true rfl) (Nat.le_of_ble_eq_true rfl) rfl dX5_begin_68 (mo_use hc12 (f_X5_openFrame_m fu ((S7.1 58) x1.toNatClampNeg) (-1) (-1) S7)) m2 b1 b2 (fun ga bc bs b1 b2 => ?_)
  refine iv_istore (pc := 71) X dX5_begin_71 (by decide) (lv' := [(4, .int r11), (3, .int ((S7.1 58) x1.toNatClampNeg)), (0, .ref (mx gA ad ga 38)), (1, .int x1), (2, .ref (mx gA ad ga 2))]) rfl ?_
  refine iv_aload_n (pc := 73) X dX5_begin_73 rfl ?_
  refine gF_X5_12_38 (pc := 74) X dX5_begin_74 ?_
  refine gF_X5_68_40 (pc := 77) X dX5_begin_77 ?_
  refine gF_X5_81_56 (pc := 80) X dX5_begin_80 ?_
  refine iv_iload_n (pc := 83) X dX5_begin_83 rfl ?_
  obtain ⟨hg, hm⟩ := gd_some hm
  refine aL_59 (pc := 84) X dX5_begin_84 hg (x := (S10.1 59) x1.toNatClampNeg) rfl ?_
  refine iv_istore (pc := 85) X dX5_begin_85 (by decide) (lv' := [(5, .int ((S10.1 59) x1.toNatClampNeg)), (4, .int r11), (3, .int ((S7.1 58) x1.toNatClampNeg)), (0, .ref (mx gA ad ga 38)), (1, .int x1), (2, .ref (mx gA ad ga 2))]) rfl ?_
  refine iv_iconst (pc := 87) X dX5_begin_87 ic_0 ?_
  refine iv_istore (pc := 88) X dX5_begin_88 (by decide) (lv' := [(6, .int 0), (5, .int ((S10.1 59) x1.toNatClampNeg)), (4, .int r11), (3, .int ((S7.1 58) x1.toNatClampNeg)), (0, .ref (mx gA ad ga 38)), (1, .int x1), (2, .ref (mx gA ad ga 2))]) rfl ?_
  refine iv_sub [4, 5, 6, 3, 2, 1, 0] (lv2 := [(0, .ref (mx gA ad ga 38)), (1, .int x1), (2, .ref (mx gA ad ga 2)), (3, .int ((S7.1 58) x1.toNatClampNeg)), (4, .int r11), (5, .int ((S10.1 59) x1.toNatClampNeg)), (6, .int 0)]) rfl ?_
  exact f_X5_begin_L90_w (fu := fu) l g ad X fu x1 ((S7.1 58) x1.toNatClampNeg) r11 ((S10.1 59) x1.toNatClampNeg) 0 S10 _ _ hm ga bc bs b1 b2
def f_X5_run_L6 (fu : Nat) : Nat → Int32 → Int64 → Int64 → Int32 → im_S → Option (Unit × im_S)
  | 0, _, _, _, _, _ => none
  | nf + 1, z1, z2, z4, z6, S => if (z1 : Int32) ≤ z6 then (some ((), S)) else ((f_X5_condition S).bind (fun qS2 => if (qS2.1 : Int32) ≠ 1 then (some ((), qS2.2)) else (if (1000 : Int32) < ((qS2.2.1 38 2) + (qS2.2.1 38 8)) then (f_X5_run_L6 fu nf z1 z2 z4 (z6 + 1) (uI qS2.2 38 2 ((qS2.2.1 38 2) + 1))) else ((f_J9_floorMod_f86c9 (((z4 * 6364136223846793005) + 1442695040888963407) >>> ((16 : Int32).toInt64 &&& 63)) ((qS2.2.1 38 8).toInt64) qS2.2).bind (fun qS7 => (f_X5_happen fu qS7.1.toInt32 qS7.2).bind (fun qS10 => (f_X5_flow fu qS10.2).bind (fun qS13 => f_X5_run_L6 fu nf z1 z2 ((z4 * 6364136223846793005) + 1442695040888963407) (z6 + 1) (uI qS13.2 38 2 ((qS13.2.1 38 2) + 1)))))))))
theorem f_X5_run_L6_m (fu : Nat) : ∀ (nf : Nat) (z1 : Int32) (z2 : Int64) (z4 : Int64) (z6 : Int32) (S : im_S), Mo (f_X5_run_L6 fu nf z1 z2 z4 z6 S) S := by
  intro nf
  induction nf with
  | zero => intro z1 z2 z4 z6 S; exact Mo_none _
  | succ nf ih =>
    intro z1 z2 z4 z6 S
    unfold f_X5_run_L6
    repeat' first | with_reducible exact Mo_none _ | with_reducible refine Mo_gd ?_ | with_reducible refine Mo_ite ?_ ?_ | with_reducible refine Mo_bind ?_ (fun q => ?_) | with_reducible refine Mo_some ?_ | with_reducible refine Mo_of (ih _ _ _ _ _) ?_ | with_reducible refine Mo_of (f_gr65_m _ _) ?_ | with_reducible refine Mo_of (f_gr66_m _ _) ?_ | with_reducible refine Mo_of (f_gr68_m _ _) ?_ | with_reducible refine Mo_of (f_gr69_m _ _) ?_ | with_reducible refine Mo_of (f_gr70_m _ _) ?_ | with_reducible refine Mo_of (f_gr71_m _ _) ?_ | with_reducible refine Mo_of (f_gr73_m _ _) ?_ | with_reducible refine Mo_of (f_gr74_m _ _) ?_ | with_reducible refine Mo_of (f_X0_clear_m _) ?_ | with_reducible refine Mo_of (f_X0_release_m _ _) ?_ | with_reducible refine Mo_of (f_X2_clear_m _) ?_ | with_reducible refine Mo_of (f_X2_outward_L5_m _ _ _ _ _ _ _) ?_ | with_reducible refine Mo_of (f_X2_outward_m _ _ _ _) ?_ | with_reducible refine Mo_of (f_X3_takesNumbers_L12_m _ _ _ _ _ _) ?_ | with_reducible refine Mo_of (f_X3_takesNumbers_m _ _ _) ?_ | with_reducible refine Mo_of (f_X5_condition_m _) ?_ | with_reducible refine Mo_of (f_X5_slotOf_m _ _ _) ?_ | with_reducible refine Mo_of (f_X5_makeReady_m _ _ _) ?_ | with_reducible refine Mo_of (f_X5_send_m _ _ _ _ _) ?_ | with_reducible refine Mo_of (f_X5_leaveFunction_m _) ?_ | with_reducible refine Mo_of (f_X5_turn_m _ _ _) ?_ | with_reducible refine Mo_of (f_X5_leastError_m _ _ _) ?_ | with_reducible refine Mo_of (f_X5_calculate_m _ _ _ _) ?_ | with_reducible refine Mo_of (f_X8_clear_m _) ?_ | with_reducible refine Mo_of (f_X8_put_m _ _ _ _) ?_ | with_reducible refine Mo_of (f_X8_tableOf_m _ _ _) ?_ | with_reducible refine Mo_of (f_X8_firstCell_m _ _) ?_ | with_reducible refine Mo_of (f_X8_cellsIn_m _ _) ?_ | with_reducible refine Mo_of (f_J9_floorMod_f86c9_m _ _ _) ?_ | with_reducible refine Mo_of (f_J7_rangeCheck_23922_m _ _ _ _) ?_ | with_reducible refine Mo_of (f_J7_fill_bad5a_L10_m _ _ _ _ _ _ _) ?_ | with_reducible refine Mo_of (f_J7_fill_bad5a_m _ _ _ _ _) ?_ | with_reducible refine Mo_of (f_J7_fill_eb02e_L10_m _ _ _ _ _ _ _) ?_ | with_reducible refine Mo_of (f_J7_fill_eb02e_m _ _ _ _ _) ?_ | with_reducible refine Mo_of (f_X5_settle_L15_m _ _ _ _ _ _ _ _) ?_ | with_reducible refine Mo_of (f_X5_settle_m _ _ _ _ _) ?_ | with_reducible refine Mo_of (f_X5_handIn_m _ _ _ _ _) ?_ | with_reducible refine Mo_of (f_X5_cellAt_m _ _ _) ?_ | with_reducible refine Mo_of (f_X5_operate_m _ _ _) ?_ | with_reducible refine Mo_of (f_X5_pickCell_m _ _ _) ?_ | with_reducible refine Mo_of (f_X0_add_m _ _ _) ?_ | with_reducible refine Mo_of (f_X2_add_m _ _ _ _) ?_ | with_reducible refine Mo_of (f_X8_take_m _ _ _) ?_ | with_reducible refine Mo_of (f_X5_openFrame_m _ _ _ _ _) ?_ | with_reducible refine Mo_of (f_X5_enter_L16_m _ _ _ _ _ _ _) ?_ | with_reducible refine Mo_of (f_X5_enter_m _ _ _ _) ?_ | with_reducible refine Mo_of (f_X5_await_m _ _ _ _) ?_ | with_reducible refine Mo_of (f_X5_lookUp_m _ _ _ _) ?_ | with_reducible refine Mo_of (f_X5_beginLoop_L52_m _ _ _ _ _ _ _ _ _) ?_ | with_reducible refine Mo_of (f_X5_beginLoop_m _ _ _ _) ?_ | with_reducible refine Mo_of (f_X5_visit_m _ _ _ _) ?_ | with_reducible refine Mo_of (f_X5_meet_m _ _) ?_ | with_reducible refine Mo_of (f_X5_move_m _ _) ?_ | with_reducible refine Mo_of (f_X5_flow_L2_m _ _ _ _) ?_ | with_reducible refine Mo_of (f_X5_flow_m _ _) ?_ | with_reducible refine Mo_of (f_X5_choose_m _ _ _ _) ?_ | with_reducible refine Mo_of (f_X5_enterFunction_L63_m _ _ _ _ _ _ _ _ _) ?_ | with_reducible refine Mo_of (f_X5_enterFunction_m _ _ _ _) ?_ | with_reducible refine Mo_of (f_X5_endRound_m _ _ _ _) ?_ | with_reducible refine Mo_of (f_X5_makeTable_L114_m _ _ _ _ _ _ _ _ _ _) ?_ | with_reducible refine Mo_of (f_X5_makeTable_m _ _ _ _) ?_ | with_reducible refine Mo_of (f_X5_enterCell_m _ _ _ _) ?_ | with_reducible refine Mo_of (f_X5_happen_m _ _ _) ?_ | with_reducible refine Mo_of (f_X5_begin_L90_m _ _ _ _ _ _ _ _) ?_ | with_reducible refine Mo_of (f_X5_begin_m _ _ _) ?_ | rfl
set_option maxHeartbeats 4000000 in
set_option maxRecDepth 100000 in
theorem f_X5_run_L6_w {fu : Nat} (l : Launch) (g : im_G) (ad : Nat → Nat) {p : Program} {e : Env} {s : State} {m : MethodId} {below : List Frame} {meth : Method} {c : Code} {args : Array Value} {mc ms : Nat} (X : im_X p l s m args meth c g cX5_run 7 RX5 none) : ∀ (nf : Nat) (z1 : Int32) (z2 : Int64) (z4 : Int64) (z6 : Int32) (S : im_S) (r : Unit) (S' : im_S), f_X5_run_L6 fu nf z1 z2 z4 z6 S = some (r, S') → ∀ (ga : Nat → Nat) (bc bs : Nat), (gP S' - gP S) / 64 + 0 ≤ bc → 2 * gP S' + 0 ≤ 2 * gP S + bs → im_V p l e (im_R 7 mc ms) s m args below meth c g 7 (im_ZG gA below g ad args s mc ms none S') (mx gA ad ga) im_N (im_cn g (mx gA ad ga) S) bc bs 6 [(0, .ref (mx gA ad ga 38)), (1, .int z1), (2, .long z2), (4, .long z4), (6, .int z6)] [] := by
  intro nf
  induction nf with
  | zero =>
    intro z1 z2 z4 z6 S r S' hm
    cases hm
  | succ nf ih =>
    intro z1 z2 z4 z6 S r S' hm ga bc bs b1 b2
    unfold f_X5_run_L6 at hm
    refine iv_iload (pc := 6) X dX5_run_6 rfl ?_
    refine iv_iload_n (pc := 8) X dX5_run_8 rfl ?_
    refine iv_icmp_ge (pc := 9) X dX5_run_9 (tgt := 85) rfl (fun hb1 => ?_) (fun hb1 => ?_)
    · rw [if_pos hb1] at hm
      cases hm
      exact is_vretG (pc := 85) X dX5_run_85
    · rw [if_neg hb1] at hm
      refine iv_aload_n (pc := 12) X dX5_run_12 rfl ?_
      obtain ⟨⟨r3, S2⟩, hc4, hm⟩ := bd_some hm
      refine cV_X5_102_38 (pc := 13) X [] [] 0 rfl (f_X5_condition_e l g (mx gA ad ga)  S _ _ hc4) (Nat.le_of_ble_eq_true rfl) (Nat.le_of_ble_eq_true rfl) (Nat.le_of_ble_eq_true rfl) rfl dX5_run_13 ?_
      have b1 := gb_step (mo_use hc4 (f_X5_condition_m  S)) b1
      have b2 := gb_step2 (mo_use hc4 (f_X5_condition_m  S)) b2
      refine iv_iconst (pc := 16) X dX5_run_16 ic_1 ?_
      refine iv_icmp_ne (pc := 17) X dX5_run_17 (tgt := 85) rfl (fun hb5 => ?_) (fun hb5 => ?_)
      · rw [if_pos hb5] at hm
        cases hm
        exact is_vretG (pc := 85) X dX5_run_85
      · rw [if_neg hb5] at hm
        refine iv_aload_n (pc := 20) X dX5_run_20 rfl ?_
        refine gF_X5_47_38 (pc := 21) X dX5_run_21 (x := S2.1 38 2) rfl ?_
        refine iv_aload_n (pc := 24) X dX5_run_24 rfl ?_
        refine gF_X5_51_38 (pc := 25) X dX5_run_25 (x := S2.1 38 8) rfl ?_
        refine iv_iadd (pc := 28) X dX5_run_28 ?_
        refine iv_sipush (pc := 29) X dX5_run_29 sc_1000 ?_
        refine iv_icmp_gt (pc := 32) X dX5_run_32 (tgt := 69) rfl (fun hb6 => ?_) (fun hb6 => ?_)
        · rw [if_pos hb6] at hm
          refine iv_aload_n (pc := 69) X dX5_run_69 rfl ?_
          refine iv_dup (pc := 70) X dX5_run_70 rfl ?_
          refine gF_X5_47_38 (pc := 71) X dX5_run_71 (x := S2.1 38 2) rfl ?_
          refine iv_iconst (pc := 74) X dX5_run_74 ic_1 ?_
          refine iv_iadd (pc := 75) X dX5_run_75 ?_
          refine pF_X5_47_38 (pc := 76) X dX5_run_76 ?_
          refine iv_iinc (pc := 79) X dX5_run_79 rfl (by decide) (v := z6 + 1) rfl (lv' := [(6, .int (z6 + 1)), (0, .ref (mx gA ad ga 38)), (1, .int z1), (2, .long z2), (4, .long z4)]) rfl ?_
          refine iv_goto (pc := 82) X dX5_run_82 (tgt := 6) rfl ?_
          refine iv_sub [1, 2, 3, 4, 0] (lv2 := [(0, .ref (mx gA ad ga 38)), (1, .int z1), (2, .long z2), (4, .long z4), (6, .int (z6 + 1))]) rfl ?_
          exact ih z1 z2 z4 (z6 + 1) (uI S2 38 2 ((S2.1 38 2) + 1)) _ _ hm ga bc bs b1 b2
        · rw [if_neg hb6] at hm
          refine iv_lload (pc := 35) X dX5_run_35 rfl ?_
          refine iv_ldc2 (pc := 37) X wk_X5_106 dX5_run_37 ?_
          refine iv_lmul (pc := 40) X dX5_run_40 ?_
          refine iv_ldc2 (pc := 41) X wk_X5_108 dX5_run_41 ?_
          refine iv_ladd (pc := 44) X dX5_run_44 ?_
          refine iv_lstore (pc := 45) X dX5_run_45 (by decide) (lv' := [(4, .long ((z4 * 6364136223846793005) + 1442695040888963407)), (0, .ref (mx gA ad ga 38)), (1, .int z1), (2, .long z2), (6, .int z6)]) rfl ?_
          refine iv_aload_n (pc := 47) X dX5_run_47 rfl ?_
          refine iv_lload (pc := 48) X dX5_run_48 rfl ?_
          refine iv_bipush (pc := 50) X dX5_run_50 bc_16 ?_
          refine iv_lshr (pc := 52) X dX5_run_52 rfl ?_
          refine iv_aload_n (pc := 53) X dX5_run_53 rfl ?_
          refine gF_X5_51_38 (pc := 54) X dX5_run_54 (x := S2.1 38 8) rfl ?_
          refine iv_i2l (pc := 57) X dX5_run_57 rfl ?_
          obtain ⟨⟨r8, S7⟩, hc9, hm⟩ := bd_some hm
          refine cS_X5_110 (pc := 58) X [.long (((z4 * 6364136223846793005) + 1442695040888963407) >>> ((16 : Int32).toInt64 &&& 63)), .long ((S2.1 38 8).toInt64)] [.ref (mx gA ad ga 38)] 2 rfl (f_J9_floorMod_f86c9_e l g (mx gA ad ga) (((z4 * 6364136223846793005) + 1442695040888963407) >>> ((16 : Int32).toInt64 &&& 63)) ((S2.1 38 8).toInt64) S2 _ _ hc9) (Nat.le_of_ble_eq_true rfl) (Nat.le_of_ble_eq_true rfl) (Nat.le_of_ble_eq_true rfl) rfl dX5_run_58 ?_
          have b1 := gb_step (mo_use hc9 (f_J9_floorMod_f86c9_m (((z4 * 6364136223846793005) + 1442695040888963407) >>> ((16 : Int32).toInt64 &&& 63)) ((S2.1 38 8).toInt64) S2)) b1
          have b2 := gb_step2 (mo_use hc9 (f_J9_floorMod_f86c9_m (((z4 * 6364136223846793005) + 1442695040888963407) >>> ((16 : Int32).toInt64 &&& 63)) ((S2.1 38 8).toInt64) S2)) b2
          refine iv_l2i (pc := 61) X dX5_run_61 rfl ?_
          obtain ⟨⟨r11, S10⟩, hc12, hm⟩ := bd_some hm
          have m2 := mo_use (S := S10) hm (by repeat' first | with_reducible exact Mo_none _ | with_reducible refine Mo_gd ?_ | with_reducible refine Mo_ite ?_ ?_ | with_reducible refine Mo_bind ?_ (fun q => ?_) | with_reducible refine Mo_some ?_ | with_reducible refine Mo_of (f_gr65_m _ _) ?_ | with_reducible refine Mo_of (f_gr66_m _ _) ?_ | with_reducible refine Mo_of (f_gr68_m _ _) ?_ | with_reducible refine Mo_of (f_gr69_m _ _) ?_ | with_reducible refine Mo_of (f_gr70_m _ _) ?_ | with_reducible refine Mo_of (f_gr71_m _ _) ?_ | with_reducible refine Mo_of (f_gr73_m _ _) ?_ | with_reducible refine Mo_of (f_gr74_m _ _) ?_ | with_reducible refine Mo_of (f_X0_clear_m _) ?_ | with_reducible refine Mo_of (f_X0_release_m _ _) ?_ | with_reducible refine Mo_of (f_X2_clear_m _) ?_ | with_reducible refine Mo_of (f_X2_outward_L5_m _ _ _ _ _ _ _) ?_ | with_reducible refine Mo_of (f_X2_outward_m _ _ _ _) ?_ | with_reducible refine Mo_of (f_X3_takesNumbers_L12_m _ _ _ _ _ _) ?_ | with_reducible refine Mo_of (f_X3_takesNumbers_m _ _ _) ?_ | with_reducible refine Mo_of (f_X5_condition_m _) ?_ | with_reducible refine Mo_of (f_X5_slotOf_m _ _ _) ?_ | with_reducible refine Mo_of (f_X5_makeReady_m _ _ _) ?_ | with_reducible refine Mo_of (f_X5_send_m _ _ _ _ _) ?_ | with_reducible refine Mo_of (f_X5_leaveFunction_m _) ?_ | with_reducible refine Mo_of (f_X5_turn_m _ _ _) ?_ | with_reducible refine Mo_of (f_X5_leastError_m _ _ _) ?_ | with_reducible refine Mo_of (f_X5_calculate_m _ _ _ _) ?_ | with_reducible refine Mo_of (f_X8_clear_m _) ?_ | with_reducible refine Mo_of (f_X8_put_m _ _ _ _) ?_ | with_reducible refine Mo_of (f_X8_tableOf_m _ _ _) ?_ | with_reducible refine Mo_of (f_X8_firstCell_m _ _) ?_ | with_reducible refine Mo_of (f_X8_cellsIn_m _ _) ?_ | with_reducible refine Mo_of (f_J9_floorMod_f86c9_m _ _ _) ?_ | with_reducible refine Mo_of (f_J7_rangeCheck_23922_m _ _ _ _) ?_ | with_reducible refine Mo_of (f_J7_fill_bad5a_L10_m _ _ _ _ _ _ _) ?_ | with_reducible refine Mo_of (f_J7_fill_bad5a_m _ _ _ _ _) ?_ | with_reducible refine Mo_of (f_J7_fill_eb02e_L10_m _ _ _ _ _ _ _) ?_ | with_reducible refine Mo_of (f_J7_fill_eb02e_m _ _ _ _ _) ?_ | with_reducible refine Mo_of (f_X5_settle_L15_m _ _ _ _ _ _ _ _) ?_ | with_reducible refine Mo_of (f_X5_settle_m _ _ _ _ _) ?_ | with_reducible refine Mo_of (f_X5_handIn_m _ _ _ _ _) ?_ | with_reducible refine Mo_of (f_X5_cellAt_m _ _ _) ?_ | with_reducible refine Mo_of (f_X5_operate_m _ _ _) ?_ | with_reducible refine Mo_of (f_X5_pickCell_m _ _ _) ?_ | with_reducible refine Mo_of (f_X0_add_m _ _ _) ?_ | with_reducible refine Mo_of (f_X2_add_m _ _ _ _) ?_ | with_reducible refine Mo_of (f_X8_take_m _ _ _) ?_ | with_reducible refine Mo_of (f_X5_openFrame_m _ _ _ _ _) ?_ | with_reducible refine Mo_of (f_X5_enter_L16_m _ _ _ _ _ _ _) ?_ | with_reducible refine Mo_of (f_X5_enter_m _ _ _ _) ?_ | with_reducible refine Mo_of (f_X5_await_m _ _ _ _) ?_ | with_reducible refine Mo_of (f_X5_lookUp_m _ _ _ _) ?_ | with_reducible refine Mo_of (f_X5_beginLoop_L52_m _ _ _ _ _ _ _ _ _) ?_ | with_reducible refine Mo_of (f_X5_beginLoop_m _ _ _ _) ?_ | with_reducible refine Mo_of (f_X5_visit_m _ _ _ _) ?_ | with_reducible refine Mo_of (f_X5_meet_m _ _) ?_ | with_reducible refine Mo_of (f_X5_move_m _ _) ?_ | with_reducible refine Mo_of (f_X5_flow_L2_m _ _ _ _) ?_ | with_reducible refine Mo_of (f_X5_flow_m _ _) ?_ | with_reducible refine Mo_of (f_X5_choose_m _ _ _ _) ?_ | with_reducible refine Mo_of (f_X5_enterFunction_L63_m _ _ _ _ _ _ _ _ _) ?_ | with_reducible refine Mo_of (f_X5_enterFunction_m _ _ _ _) ?_ | with_reducible refine Mo_of (f_X5_endRound_m _ _ _ _) ?_ | with_reducible refine Mo_of (f_X5_makeTable_L114_m _ _ _ _ _ _ _ _ _ _) ?_ | with_reducible refine Mo_of (f_X5_makeTable_m _ _ _ _) ?_ | with_reducible refine Mo_of (f_X5_enterCell_m _ _ _ _) ?_ | with_reducible refine Mo_of (f_X5_happen_m _ _ _) ?_ | with_reducible refine Mo_of (f_X5_begin_L90_m _ _ _ _ _ _ _ _) ?_ | with_reducible refine Mo_of (f_X5_begin_m _ _ _) ?_ | with_reducible refine Mo_of (f_X5_run_L6_m _ _ _ _ _ _ _) ?_ | rfl)
          refine cG_X5_116_38_gA (pc := 62) X [.int r8.toInt32] [] 1 rfl (f_X5_happen_e l g (mx gA ad ga) fu r8.toInt32 S7 _ _ hc12) (Nat.le_of_ble_eq_true rfl) (Nat.le_of_ble_eq_true rfl) (Nat.le_of_ble_eq_true rfl) rfl dX5_run_62 (mo_use hc12 (f_X5_happen_m fu r8.toInt32 S7)) m2 b1 b2 (fun ga bc bs b1 b2 => ?_)
          refine iv_aload_n (pc := 65) X dX5_run_65 rfl ?_
          obtain ⟨⟨r14, S13⟩, hc15, hm⟩ := bd_some hm
          have m2 := mo_use (S := S13) hm (by repeat' first | with_reducible exact Mo_none _ | with_reducible refine Mo_gd ?_ | with_reducible refine Mo_ite ?_ ?_ | with_reducible refine Mo_bind ?_ (fun q => ?_) | with_reducible refine Mo_some ?_ | with_reducible refine Mo_of (f_gr65_m _ _) ?_ | with_reducible refine Mo_of (f_gr66_m _ _) ?_ | with_reducible refine Mo_of (f_gr68_m _ _) ?_ | with_reducible refine Mo_of (f_gr69_m _ _) ?_ | with_reducible refine Mo_of (f_gr70_m _ _) ?_ | with_reducible refine Mo_of (f_gr71_m _ _) ?_ | with_reducible refine Mo_of (f_gr73_m _ _) ?_ | with_reducible refine Mo_of (f_gr74_m _ _) ?_ | with_reducible refine Mo_of (f_X0_clear_m _) ?_ | with_reducible refine Mo_of (f_X0_release_m _ _) ?_ | with_reducible refine Mo_of (f_X2_clear_m _) ?_ | with_reducible refine Mo_of (f_X2_outward_L5_m _ _ _ _ _ _ _) ?_ | with_reducible refine Mo_of (f_X2_outward_m _ _ _ _) ?_ | with_reducible refine Mo_of (f_X3_takesNumbers_L12_m _ _ _ _ _ _) ?_ | with_reducible refine Mo_of (f_X3_takesNumbers_m _ _ _) ?_ | with_reducible refine Mo_of (f_X5_condition_m _) ?_ | with_reducible refine Mo_of (f_X5_slotOf_m _ _ _) ?_ | with_reducible refine Mo_of (f_X5_makeReady_m _ _ _) ?_ | with_reducible refine Mo_of (f_X5_send_m _ _ _ _ _) ?_ | with_reducible refine Mo_of (f_X5_leaveFunction_m _) ?_ | with_reducible refine Mo_of (f_X5_turn_m _ _ _) ?_ | with_reducible refine Mo_of (f_X5_leastError_m _ _ _) ?_ | with_reducible refine Mo_of (f_X5_calculate_m _ _ _ _) ?_ | with_reducible refine Mo_of (f_X8_clear_m _) ?_ | with_reducible refine Mo_of (f_X8_put_m _ _ _ _) ?_ | with_reducible refine Mo_of (f_X8_tableOf_m _ _ _) ?_ | with_reducible refine Mo_of (f_X8_firstCell_m _ _) ?_ | with_reducible refine Mo_of (f_X8_cellsIn_m _ _) ?_ | with_reducible refine Mo_of (f_J9_floorMod_f86c9_m _ _ _) ?_ | with_reducible refine Mo_of (f_J7_rangeCheck_23922_m _ _ _ _) ?_ | with_reducible refine Mo_of (f_J7_fill_bad5a_L10_m _ _ _ _ _ _ _) ?_ | with_reducible refine Mo_of (f_J7_fill_bad5a_m _ _ _ _ _) ?_ | with_reducible refine Mo_of (f_J7_fill_eb02e_L10_m _ _ _ _ _ _ _) ?_ | with_reducible refine Mo_of (f_J7_fill_eb02e_m _ _ _ _ _) ?_ | with_reducible refine Mo_of (f_X5_settle_L15_m _ _ _ _ _ _ _ _) ?_ | with_reducible refine Mo_of (f_X5_settle_m _ _ _ _ _) ?_ | with_reducible refine Mo_of (f_X5_handIn_m _ _ _ _ _) ?_ | with_reducible refine Mo_of (f_X5_cellAt_m _ _ _) ?_ | with_reducible refine Mo_of (f_X5_operate_m _ _ _) ?_ | with_reducible refine Mo_of (f_X5_pickCell_m _ _ _) ?_ | with_reducible refine Mo_of (f_X0_add_m _ _ _) ?_ | with_reducible refine Mo_of (f_X2_add_m _ _ _ _) ?_ | with_reducible refine Mo_of (f_X8_take_m _ _ _) ?_ | with_reducible refine Mo_of (f_X5_openFrame_m _ _ _ _ _) ?_ | with_reducible refine Mo_of (f_X5_enter_L16_m _ _ _ _ _ _ _) ?_ | with_reducible refine Mo_of (f_X5_enter_m _ _ _ _) ?_ | with_reducible refine Mo_of (f_X5_await_m _ _ _ _) ?_ | with_reducible refine Mo_of (f_X5_lookUp_m _ _ _ _) ?_ | with_reducible refine Mo_of (f_X5_beginLoop_L52_m _ _ _ _ _ _ _ _ _) ?_ | with_reducible refine Mo_of (f_X5_beginLoop_m _ _ _ _) ?_ | with_reducible refine Mo_of (f_X5_visit_m _ _ _ _) ?_ | with_reducible refine Mo_of (f_X5_meet_m _ _) ?_ | with_reducible refine Mo_of (f_X5_move_m _ _) ?_ | with_reducible refine Mo_of (f_X5_flow_L2_m _ _ _ _) ?_ | with_reducible refine Mo_of (f_X5_flow_m _ _) ?_ | with_reducible refine Mo_of (f_X5_choose_m _ _ _ _) ?_ | with_reducible refine Mo_of (f_X5_enterFunction_L63_m _ _ _ _ _ _ _ _ _) ?_ | with_reducible refine Mo_of (f_X5_enterFunction_m _ _ _ _) ?_ | with_reducible refine Mo_of (f_X5_endRound_m _ _ _ _) ?_ | with_reducible refine Mo_of (f_X5_makeTable_L114_m _ _ _ _ _ _ _ _ _ _) ?_ | with_reducible refine Mo_of (f_X5_makeTable_m _ _ _ _) ?_ | with_reducible refine Mo_of (f_X5_enterCell_m _ _ _ _) ?_ | with_reducible refine Mo_of (f_X5_happen_m _ _ _) ?_ | with_reducible refine Mo_of (f_X5_begin_L90_m _ _ _ _ _ _ _ _) ?_ | with_reducible refine Mo_of (f_X5_begin_m _ _ _) ?_ | with_reducible refine Mo_of (f_X5_run_L6_m _ _ _ _ _ _ _) ?_ | rfl)
          refine cG_X5_99_38_gA (pc := 66) X [] [] 0 rfl (f_X5_flow_e l g (mx gA ad ga) fu  S10 _ _ hc15) (Nat.le_of_ble_eq_true rfl) (Nat.le_of_ble_eq_true rfl) (Nat.le_of_ble_eq_true rfl) rfl dX5_run_66 (mo_use hc15 (f_X5_flow_m fu  S10)) m2 b1 b2 (fun ga bc bs b1 b2 => ?_)
          refine iv_aload_n (pc := 69) X dX5_run_69 rfl ?_
          refine iv_dup (pc := 70) X dX5_run_70 rfl ?_
          refine gF_X5_47_38 (pc := 71) X dX5_run_71 (x := S13.1 38 2) rfl ?_
          refine iv_iconst (pc := 74) X dX5_run_74 ic_1 ?_
          refine iv_iadd (pc := 75) X dX5_run_75 ?_
          refine pF_X5_47_38 (pc := 76) X dX5_run_76 ?_
          refine iv_iinc (pc := 79) X dX5_run_79 rfl (by decide) (v := z6 + 1) rfl (lv' := [(6, .int (z6 + 1)), (4, .long ((z4 * 6364136223846793005) + 1442695040888963407)), (0, .ref (mx gA ad ga 38)), (1, .int z1), (2, .long z2)]) rfl ?_
          refine iv_goto (pc := 82) X dX5_run_82 (tgt := 6) rfl ?_
          refine iv_sub [2, 3, 4, 1, 0] (lv2 := [(0, .ref (mx gA ad ga 38)), (1, .int z1), (2, .long z2), (4, .long ((z4 * 6364136223846793005) + 1442695040888963407)), (6, .int (z6 + 1))]) rfl ?_
          exact ih z1 z2 ((z4 * 6364136223846793005) + 1442695040888963407) (z6 + 1) (uI S13 38 2 ((S13.1 38 2) + 1)) _ _ hm ga bc bs b1 b2
def f_X5_run (fu : Nat) (x1 : Int32) (x2 : Int64) (S : im_S) : Option (Unit × im_S) := f_X5_run_L6 fu fu x1 x2 x2 0 S
theorem f_X5_run_m (fu : Nat) (x1 : Int32) (x2 : Int64) (S : im_S) : Mo (f_X5_run fu x1 x2 S) S := by
  unfold f_X5_run
  repeat' first | with_reducible exact Mo_none _ | with_reducible refine Mo_gd ?_ | with_reducible refine Mo_ite ?_ ?_ | with_reducible refine Mo_bind ?_ (fun q => ?_) | with_reducible refine Mo_some ?_ | with_reducible refine Mo_of (f_gr65_m _ _) ?_ | with_reducible refine Mo_of (f_gr66_m _ _) ?_ | with_reducible refine Mo_of (f_gr68_m _ _) ?_ | with_reducible refine Mo_of (f_gr69_m _ _) ?_ | with_reducible refine Mo_of (f_gr70_m _ _) ?_ | with_reducible refine Mo_of (f_gr71_m _ _) ?_ | with_reducible refine Mo_of (f_gr73_m _ _) ?_ | with_reducible refine Mo_of (f_gr74_m _ _) ?_ | with_reducible refine Mo_of (f_X0_clear_m _) ?_ | with_reducible refine Mo_of (f_X0_release_m _ _) ?_ | with_reducible refine Mo_of (f_X2_clear_m _) ?_ | with_reducible refine Mo_of (f_X2_outward_L5_m _ _ _ _ _ _ _) ?_ | with_reducible refine Mo_of (f_X2_outward_m _ _ _ _) ?_ | with_reducible refine Mo_of (f_X3_takesNumbers_L12_m _ _ _ _ _ _) ?_ | with_reducible refine Mo_of (f_X3_takesNumbers_m _ _ _) ?_ | with_reducible refine Mo_of (f_X5_condition_m _) ?_ | with_reducible refine Mo_of (f_X5_slotOf_m _ _ _) ?_ | with_reducible refine Mo_of (f_X5_makeReady_m _ _ _) ?_ | with_reducible refine Mo_of (f_X5_send_m _ _ _ _ _) ?_ | with_reducible refine Mo_of (f_X5_leaveFunction_m _) ?_ | with_reducible refine Mo_of (f_X5_turn_m _ _ _) ?_ | with_reducible refine Mo_of (f_X5_leastError_m _ _ _) ?_ | with_reducible refine Mo_of (f_X5_calculate_m _ _ _ _) ?_ | with_reducible refine Mo_of (f_X8_clear_m _) ?_ | with_reducible refine Mo_of (f_X8_put_m _ _ _ _) ?_ | with_reducible refine Mo_of (f_X8_tableOf_m _ _ _) ?_ | with_reducible refine Mo_of (f_X8_firstCell_m _ _) ?_ | with_reducible refine Mo_of (f_X8_cellsIn_m _ _) ?_ | with_reducible refine Mo_of (f_J9_floorMod_f86c9_m _ _ _) ?_ | with_reducible refine Mo_of (f_J7_rangeCheck_23922_m _ _ _ _) ?_ | with_reducible refine Mo_of (f_J7_fill_bad5a_L10_m _ _ _ _ _ _ _) ?_ | with_reducible refine Mo_of (f_J7_fill_bad5a_m _ _ _ _ _) ?_ | with_reducible refine Mo_of (f_J7_fill_eb02e_L10_m _ _ _ _ _ _ _) ?_ | with_reducible refine Mo_of (f_J7_fill_eb02e_m _ _ _ _ _) ?_ | with_reducible refine Mo_of (f_X5_settle_L15_m _ _ _ _ _ _ _ _) ?_ | with_reducible refine Mo_of (f_X5_settle_m _ _ _ _ _) ?_ | with_reducible refine Mo_of (f_X5_handIn_m _ _ _ _ _) ?_ | with_reducible refine Mo_of (f_X5_cellAt_m _ _ _) ?_ | with_reducible refine Mo_of (f_X5_operate_m _ _ _) ?_ | with_reducible refine Mo_of (f_X5_pickCell_m _ _ _) ?_ | with_reducible refine Mo_of (f_X0_add_m _ _ _) ?_ | with_reducible refine Mo_of (f_X2_add_m _ _ _ _) ?_ | with_reducible refine Mo_of (f_X8_take_m _ _ _) ?_ | with_reducible refine Mo_of (f_X5_openFrame_m _ _ _ _ _) ?_ | with_reducible refine Mo_of (f_X5_enter_L16_m _ _ _ _ _ _ _) ?_ | with_reducible refine Mo_of (f_X5_enter_m _ _ _ _) ?_ | with_reducible refine Mo_of (f_X5_await_m _ _ _ _) ?_ | with_reducible refine Mo_of (f_X5_lookUp_m _ _ _ _) ?_ | with_reducible refine Mo_of (f_X5_beginLoop_L52_m _ _ _ _ _ _ _ _ _) ?_ | with_reducible refine Mo_of (f_X5_beginLoop_m _ _ _ _) ?_ | with_reducible refine Mo_of (f_X5_visit_m _ _ _ _) ?_ | with_reducible refine Mo_of (f_X5_meet_m _ _) ?_ | with_reducible refine Mo_of (f_X5_move_m _ _) ?_ | with_reducible refine Mo_of (f_X5_flow_L2_m _ _ _ _) ?_ | with_reducible refine Mo_of (f_X5_flow_m _ _) ?_ | with_reducible refine Mo_of (f_X5_choose_m _ _ _ _) ?_ | with_reducible refine Mo_of (f_X5_enterFunction_L63_m _ _ _ _ _ _ _ _ _) ?_ | with_reducible refine Mo_of (f_X5_enterFunction_m _ _ _ _) ?_ | with_reducible refine Mo_of (f_X5_endRound_m _ _ _ _) ?_ | with_reducible refine Mo_of (f_X5_makeTable_L114_m _ _ _ _ _ _ _ _ _ _) ?_ | with_reducible refine Mo_of (f_X5_makeTable_m _ _ _ _) ?_ | with_reducible refine Mo_of (f_X5_enterCell_m _ _ _ _) ?_ | with_reducible refine Mo_of (f_X5_happen_m _ _ _) ?_ | with_reducible refine Mo_of (f_X5_begin_L90_m _ _ _ _ _ _ _ _) ?_ | with_reducible refine Mo_of (f_X5_begin_m _ _ _) ?_ | with_reducible refine Mo_of (f_X5_run_L6_m _ _ _ _ _ _ _) ?_ | rfl
set_option maxHeartbeats 4000000 in
set_option maxRecDepth 100000 in
theorem f_X5_run_e (l : Launch) (g : im_G) (ad : Nat → Nat) (fu : Nat) (x1 : Int32) (x2 : Int64) (S : im_S) (r : Unit) (S' : im_S) (hm : f_X5_run fu x1 x2 S = some (r, S')) : im_EG gA l g ad 7 yX5_run cX5_run 7 none [.ref (ad 38), .int x1, .long x2] S none S' := by
  unfold f_X5_run at hm
  refine is_metG (own := RX5) (by decide +kernel) rfl (Nat.le_of_ble_eq_true rfl) (fun p e s m below meth c X ga bc bs b1 b2 => ?_)
  refine iv_lload_n (pc := 0) X dX5_run_0 rfl ?_
  refine iv_lstore (pc := 1) X dX5_run_1 (by decide) (lv' := [(4, .long x2), (0, .ref (mx gA ad ga 38)), (1, .int x1), (2, .long x2)]) rfl ?_
  refine iv_iconst (pc := 3) X dX5_run_3 ic_0 ?_
  refine iv_istore (pc := 4) X dX5_run_4 (by decide) (lv' := [(6, .int 0), (4, .long x2), (0, .ref (mx gA ad ga 38)), (1, .int x1), (2, .long x2)]) rfl ?_
  refine iv_sub [2, 3, 4, 1, 0] (lv2 := [(0, .ref (mx gA ad ga 38)), (1, .int x1), (2, .long x2), (4, .long x2), (6, .int 0)]) rfl ?_
  exact f_X5_run_L6_w (fu := fu) l g ad X fu x1 x2 x2 0 S _ _ hm ga bc bs b1 b2
