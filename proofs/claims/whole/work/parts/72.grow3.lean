/-! written by program (wip/whole/walk.py): what grows -/
def f_X10_start (fu : Nat) (x1 : Int32) (x2 : Int64) (x4 : Int64) (x6 : Int64) (x8 : Int64) (S : im_S) : Option (Int32 × im_S) := if (x1 : Int32) < 0 then (some (0, S)) else (if (S.1 56 3 : Int32) ≤ x1 then (some (0, S)) else ((f_X3_takesNumbers fu x1 S).bind (fun qS3 => if (qS3.1 : Int32) ≠ 0 then (gd (in_b 0 4) (gd (in_b 1 4) (gd (in_b 2 4) (gd (in_b 3 4) ((f_X5_begin fu x1 (uJ (uJ (uJ (uJ qS3.2 2 ((0 : Int32).toNatClampNeg) x2) 2 ((1 : Int32).toNatClampNeg) x4) 2 ((2 : Int32).toNatClampNeg) x6) 2 ((3 : Int32).toNatClampNeg) x8)).bind (fun qS7 => some (1, (uI qS7.2 0 6 ((qS7.2.1 0 6) + 1))))))))) else (some (0, qS3.2)))))
theorem f_X10_start_m (fu : Nat) (x1 : Int32) (x2 : Int64) (x4 : Int64) (x6 : Int64) (x8 : Int64) (S : im_S) : Mo (f_X10_start fu x1 x2 x4 x6 x8 S) S := by
  unfold f_X10_start
  repeat' first | with_reducible exact Mo_none _ | with_reducible refine Mo_gd ?_ | with_reducible refine Mo_ite ?_ ?_ | with_reducible refine Mo_bind ?_ (fun q => ?_) | with_reducible refine Mo_some ?_ | with_reducible refine Mo_of (f_gr65_m _ _) ?_ | with_reducible refine Mo_of (f_gr66_m _ _) ?_ | with_reducible refine Mo_of (f_gr68_m _ _) ?_ | with_reducible refine Mo_of (f_gr69_m _ _) ?_ | with_reducible refine Mo_of (f_gr70_m _ _) ?_ | with_reducible refine Mo_of (f_gr71_m _ _) ?_ | with_reducible refine Mo_of (f_gr73_m _ _) ?_ | with_reducible refine Mo_of (f_gr74_m _ _) ?_ | with_reducible refine Mo_of (f_X0_clear_m _) ?_ | with_reducible refine Mo_of (f_X0_release_m _ _) ?_ | with_reducible refine Mo_of (f_X2_clear_m _) ?_ | with_reducible refine Mo_of (f_X2_outward_L5_m _ _ _ _ _ _ _) ?_ | with_reducible refine Mo_of (f_X2_outward_m _ _ _ _) ?_ | with_reducible refine Mo_of (f_X3_takesNumbers_L12_m _ _ _ _ _ _) ?_ | with_reducible refine Mo_of (f_X3_takesNumbers_m _ _ _) ?_ | with_reducible refine Mo_of (f_X5_condition_m _) ?_ | with_reducible refine Mo_of (f_X5_slotOf_m _ _ _) ?_ | with_reducible refine Mo_of (f_X5_makeReady_m _ _ _) ?_ | with_reducible refine Mo_of (f_X5_send_m _ _ _ _ _) ?_ | with_reducible refine Mo_of (f_X5_leaveFunction_m _) ?_ | with_reducible refine Mo_of (f_X5_turn_m _ _ _) ?_ | with_reducible refine Mo_of (f_X5_leastError_m _ _ _) ?_ | with_reducible refine Mo_of (f_X5_calculate_m _ _ _ _) ?_ | with_reducible refine Mo_of (f_X8_clear_m _) ?_ | with_reducible refine Mo_of (f_X8_put_m _ _ _ _) ?_ | with_reducible refine Mo_of (f_X8_tableOf_m _ _ _) ?_ | with_reducible refine Mo_of (f_X8_firstCell_m _ _) ?_ | with_reducible refine Mo_of (f_X8_cellsIn_m _ _) ?_ | with_reducible refine Mo_of (f_J9_floorMod_f86c9_m _ _ _) ?_ | with_reducible refine Mo_of (f_J7_rangeCheck_23922_m _ _ _ _) ?_ | with_reducible refine Mo_of (f_J7_fill_bad5a_L10_m _ _ _ _ _ _ _) ?_ | with_reducible refine Mo_of (f_J7_fill_bad5a_m _ _ _ _ _) ?_ | with_reducible refine Mo_of (f_J7_fill_eb02e_L10_m _ _ _ _ _ _ _) ?_ | with_reducible refine Mo_of (f_J7_fill_eb02e_m _ _ _ _ _) ?_ | with_reducible refine Mo_of (f_X5_settle_L15_m _ _ _ _ _ _ _ _) ?_ | with_reducible refine Mo_of (f_X5_settle_m _ _ _ _ _) ?_ | with_reducible refine Mo_of (f_X5_handIn_m _ _ _ _ _) ?_ | with_reducible refine Mo_of (f_X5_cellAt_m _ _ _) ?_ | with_reducible refine Mo_of (f_X5_operate_m _ _ _) ?_ | with_reducible refine Mo_of (f_X5_pickCell_m _ _ _) ?_ | with_reducible refine Mo_of (f_X0_add_m _ _ _) ?_ | with_reducible refine Mo_of (f_X2_add_m _ _ _ _) ?_ | with_reducible refine Mo_of (f_X8_take_m _ _ _) ?_ | with_reducible refine Mo_of (f_X5_openFrame_m _ _ _ _ _) ?_ | with_reducible refine Mo_of (f_X5_enter_L16_m _ _ _ _ _ _ _) ?_ | with_reducible refine Mo_of (f_X5_enter_m _ _ _ _) ?_ | with_reducible refine Mo_of (f_X5_await_m _ _ _ _) ?_ | with_reducible refine Mo_of (f_X5_lookUp_m _ _ _ _) ?_ | with_reducible refine Mo_of (f_X5_beginLoop_L52_m _ _ _ _ _ _ _ _ _) ?_ | with_reducible refine Mo_of (f_X5_beginLoop_m _ _ _ _) ?_ | with_reducible refine Mo_of (f_X5_visit_m _ _ _ _) ?_ | with_reducible refine Mo_of (f_X5_meet_m _ _) ?_ | with_reducible refine Mo_of (f_X5_move_m _ _) ?_ | with_reducible refine Mo_of (f_X5_flow_L2_m _ _ _ _) ?_ | with_reducible refine Mo_of (f_X5_flow_m _ _) ?_ | with_reducible refine Mo_of (f_X5_choose_m _ _ _ _) ?_ | with_reducible refine Mo_of (f_X5_enterFunction_L63_m _ _ _ _ _ _ _ _ _) ?_ | with_reducible refine Mo_of (f_X5_enterFunction_m _ _ _ _) ?_ | with_reducible refine Mo_of (f_X5_endRound_m _ _ _ _) ?_ | with_reducible refine Mo_of (f_X5_makeTable_L114_m _ _ _ _ _ _ _ _ _ _) ?_ | with_reducible refine Mo_of (f_X5_makeTable_m _ _ _ _) ?_ | with_reducible refine Mo_of (f_X5_enterCell_m _ _ _ _) ?_ | with_reducible refine Mo_of (f_X5_happen_m _ _ _) ?_ | with_reducible refine Mo_of (f_X5_begin_L90_m _ _ _ _ _ _ _ _) ?_ | with_reducible refine Mo_of (f_X5_begin_m _ _ _) ?_ | with_reducible refine Mo_of (f_X5_run_L6_m _ _ _ _ _ _ _) ?_ | with_reducible refine Mo_of (f_X5_run_m _ _ _ _) ?_ | rfl
set_option maxHeartbeats 4000000 in
set_option maxRecDepth 100000 in
theorem f_X10_start_e (l : Launch) (g : im_G) (ad : Nat → Nat) (fu : Nat) (x1 : Int32) (x2 : Int64) (x4 : Int64) (x6 : Int64) (x8 : Int64) (S : im_S) (r : Int32) (S' : im_S) (hm : f_X10_start fu x1 x2 x4 x6 x8 S = some (r, S')) : im_EG gA l g ad 8 yX10_start cX10_start 11 (some Jvm.ClassFile.FieldType.boolean) [.ref (ad 0), .int x1, .long x2, .long x4, .long x6, .long x8] S (some (.int r)) S' := by
  unfold f_X10_start at hm
  refine is_metG (own := RX10) (by decide +kernel) rfl (Nat.le_of_ble_eq_true rfl) (fun p e s m below meth c X ga bc bs b1 b2 => ?_)
  refine iv_aload_n (pc := 0) X dX10_start_0 rfl ?_
  refine gF_X10_27_0 (pc := 1) X dX10_start_1 ?_
  refine gF_X10_46_38 (pc := 4) X dX10_start_4 ?_
  refine iv_astore (pc := 7) X dX10_start_7 (by decide) (lv' := [(10, .ref (mx gA ad ga 40)), (0, .ref (mx gA ad ga 0)), (1, .int x1), (2, .long x2), (4, .long x4), (6, .long x6), (8, .long x8)]) rfl ?_
  refine iv_iload_n (pc := 9) X dX10_start_9 rfl ?_
  refine iv_if_lt (pc := 10) X dX10_start_10 (tgt := 34) rfl (fun hb1 => ?_) (fun hb1 => ?_)
  · rw [if_pos hb1] at hm
    refine iv_iconst (pc := 34) X dX10_start_34 ic_0 ?_
    cases hm
    exact is_zretG (pc := 35) X dX10_start_35 rfl
  · rw [if_neg hb1] at hm
    refine iv_iload_n (pc := 13) X dX10_start_13 rfl ?_
    refine iv_aload (pc := 14) X dX10_start_14 rfl ?_
    refine gF_X10_55_40 (pc := 16) X dX10_start_16 ?_
    refine gF_X10_61_56 (pc := 19) X dX10_start_19 (x := S.1 56 3) rfl ?_
    refine iv_icmp_ge (pc := 22) X dX10_start_22 (tgt := 34) rfl (fun hb2 => ?_) (fun hb2 => ?_)
    · rw [if_pos hb2] at hm
      refine iv_iconst (pc := 34) X dX10_start_34 ic_0 ?_
      cases hm
      exact is_zretG (pc := 35) X dX10_start_35 rfl
    · rw [if_neg hb2] at hm
      refine iv_aload (pc := 25) X dX10_start_25 rfl ?_
      refine iv_iload_n (pc := 27) X dX10_start_27 rfl ?_
      obtain ⟨⟨r4, S3⟩, hc5, hm⟩ := bd_some hm
      refine cV_X10_78_40 (pc := 28) X [.int x1] [] 1 rfl (f_X3_takesNumbers_e l g (mx gA ad ga) fu x1 S _ _ hc5) (Nat.le_of_ble_eq_true rfl) (Nat.le_of_ble_eq_true rfl) (Nat.le_of_ble_eq_true rfl) rfl dX10_start_28 ?_
      have b1 := gb_step (mo_use hc5 (f_X3_takesNumbers_m fu x1 S)) b1
      have b2 := gb_step2 (mo_use hc5 (f_X3_takesNumbers_m fu x1 S)) b2
      refine iv_if_ne (pc := 31) X dX10_start_31 (tgt := 36) rfl (fun hb6 => ?_) (fun hb6 => ?_)
      · rw [if_pos hb6] at hm
        refine iv_aload_n (pc := 36) X dX10_start_36 rfl ?_
        refine gF_X10_13_0 (pc := 37) X dX10_start_37 ?_
        refine iv_iconst (pc := 40) X dX10_start_40 ic_0 ?_
        refine iv_lload_n (pc := 41) X dX10_start_41 rfl ?_
        obtain ⟨hg, hm⟩ := gd_some hm
        refine aS_2 (pc := 42) X dX10_start_42 hg ?_
        refine iv_aload_n (pc := 43) X dX10_start_43 rfl ?_
        refine gF_X10_13_0 (pc := 44) X dX10_start_44 ?_
        refine iv_iconst (pc := 47) X dX10_start_47 ic_1 ?_
        refine iv_lload (pc := 48) X dX10_start_48 rfl ?_
        obtain ⟨hg, hm⟩ := gd_some hm
        refine aS_2 (pc := 50) X dX10_start_50 hg ?_
        refine iv_aload_n (pc := 51) X dX10_start_51 rfl ?_
        refine gF_X10_13_0 (pc := 52) X dX10_start_52 ?_
        refine iv_iconst (pc := 55) X dX10_start_55 ic_2 ?_
        refine iv_lload (pc := 56) X dX10_start_56 rfl ?_
        obtain ⟨hg, hm⟩ := gd_some hm
        refine aS_2 (pc := 58) X dX10_start_58 hg ?_
        refine iv_aload_n (pc := 59) X dX10_start_59 rfl ?_
        refine gF_X10_13_0 (pc := 60) X dX10_start_60 ?_
        refine iv_iconst (pc := 63) X dX10_start_63 ic_3 ?_
        refine iv_lload (pc := 64) X dX10_start_64 rfl ?_
        obtain ⟨hg, hm⟩ := gd_some hm
        refine aS_2 (pc := 66) X dX10_start_66 hg ?_
        refine iv_aload_n (pc := 67) X dX10_start_67 rfl ?_
        refine gF_X10_27_0 (pc := 68) X dX10_start_68 ?_
        refine iv_iload_n (pc := 71) X dX10_start_71 rfl ?_
        refine iv_aload_n (pc := 72) X dX10_start_72 rfl ?_
        refine gF_X10_13_0 (pc := 73) X dX10_start_73 ?_
        obtain ⟨⟨r8, S7⟩, hc9, hm⟩ := bd_some hm
        have m2 := mo_use (S := S7) hm (by repeat' first | with_reducible exact Mo_none _ | with_reducible refine Mo_gd ?_ | with_reducible refine Mo_ite ?_ ?_ | with_reducible refine Mo_bind ?_ (fun q => ?_) | with_reducible refine Mo_some ?_ | with_reducible refine Mo_of (f_gr65_m _ _) ?_ | with_reducible refine Mo_of (f_gr66_m _ _) ?_ | with_reducible refine Mo_of (f_gr68_m _ _) ?_ | with_reducible refine Mo_of (f_gr69_m _ _) ?_ | with_reducible refine Mo_of (f_gr70_m _ _) ?_ | with_reducible refine Mo_of (f_gr71_m _ _) ?_ | with_reducible refine Mo_of (f_gr73_m _ _) ?_ | with_reducible refine Mo_of (f_gr74_m _ _) ?_ | with_reducible refine Mo_of (f_X0_clear_m _) ?_ | with_reducible refine Mo_of (f_X0_release_m _ _) ?_ | with_reducible refine Mo_of (f_X2_clear_m _) ?_ | with_reducible refine Mo_of (f_X2_outward_L5_m _ _ _ _ _ _ _) ?_ | with_reducible refine Mo_of (f_X2_outward_m _ _ _ _) ?_ | with_reducible refine Mo_of (f_X3_takesNumbers_L12_m _ _ _ _ _ _) ?_ | with_reducible refine Mo_of (f_X3_takesNumbers_m _ _ _) ?_ | with_reducible refine Mo_of (f_X5_condition_m _) ?_ | with_reducible refine Mo_of (f_X5_slotOf_m _ _ _) ?_ | with_reducible refine Mo_of (f_X5_makeReady_m _ _ _) ?_ | with_reducible refine Mo_of (f_X5_send_m _ _ _ _ _) ?_ | with_reducible refine Mo_of (f_X5_leaveFunction_m _) ?_ | with_reducible refine Mo_of (f_X5_turn_m _ _ _) ?_ | with_reducible refine Mo_of (f_X5_leastError_m _ _ _) ?_ | with_reducible refine Mo_of (f_X5_calculate_m _ _ _ _) ?_ | with_reducible refine Mo_of (f_X8_clear_m _) ?_ | with_reducible refine Mo_of (f_X8_put_m _ _ _ _) ?_ | with_reducible refine Mo_of (f_X8_tableOf_m _ _ _) ?_ | with_reducible refine Mo_of (f_X8_firstCell_m _ _) ?_ | with_reducible refine Mo_of (f_X8_cellsIn_m _ _) ?_ | with_reducible refine Mo_of (f_J9_floorMod_f86c9_m _ _ _) ?_ | with_reducible refine Mo_of (f_J7_rangeCheck_23922_m _ _ _ _) ?_ | with_reducible refine Mo_of (f_J7_fill_bad5a_L10_m _ _ _ _ _ _ _) ?_ | with_reducible refine Mo_of (f_J7_fill_bad5a_m _ _ _ _ _) ?_ | with_reducible refine Mo_of (f_J7_fill_eb02e_L10_m _ _ _ _ _ _ _) ?_ | with_reducible refine Mo_of (f_J7_fill_eb02e_m _ _ _ _ _) ?_ | with_reducible refine Mo_of (f_X5_settle_L15_m _ _ _ _ _ _ _ _) ?_ | with_reducible refine Mo_of (f_X5_settle_m _ _ _ _ _) ?_ | with_reducible refine Mo_of (f_X5_handIn_m _ _ _ _ _) ?_ | with_reducible refine Mo_of (f_X5_cellAt_m _ _ _) ?_ | with_reducible refine Mo_of (f_X5_operate_m _ _ _) ?_ | with_reducible refine Mo_of (f_X5_pickCell_m _ _ _) ?_ | with_reducible refine Mo_of (f_X0_add_m _ _ _) ?_ | with_reducible refine Mo_of (f_X2_add_m _ _ _ _) ?_ | with_reducible refine Mo_of (f_X8_take_m _ _ _) ?_ | with_reducible refine Mo_of (f_X5_openFrame_m _ _ _ _ _) ?_ | with_reducible refine Mo_of (f_X5_enter_L16_m _ _ _ _ _ _ _) ?_ | with_reducible refine Mo_of (f_X5_enter_m _ _ _ _) ?_ | with_reducible refine Mo_of (f_X5_await_m _ _ _ _) ?_ | with_reducible refine Mo_of (f_X5_lookUp_m _ _ _ _) ?_ | with_reducible refine Mo_of (f_X5_beginLoop_L52_m _ _ _ _ _ _ _ _ _) ?_ | with_reducible refine Mo_of (f_X5_beginLoop_m _ _ _ _) ?_ | with_reducible refine Mo_of (f_X5_visit_m _ _ _ _) ?_ | with_reducible refine Mo_of (f_X5_meet_m _ _) ?_ | with_reducible refine Mo_of (f_X5_move_m _ _) ?_ | with_reducible refine Mo_of (f_X5_flow_L2_m _ _ _ _) ?_ | with_reducible refine Mo_of (f_X5_flow_m _ _) ?_ | with_reducible refine Mo_of (f_X5_choose_m _ _ _ _) ?_ | with_reducible refine Mo_of (f_X5_enterFunction_L63_m _ _ _ _ _ _ _ _ _) ?_ | with_reducible refine Mo_of (f_X5_enterFunction_m _ _ _ _) ?_ | with_reducible refine Mo_of (f_X5_endRound_m _ _ _ _) ?_ | with_reducible refine Mo_of (f_X5_makeTable_L114_m _ _ _ _ _ _ _ _ _ _) ?_ | with_reducible refine Mo_of (f_X5_makeTable_m _ _ _ _) ?_ | with_reducible refine Mo_of (f_X5_enterCell_m _ _ _ _) ?_ | with_reducible refine Mo_of (f_X5_happen_m _ _ _) ?_ | with_reducible refine Mo_of (f_X5_begin_L90_m _ _ _ _ _ _ _ _) ?_ | with_reducible refine Mo_of (f_X5_begin_m _ _ _) ?_ | with_reducible refine Mo_of (f_X5_run_L6_m _ _ _ _ _ _ _) ?_ | with_reducible refine Mo_of (f_X5_run_m _ _ _ _) ?_ | with_reducible refine Mo_of (f_X10_start_m _ _ _ _ _ _ _) ?_ | rfl)
        refine cG_X10_82_38_gA (pc := 76) X [.int x1, .ref (mx gA ad ga 2)] [] 2 rfl (f_X5_begin_e l g (mx gA ad ga) fu x1 (uJ (uJ (uJ (uJ S3 2 ((0 : Int32).toNatClampNeg) x2) 2 ((1 : Int32).toNatClampNeg) x4) 2 ((2 : Int32).toNatClampNeg) x6) 2 ((3 : Int32).toNatClampNeg) x8) _ _ hc9) (Nat.le_of_ble_eq_true rfl) (Nat.le_of_ble_eq_true rfl) (Nat.le_of_ble_eq_true rfl) rfl dX10_start_76 (mo_use hc9 (f_X5_begin_m fu x1 (uJ (uJ (uJ (uJ S3 2 ((0 : Int32).toNatClampNeg) x2) 2 ((1 : Int32).toNatClampNeg) x4) 2 ((2 : Int32).toNatClampNeg) x6) 2 ((3 : Int32).toNatClampNeg) x8))) m2 b1 b2 (fun ga bc bs b1 b2 => ?_)
        refine iv_aload_n (pc := 79) X dX10_start_79 rfl ?_
        refine iv_dup (pc := 80) X dX10_start_80 rfl ?_
        refine gF_X10_86_0 (pc := 81) X dX10_start_81 (x := S7.1 0 6) rfl ?_
        refine iv_iconst (pc := 84) X dX10_start_84 ic_1 ?_
        refine iv_iadd (pc := 85) X dX10_start_85 ?_
        refine pF_X10_86_0 (pc := 86) X dX10_start_86 ?_
        refine iv_iconst (pc := 89) X dX10_start_89 ic_1 ?_
        cases hm
        exact is_zretG (pc := 90) X dX10_start_90 rfl
      · rw [if_neg hb6] at hm
        refine iv_iconst (pc := 34) X dX10_start_34 ic_0 ?_
        cases hm
        exact is_zretG (pc := 35) X dX10_start_35 rfl
def f_X10_fire (fu : Nat) (x1 : Int32) (x2 : Int64) (S : im_S) : Option ((String ⊕ Int32) × im_S) := (f_X5_condition S).bind (fun qS1 => if (qS1.1 : Int32) = 1 then (if (x1 : Int32) < 1 then (some (.inl xIAE, qS1.2)) else (if (x1 : Int32) ≤ 2000 then (if (qS1.2.1 0 5 : Int32) < 5000 then ((f_X5_run fu (if (5000 - (qS1.2.1 0 5) : Int32) < x1 then (5000 - (qS1.2.1 0 5)) else x1) x2 qS1.2).bind (fun qS8 => some (.inr (qS8.2.1 38 2), (uI qS8.2 0 5 ((qS8.2.1 0 5) + ((qS8.2.1 38 2) - (qS1.2.1 38 2))))))) else (some (.inl xAE, qS1.2))) else (some (.inl xIAE, qS1.2)))) else (some (.inl xISE, qS1.2)))
theorem f_X10_fire_m (fu : Nat) (x1 : Int32) (x2 : Int64) (S : im_S) : Mo (f_X10_fire fu x1 x2 S) S := by
  unfold f_X10_fire
  repeat' first | with_reducible exact Mo_none _ | with_reducible refine Mo_gd ?_ | with_reducible refine Mo_ite ?_ ?_ | with_reducible refine Mo_bind ?_ (fun q => ?_) | with_reducible refine Mo_some ?_ | with_reducible refine Mo_of (f_gr65_m _ _) ?_ | with_reducible refine Mo_of (f_gr66_m _ _) ?_ | with_reducible refine Mo_of (f_gr68_m _ _) ?_ | with_reducible refine Mo_of (f_gr69_m _ _) ?_ | with_reducible refine Mo_of (f_gr70_m _ _) ?_ | with_reducible refine Mo_of (f_gr71_m _ _) ?_ | with_reducible refine Mo_of (f_gr73_m _ _) ?_ | with_reducible refine Mo_of (f_gr74_m _ _) ?_ | with_reducible refine Mo_of (f_X0_clear_m _) ?_ | with_reducible refine Mo_of (f_X0_release_m _ _) ?_ | with_reducible refine Mo_of (f_X2_clear_m _) ?_ | with_reducible refine Mo_of (f_X2_outward_L5_m _ _ _ _ _ _ _) ?_ | with_reducible refine Mo_of (f_X2_outward_m _ _ _ _) ?_ | with_reducible refine Mo_of (f_X3_takesNumbers_L12_m _ _ _ _ _ _) ?_ | with_reducible refine Mo_of (f_X3_takesNumbers_m _ _ _) ?_ | with_reducible refine Mo_of (f_X5_condition_m _) ?_ | with_reducible refine Mo_of (f_X5_slotOf_m _ _ _) ?_ | with_reducible refine Mo_of (f_X5_makeReady_m _ _ _) ?_ | with_reducible refine Mo_of (f_X5_send_m _ _ _ _ _) ?_ | with_reducible refine Mo_of (f_X5_leaveFunction_m _) ?_ | with_reducible refine Mo_of (f_X5_turn_m _ _ _) ?_ | with_reducible refine Mo_of (f_X5_leastError_m _ _ _) ?_ | with_reducible refine Mo_of (f_X5_calculate_m _ _ _ _) ?_ | with_reducible refine Mo_of (f_X8_clear_m _) ?_ | with_reducible refine Mo_of (f_X8_put_m _ _ _ _) ?_ | with_reducible refine Mo_of (f_X8_tableOf_m _ _ _) ?_ | with_reducible refine Mo_of (f_X8_firstCell_m _ _) ?_ | with_reducible refine Mo_of (f_X8_cellsIn_m _ _) ?_ | with_reducible refine Mo_of (f_J9_floorMod_f86c9_m _ _ _) ?_ | with_reducible refine Mo_of (f_J7_rangeCheck_23922_m _ _ _ _) ?_ | with_reducible refine Mo_of (f_J7_fill_bad5a_L10_m _ _ _ _ _ _ _) ?_ | with_reducible refine Mo_of (f_J7_fill_bad5a_m _ _ _ _ _) ?_ | with_reducible refine Mo_of (f_J7_fill_eb02e_L10_m _ _ _ _ _ _ _) ?_ | with_reducible refine Mo_of (f_J7_fill_eb02e_m _ _ _ _ _) ?_ | with_reducible refine Mo_of (f_X5_settle_L15_m _ _ _ _ _ _ _ _) ?_ | with_reducible refine Mo_of (f_X5_settle_m _ _ _ _ _) ?_ | with_reducible refine Mo_of (f_X5_handIn_m _ _ _ _ _) ?_ | with_reducible refine Mo_of (f_X5_cellAt_m _ _ _) ?_ | with_reducible refine Mo_of (f_X5_operate_m _ _ _) ?_ | with_reducible refine Mo_of (f_X5_pickCell_m _ _ _) ?_ | with_reducible refine Mo_of (f_X0_add_m _ _ _) ?_ | with_reducible refine Mo_of (f_X2_add_m _ _ _ _) ?_ | with_reducible refine Mo_of (f_X8_take_m _ _ _) ?_ | with_reducible refine Mo_of (f_X5_openFrame_m _ _ _ _ _) ?_ | with_reducible refine Mo_of (f_X5_enter_L16_m _ _ _ _ _ _ _) ?_ | with_reducible refine Mo_of (f_X5_enter_m _ _ _ _) ?_ | with_reducible refine Mo_of (f_X5_await_m _ _ _ _) ?_ | with_reducible refine Mo_of (f_X5_lookUp_m _ _ _ _) ?_ | with_reducible refine Mo_of (f_X5_beginLoop_L52_m _ _ _ _ _ _ _ _ _) ?_ | with_reducible refine Mo_of (f_X5_beginLoop_m _ _ _ _) ?_ | with_reducible refine Mo_of (f_X5_visit_m _ _ _ _) ?_ | with_reducible refine Mo_of (f_X5_meet_m _ _) ?_ | with_reducible refine Mo_of (f_X5_move_m _ _) ?_ | with_reducible refine Mo_of (f_X5_flow_L2_m _ _ _ _) ?_ | with_reducible refine Mo_of (f_X5_flow_m _ _) ?_ | with_reducible refine Mo_of (f_X5_choose_m _ _ _ _) ?_ | with_reducible refine Mo_of (f_X5_enterFunction_L63_m _ _ _ _ _ _ _ _ _) ?_ | with_reducible refine Mo_of (f_X5_enterFunction_m _ _ _ _) ?_ | with_reducible refine Mo_of (f_X5_endRound_m _ _ _ _) ?_ | with_reducible refine Mo_of (f_X5_makeTable_L114_m _ _ _ _ _ _ _ _ _ _) ?_ | with_reducible refine Mo_of (f_X5_makeTable_m _ _ _ _) ?_ | with_reducible refine Mo_of (f_X5_enterCell_m _ _ _ _) ?_ | with_reducible refine Mo_of (f_X5_happen_m _ _ _) ?_ | with_reducible refine Mo_of (f_X5_begin_L90_m _ _ _ _ _ _ _ _) ?_ | with_reducible refine Mo_of (f_X5_begin_m _ _ _) ?_ | with_reducible refine Mo_of (f_X5_run_L6_m _ _ _ _ _ _ _) ?_ | with_reducible refine Mo_of (f_X5_run_m _ _ _ _) ?_ | with_reducible refine Mo_of (f_X10_start_m _ _ _ _ _ _ _) ?_ | rfl
set_option maxHeartbeats 4000000 in
set_option maxRecDepth 100000 in
theorem f_X10_fire_x (l : Launch) (g : im_G) (ad : Nat → Nat) (hlT : l.stackTraces = false) (hZ : ∀ V, g.2.2.2 V → im_Zs g V) (fu : Nat) (x1 : Int32) (x2 : Int64) (S : im_S) (o : String ⊕ Int32) (S' : im_S) (hm : f_X10_fire fu x1 x2 S = some (o, S')) : im_EXL l g ad 8 yX10_fire cX10_fire 5 (some Jvm.ClassFile.FieldType.int) [.ref (ad 0), .int x1, .long x2] S (ox_I o) S' := by
  unfold f_X10_fire at hm
  refine is_metXL (own := RX10) (by decide +kernel) rfl (Nat.le_of_ble_eq_true rfl) (fun p e s m below meth c X hnt ga bc bs b1 b2 => ?_)
  refine iv_aload_n (pc := 0) X dX10_fire_0 rfl ?_
  refine gF_X10_27_0 (pc := 1) X dX10_fire_1 ?_
  obtain ⟨⟨r2, S1⟩, hc3, hm⟩ := bd_some hm
  refine cV_X10_89_38 (pc := 4) X [] [] 0 rfl (f_X5_condition_e l g (mx gA ad ga)  S _ _ hc3) (Nat.le_of_ble_eq_true rfl) (Nat.le_of_ble_eq_true rfl) (Nat.le_of_ble_eq_true rfl) rfl dX10_fire_4 ?_
  have b1 := gb_step (mo_use hc3 (f_X5_condition_m  S)) b1
  have b2 := gb_step2 (mo_use hc3 (f_X5_condition_m  S)) b2
  refine iv_iconst (pc := 7) X dX10_fire_7 ic_1 ?_
  refine iv_icmp_eq (pc := 8) X dX10_fire_8 (tgt := 19) rfl (fun hb4 => ?_) (fun hb4 => ?_)
  · rw [if_pos hb4] at hm
    refine iv_iload_n (pc := 19) X dX10_fire_19 rfl ?_
    refine iv_iconst (pc := 20) X dX10_fire_20 ic_1 ?_
    refine iv_icmp_lt (pc := 21) X dX10_fire_21 (tgt := 31) rfl (fun hb5 => ?_) (fun hb5 => ?_)
    · rw [if_pos hb5] at hm
      cases hm
      exact is_thIAEL (pc := 31) X hlT hZ hnt dX10_fire_31 dX10_fire_34 dX10_fire_35 dX10_fire_38 (by decide) (Nat.le_of_ble_eq_true rfl) b1 b2
    · rw [if_neg hb5] at hm
      refine iv_iload_n (pc := 24) X dX10_fire_24 rfl ?_
      refine iv_sipush (pc := 25) X dX10_fire_25 sc_2000 ?_
      refine iv_icmp_le (pc := 28) X dX10_fire_28 (tgt := 39) rfl (fun hb6 => ?_) (fun hb6 => ?_)
      · rw [if_pos hb6] at hm
        refine iv_aload_n (pc := 39) X dX10_fire_39 rfl ?_
        refine gF_X10_96_0 (pc := 40) X dX10_fire_40 (x := S1.1 0 5) rfl ?_
        refine iv_sipush (pc := 43) X dX10_fire_43 sc_5000 ?_
        refine iv_icmp_lt (pc := 46) X dX10_fire_46 (tgt := 57) rfl (fun hb7 => ?_) (fun hb7 => ?_)
        · rw [if_pos hb7] at hm
          refine iv_aload_n (pc := 57) X dX10_fire_57 rfl ?_
          refine gF_X10_27_0 (pc := 58) X dX10_fire_58 ?_
          refine gF_X10_102_38 (pc := 61) X dX10_fire_61 (x := S1.1 38 2) rfl ?_
          refine iv_istore (pc := 64) X dX10_fire_64 (by decide) (lv' := [(4, .int (S1.1 38 2)), (0, .ref (mx gA ad ga 0)), (1, .int x1), (2, .long x2)]) rfl ?_
          refine iv_aload_n (pc := 66) X dX10_fire_66 rfl ?_
          refine gF_X10_27_0 (pc := 67) X dX10_fire_67 ?_
          refine iv_iload_n (pc := 70) X dX10_fire_70 rfl ?_
          refine iv_sipush (pc := 71) X dX10_fire_71 sc_5000 ?_
          refine iv_aload_n (pc := 74) X dX10_fire_74 rfl ?_
          refine gF_X10_96_0 (pc := 75) X dX10_fire_75 (x := S1.1 0 5) rfl ?_
          refine iv_isub (pc := 78) X dX10_fire_78 ?_
          refine iv_mmin (pc := 79) X wm_X10_105 (Nat.le_of_ble_eq_true rfl) (Nat.le_of_ble_eq_true rfl) dX10_fire_79 ?_
          refine iv_lload_n (pc := 82) X dX10_fire_82 rfl ?_
          obtain ⟨⟨r9, S8⟩, hc10, hm⟩ := bd_some hm
          have m2 := mo_use (S := S8) hm (by repeat' first | with_reducible exact Mo_none _ | with_reducible refine Mo_gd ?_ | with_reducible refine Mo_ite ?_ ?_ | with_reducible refine Mo_bind ?_ (fun q => ?_) | with_reducible refine Mo_some ?_ | with_reducible refine Mo_of (f_gr65_m _ _) ?_ | with_reducible refine Mo_of (f_gr66_m _ _) ?_ | with_reducible refine Mo_of (f_gr68_m _ _) ?_ | with_reducible refine Mo_of (f_gr69_m _ _) ?_ | with_reducible refine Mo_of (f_gr70_m _ _) ?_ | with_reducible refine Mo_of (f_gr71_m _ _) ?_ | with_reducible refine Mo_of (f_gr73_m _ _) ?_ | with_reducible refine Mo_of (f_gr74_m _ _) ?_ | with_reducible refine Mo_of (f_X0_clear_m _) ?_ | with_reducible refine Mo_of (f_X0_release_m _ _) ?_ | with_reducible refine Mo_of (f_X2_clear_m _) ?_ | with_reducible refine Mo_of (f_X2_outward_L5_m _ _ _ _ _ _ _) ?_ | with_reducible refine Mo_of (f_X2_outward_m _ _ _ _) ?_ | with_reducible refine Mo_of (f_X3_takesNumbers_L12_m _ _ _ _ _ _) ?_ | with_reducible refine Mo_of (f_X3_takesNumbers_m _ _ _) ?_ | with_reducible refine Mo_of (f_X5_condition_m _) ?_ | with_reducible refine Mo_of (f_X5_slotOf_m _ _ _) ?_ | with_reducible refine Mo_of (f_X5_makeReady_m _ _ _) ?_ | with_reducible refine Mo_of (f_X5_send_m _ _ _ _ _) ?_ | with_reducible refine Mo_of (f_X5_leaveFunction_m _) ?_ | with_reducible refine Mo_of (f_X5_turn_m _ _ _) ?_ | with_reducible refine Mo_of (f_X5_leastError_m _ _ _) ?_ | with_reducible refine Mo_of (f_X5_calculate_m _ _ _ _) ?_ | with_reducible refine Mo_of (f_X8_clear_m _) ?_ | with_reducible refine Mo_of (f_X8_put_m _ _ _ _) ?_ | with_reducible refine Mo_of (f_X8_tableOf_m _ _ _) ?_ | with_reducible refine Mo_of (f_X8_firstCell_m _ _) ?_ | with_reducible refine Mo_of (f_X8_cellsIn_m _ _) ?_ | with_reducible refine Mo_of (f_J9_floorMod_f86c9_m _ _ _) ?_ | with_reducible refine Mo_of (f_J7_rangeCheck_23922_m _ _ _ _) ?_ | with_reducible refine Mo_of (f_J7_fill_bad5a_L10_m _ _ _ _ _ _ _) ?_ | with_reducible refine Mo_of (f_J7_fill_bad5a_m _ _ _ _ _) ?_ | with_reducible refine Mo_of (f_J7_fill_eb02e_L10_m _ _ _ _ _ _ _) ?_ | with_reducible refine Mo_of (f_J7_fill_eb02e_m _ _ _ _ _) ?_ | with_reducible refine Mo_of (f_X5_settle_L15_m _ _ _ _ _ _ _ _) ?_ | with_reducible refine Mo_of (f_X5_settle_m _ _ _ _ _) ?_ | with_reducible refine Mo_of (f_X5_handIn_m _ _ _ _ _) ?_ | with_reducible refine Mo_of (f_X5_cellAt_m _ _ _) ?_ | with_reducible refine Mo_of (f_X5_operate_m _ _ _) ?_ | with_reducible refine Mo_of (f_X5_pickCell_m _ _ _) ?_ | with_reducible refine Mo_of (f_X0_add_m _ _ _) ?_ | with_reducible refine Mo_of (f_X2_add_m _ _ _ _) ?_ | with_reducible refine Mo_of (f_X8_take_m _ _ _) ?_ | with_reducible refine Mo_of (f_X5_openFrame_m _ _ _ _ _) ?_ | with_reducible refine Mo_of (f_X5_enter_L16_m _ _ _ _ _ _ _) ?_ | with_reducible refine Mo_of (f_X5_enter_m _ _ _ _) ?_ | with_reducible refine Mo_of (f_X5_await_m _ _ _ _) ?_ | with_reducible refine Mo_of (f_X5_lookUp_m _ _ _ _) ?_ | with_reducible refine Mo_of (f_X5_beginLoop_L52_m _ _ _ _ _ _ _ _ _) ?_ | with_reducible refine Mo_of (f_X5_beginLoop_m _ _ _ _) ?_ | with_reducible refine Mo_of (f_X5_visit_m _ _ _ _) ?_ | with_reducible refine Mo_of (f_X5_meet_m _ _) ?_ | with_reducible refine Mo_of (f_X5_move_m _ _) ?_ | with_reducible refine Mo_of (f_X5_flow_L2_m _ _ _ _) ?_ | with_reducible refine Mo_of (f_X5_flow_m _ _) ?_ | with_reducible refine Mo_of (f_X5_choose_m _ _ _ _) ?_ | with_reducible refine Mo_of (f_X5_enterFunction_L63_m _ _ _ _ _ _ _ _ _) ?_ | with_reducible refine Mo_of (f_X5_enterFunction_m _ _ _ _) ?_ | with_reducible refine Mo_of (f_X5_endRound_m _ _ _ _) ?_ | with_reducible refine Mo_of (f_X5_makeTable_L114_m _ _ _ _ _ _ _ _ _ _) ?_ | with_reducible refine Mo_of (f_X5_makeTable_m _ _ _ _) ?_ | with_reducible refine Mo_of (f_X5_enterCell_m _ _ _ _) ?_ | with_reducible refine Mo_of (f_X5_happen_m _ _ _) ?_ | with_reducible refine Mo_of (f_X5_begin_L90_m _ _ _ _ _ _ _ _) ?_ | with_reducible refine Mo_of (f_X5_begin_m _ _ _) ?_ | with_reducible refine Mo_of (f_X5_run_L6_m _ _ _ _ _ _ _) ?_ | with_reducible refine Mo_of (f_X5_run_m _ _ _ _) ?_ | with_reducible refine Mo_of (f_X10_start_m _ _ _ _ _ _ _) ?_ | with_reducible refine Mo_of (f_X10_fire_m _ _ _ _) ?_ | rfl)
          refine cG_X10_111_38_gA (pc := 83) X [.int (if (5000 - (S1.1 0 5) : Int32) < x1 then (5000 - (S1.1 0 5)) else x1), .long x2] [] 2 rfl (f_X5_run_e l g (mx gA ad ga) fu (if (5000 - (S1.1 0 5) : Int32) < x1 then (5000 - (S1.1 0 5)) else x1) x2 S1 _ _ hc10) (Nat.le_of_ble_eq_true rfl) (Nat.le_of_ble_eq_true rfl) (Nat.le_of_ble_eq_true rfl) rfl dX10_fire_83 (mo_use hc10 (f_X5_run_m fu (if (5000 - (S1.1 0 5) : Int32) < x1 then (5000 - (S1.1 0 5)) else x1) x2 S1)) m2 b1 b2 (fun ga bc bs b1 b2 => ?_)
          refine iv_aload_n (pc := 86) X dX10_fire_86 rfl ?_
          refine iv_dup (pc := 87) X dX10_fire_87 rfl ?_
          refine gF_X10_96_0 (pc := 88) X dX10_fire_88 (x := S8.1 0 5) rfl ?_
          refine iv_aload_n (pc := 91) X dX10_fire_91 rfl ?_
          refine gF_X10_27_0 (pc := 92) X dX10_fire_92 ?_
          refine gF_X10_102_38 (pc := 95) X dX10_fire_95 (x := S8.1 38 2) rfl ?_
          refine iv_iload (pc := 98) X dX10_fire_98 rfl ?_
          refine iv_isub (pc := 100) X dX10_fire_100 ?_
          refine iv_iadd (pc := 101) X dX10_fire_101 ?_
          refine pF_X10_96_0 (pc := 102) X dX10_fire_102 ?_
          refine iv_aload_n (pc := 105) X dX10_fire_105 rfl ?_
          refine gF_X10_27_0 (pc := 106) X dX10_fire_106 ?_
          refine gF_X10_102_38 (pc := 109) X dX10_fire_109 (x := S8.1 38 2) rfl ?_
          cases hm
          exact is_iretXL (pc := 112) X dX10_fire_112
        · rw [if_neg hb7] at hm
          cases hm
          exact is_thAEL (pc := 49) X hlT hZ hnt dX10_fire_49 dX10_fire_52 dX10_fire_53 dX10_fire_56 (by decide) (Nat.le_of_ble_eq_true rfl) b1 b2
      · rw [if_neg hb6] at hm
        cases hm
        exact is_thIAEL (pc := 31) X hlT hZ hnt dX10_fire_31 dX10_fire_34 dX10_fire_35 dX10_fire_38 (by decide) (Nat.le_of_ble_eq_true rfl) b1 b2
  · rw [if_neg hb4] at hm
    cases hm
    exact is_thISEL (pc := 11) X hlT hZ hnt dX10_fire_11 dX10_fire_14 dX10_fire_15 dX10_fire_18 (by decide) (Nat.le_of_ble_eq_true rfl) b1 b2
def f_X10_valueL (S : im_S) : Option ((String ⊕ Int64) × im_S) := (f_X5_condition S).bind (fun qS1 => if (qS1.1 : Int32) = 2 then (if (qS1.2.1 38 3 : Int32) ≠ 3 then (some (.inr (qS1.2.2.1 38 4), qS1.2)) else ((f_X8_cellsIn (qS1.2.2.1 38 4) qS1.2).bind (fun qS6 => some (.inr qS6.1.toInt64, qS6.2)))) else (some (.inl xNSE, qS1.2)))
theorem f_X10_valueL_m (S : im_S) : Mo (f_X10_valueL  S) S := by
  unfold f_X10_valueL
  repeat' first | with_reducible exact Mo_none _ | with_reducible refine Mo_gd ?_ | with_reducible refine Mo_ite ?_ ?_ | with_reducible refine Mo_bind ?_ (fun q => ?_) | with_reducible refine Mo_some ?_ | with_reducible refine Mo_of (f_gr65_m _ _) ?_ | with_reducible refine Mo_of (f_gr66_m _ _) ?_ | with_reducible refine Mo_of (f_gr68_m _ _) ?_ | with_reducible refine Mo_of (f_gr69_m _ _) ?_ | with_reducible refine Mo_of (f_gr70_m _ _) ?_ | with_reducible refine Mo_of (f_gr71_m _ _) ?_ | with_reducible refine Mo_of (f_gr73_m _ _) ?_ | with_reducible refine Mo_of (f_gr74_m _ _) ?_ | with_reducible refine Mo_of (f_X0_clear_m _) ?_ | with_reducible refine Mo_of (f_X0_release_m _ _) ?_ | with_reducible refine Mo_of (f_X2_clear_m _) ?_ | with_reducible refine Mo_of (f_X2_outward_L5_m _ _ _ _ _ _ _) ?_ | with_reducible refine Mo_of (f_X2_outward_m _ _ _ _) ?_ | with_reducible refine Mo_of (f_X3_takesNumbers_L12_m _ _ _ _ _ _) ?_ | with_reducible refine Mo_of (f_X3_takesNumbers_m _ _ _) ?_ | with_reducible refine Mo_of (f_X5_condition_m _) ?_ | with_reducible refine Mo_of (f_X5_slotOf_m _ _ _) ?_ | with_reducible refine Mo_of (f_X5_makeReady_m _ _ _) ?_ | with_reducible refine Mo_of (f_X5_send_m _ _ _ _ _) ?_ | with_reducible refine Mo_of (f_X5_leaveFunction_m _) ?_ | with_reducible refine Mo_of (f_X5_turn_m _ _ _) ?_ | with_reducible refine Mo_of (f_X5_leastError_m _ _ _) ?_ | with_reducible refine Mo_of (f_X5_calculate_m _ _ _ _) ?_ | with_reducible refine Mo_of (f_X8_clear_m _) ?_ | with_reducible refine Mo_of (f_X8_put_m _ _ _ _) ?_ | with_reducible refine Mo_of (f_X8_tableOf_m _ _ _) ?_ | with_reducible refine Mo_of (f_X8_firstCell_m _ _) ?_ | with_reducible refine Mo_of (f_X8_cellsIn_m _ _) ?_ | with_reducible refine Mo_of (f_J9_floorMod_f86c9_m _ _ _) ?_ | with_reducible refine Mo_of (f_J7_rangeCheck_23922_m _ _ _ _) ?_ | with_reducible refine Mo_of (f_J7_fill_bad5a_L10_m _ _ _ _ _ _ _) ?_ | with_reducible refine Mo_of (f_J7_fill_bad5a_m _ _ _ _ _) ?_ | with_reducible refine Mo_of (f_J7_fill_eb02e_L10_m _ _ _ _ _ _ _) ?_ | with_reducible refine Mo_of (f_J7_fill_eb02e_m _ _ _ _ _) ?_ | with_reducible refine Mo_of (f_X5_settle_L15_m _ _ _ _ _ _ _ _) ?_ | with_reducible refine Mo_of (f_X5_settle_m _ _ _ _ _) ?_ | with_reducible refine Mo_of (f_X5_handIn_m _ _ _ _ _) ?_ | with_reducible refine Mo_of (f_X5_cellAt_m _ _ _) ?_ | with_reducible refine Mo_of (f_X5_operate_m _ _ _) ?_ | with_reducible refine Mo_of (f_X5_pickCell_m _ _ _) ?_ | with_reducible refine Mo_of (f_X0_add_m _ _ _) ?_ | with_reducible refine Mo_of (f_X2_add_m _ _ _ _) ?_ | with_reducible refine Mo_of (f_X8_take_m _ _ _) ?_ | with_reducible refine Mo_of (f_X5_openFrame_m _ _ _ _ _) ?_ | with_reducible refine Mo_of (f_X5_enter_L16_m _ _ _ _ _ _ _) ?_ | with_reducible refine Mo_of (f_X5_enter_m _ _ _ _) ?_ | with_reducible refine Mo_of (f_X5_await_m _ _ _ _) ?_ | with_reducible refine Mo_of (f_X5_lookUp_m _ _ _ _) ?_ | with_reducible refine Mo_of (f_X5_beginLoop_L52_m _ _ _ _ _ _ _ _ _) ?_ | with_reducible refine Mo_of (f_X5_beginLoop_m _ _ _ _) ?_ | with_reducible refine Mo_of (f_X5_visit_m _ _ _ _) ?_ | with_reducible refine Mo_of (f_X5_meet_m _ _) ?_ | with_reducible refine Mo_of (f_X5_move_m _ _) ?_ | with_reducible refine Mo_of (f_X5_flow_L2_m _ _ _ _) ?_ | with_reducible refine Mo_of (f_X5_flow_m _ _) ?_ | with_reducible refine Mo_of (f_X5_choose_m _ _ _ _) ?_ | with_reducible refine Mo_of (f_X5_enterFunction_L63_m _ _ _ _ _ _ _ _ _) ?_ | with_reducible refine Mo_of (f_X5_enterFunction_m _ _ _ _) ?_ | with_reducible refine Mo_of (f_X5_endRound_m _ _ _ _) ?_ | with_reducible refine Mo_of (f_X5_makeTable_L114_m _ _ _ _ _ _ _ _ _ _) ?_ | with_reducible refine Mo_of (f_X5_makeTable_m _ _ _ _) ?_ | with_reducible refine Mo_of (f_X5_enterCell_m _ _ _ _) ?_ | with_reducible refine Mo_of (f_X5_happen_m _ _ _) ?_ | with_reducible refine Mo_of (f_X5_begin_L90_m _ _ _ _ _ _ _ _) ?_ | with_reducible refine Mo_of (f_X5_begin_m _ _ _) ?_ | with_reducible refine Mo_of (f_X5_run_L6_m _ _ _ _ _ _ _) ?_ | with_reducible refine Mo_of (f_X5_run_m _ _ _ _) ?_ | with_reducible refine Mo_of (f_X10_start_m _ _ _ _ _ _ _) ?_ | with_reducible refine Mo_of (f_X10_fire_m _ _ _ _) ?_ | rfl
set_option maxHeartbeats 4000000 in
set_option maxRecDepth 100000 in
theorem f_X10_valueL_x (l : Launch) (g : im_G) (ad : Nat → Nat) (hlT : l.stackTraces = false) (hZ : ∀ V, g.2.2.2 V → im_Zs g V) (S : im_S) (o : String ⊕ Int64) (S' : im_S) (hm : f_X10_valueL  S = some (o, S')) : im_EXL l g ad 6 yX10_value cX10_value 1 (some Jvm.ClassFile.FieldType.long) [.ref (ad 0)] S (ox_J o) S' := by
  unfold f_X10_valueL at hm
  refine is_metXL (own := RX10) (by decide +kernel) rfl (Nat.le_of_ble_eq_true rfl) (fun p e s m below meth c X hnt ga bc bs b1 b2 => ?_)
  refine iv_aload_n (pc := 0) X dX10_value_0 rfl ?_
  refine gF_X10_27_0 (pc := 1) X dX10_value_1 ?_
  obtain ⟨⟨r2, S1⟩, hc3, hm⟩ := bd_some hm
  refine cV_X10_89_38 (pc := 4) X [] [] 0 rfl (f_X5_condition_e l g (mx gA ad ga)  S _ _ hc3) (Nat.le_of_ble_eq_true rfl) (Nat.le_of_ble_eq_true rfl) (Nat.le_of_ble_eq_true rfl) rfl dX10_value_4 ?_
  have b1 := gb_step (mo_use hc3 (f_X5_condition_m  S)) b1
  have b2 := gb_step2 (mo_use hc3 (f_X5_condition_m  S)) b2
  refine iv_iconst (pc := 7) X dX10_value_7 ic_2 ?_
  refine iv_icmp_eq (pc := 8) X dX10_value_8 (tgt := 19) rfl (fun hb4 => ?_) (fun hb4 => ?_)
  · rw [if_pos hb4] at hm
    refine iv_aload_n (pc := 19) X dX10_value_19 rfl ?_
    refine gF_X10_27_0 (pc := 20) X dX10_value_20 ?_
    refine gF_X10_115_38 (pc := 23) X dX10_value_23 (x := S1.1 38 3) rfl ?_
    refine iv_iconst (pc := 26) X dX10_value_26 ic_3 ?_
    refine iv_icmp_ne (pc := 27) X dX10_value_27 (tgt := 44) rfl (fun hb5 => ?_) (fun hb5 => ?_)
    · rw [if_pos hb5] at hm
      refine iv_aload_n (pc := 44) X dX10_value_44 rfl ?_
      refine gF_X10_27_0 (pc := 45) X dX10_value_45 ?_
      refine gF_X10_121_38 (pc := 48) X dX10_value_48 (x := S1.2.1 38 4) rfl ?_
      cases hm
      exact is_lretXL (pc := 51) X dX10_value_51
    · rw [if_neg hb5] at hm
      refine iv_aload_n (pc := 30) X dX10_value_30 rfl ?_
      refine gF_X10_27_0 (pc := 31) X dX10_value_31 ?_
      refine gF_X10_121_38 (pc := 34) X dX10_value_34 (x := S1.2.1 38 4) rfl ?_
      obtain ⟨⟨r7, S6⟩, hc8, hm⟩ := bd_some hm
      refine cS_X10_125 (pc := 37) X [.long (S1.2.1 38 4)] [] 1 rfl (f_X8_cellsIn_e l g (mx gA ad ga) (S1.2.1 38 4) S1 _ _ hc8) (Nat.le_of_ble_eq_true rfl) (Nat.le_of_ble_eq_true rfl) (Nat.le_of_ble_eq_true rfl) rfl dX10_value_37 ?_
      have b1 := gb_step (mo_use hc8 (f_X8_cellsIn_m (S1.2.1 38 4) S1)) b1
      have b2 := gb_step2 (mo_use hc8 (f_X8_cellsIn_m (S1.2.1 38 4) S1)) b2
      refine iv_i2l (pc := 40) X dX10_value_40 rfl ?_
      refine iv_goto (pc := 41) X dX10_value_41 (tgt := 51) rfl ?_
      cases hm
      exact is_lretXL (pc := 51) X dX10_value_51
  · rw [if_neg hb4] at hm
    cases hm
    exact is_thNSEL (pc := 11) X hlT hZ hnt dX10_value_11 dX10_value_14 dX10_value_15 dX10_value_18 (by decide) (Nat.le_of_ble_eq_true rfl) b1 b2
def f_X10_cellL (x1 : Int32) (x2 : Int32) (S : im_S) : Option ((String ⊕ Int64) × im_S) := (f_X5_condition S).bind (fun qS1 => if (qS1.1 : Int32) ≠ 2 then (some (.inl xNSE, qS1.2)) else (if (qS1.2.1 38 3 : Int32) ≠ 3 then (some (.inl xNSE, qS1.2)) else (if (x1 : Int32) < 0 then (some (.inl xNSE, qS1.2)) else ((f_X8_cellsIn (qS1.2.2.1 38 4) qS1.2).bind (fun qS10 => if (qS10.1 : Int32) ≤ x1 then (some (.inl xNSE, qS10.2)) else (if (x2 : Int32) < 0 then (some (.inl xNSE, qS10.2)) else (if (x2 : Int32) ≤ 1 then ((f_X8_firstCell (qS10.2.2.1 38 4) qS10.2).bind (fun qS16 => gd (in_b (qS16.1 + x1) (qS16.2.2.2 65)) (if (x2 : Int32) ≠ 0 then (if ((qS16.2.1 65) ((qS16.1 + x1).toNatClampNeg) : Int32) ≠ 0 then (gd (in_b (qS16.1 + x1) (qS16.2.2.2 66)) (some (.inr ((qS16.2.2.1 66) ((qS16.1 + x1).toNatClampNeg)), qS16.2))) else (some (.inr 0, qS16.2))) else (some (.inr (((qS16.2.1 65) ((qS16.1 + x1).toNatClampNeg)).toInt64), qS16.2))))) else (some (.inl xNSE, qS10.2)))))))))
theorem f_X10_cellL_m (x1 : Int32) (x2 : Int32) (S : im_S) : Mo (f_X10_cellL x1 x2 S) S := by
  unfold f_X10_cellL
  repeat' first | with_reducible exact Mo_none _ | with_reducible refine Mo_gd ?_ | with_reducible refine Mo_ite ?_ ?_ | with_reducible refine Mo_bind ?_ (fun q => ?_) | with_reducible refine Mo_some ?_ | with_reducible refine Mo_of (f_gr65_m _ _) ?_ | with_reducible refine Mo_of (f_gr66_m _ _) ?_ | with_reducible refine Mo_of (f_gr68_m _ _) ?_ | with_reducible refine Mo_of (f_gr69_m _ _) ?_ | with_reducible refine Mo_of (f_gr70_m _ _) ?_ | with_reducible refine Mo_of (f_gr71_m _ _) ?_ | with_reducible refine Mo_of (f_gr73_m _ _) ?_ | with_reducible refine Mo_of (f_gr74_m _ _) ?_ | with_reducible refine Mo_of (f_X0_clear_m _) ?_ | with_reducible refine Mo_of (f_X0_release_m _ _) ?_ | with_reducible refine Mo_of (f_X2_clear_m _) ?_ | with_reducible refine Mo_of (f_X2_outward_L5_m _ _ _ _ _ _ _) ?_ | with_reducible refine Mo_of (f_X2_outward_m _ _ _ _) ?_ | with_reducible refine Mo_of (f_X3_takesNumbers_L12_m _ _ _ _ _ _) ?_ | with_reducible refine Mo_of (f_X3_takesNumbers_m _ _ _) ?_ | with_reducible refine Mo_of (f_X5_condition_m _) ?_ | with_reducible refine Mo_of (f_X5_slotOf_m _ _ _) ?_ | with_reducible refine Mo_of (f_X5_makeReady_m _ _ _) ?_ | with_reducible refine Mo_of (f_X5_send_m _ _ _ _ _) ?_ | with_reducible refine Mo_of (f_X5_leaveFunction_m _) ?_ | with_reducible refine Mo_of (f_X5_turn_m _ _ _) ?_ | with_reducible refine Mo_of (f_X5_leastError_m _ _ _) ?_ | with_reducible refine Mo_of (f_X5_calculate_m _ _ _ _) ?_ | with_reducible refine Mo_of (f_X8_clear_m _) ?_ | with_reducible refine Mo_of (f_X8_put_m _ _ _ _) ?_ | with_reducible refine Mo_of (f_X8_tableOf_m _ _ _) ?_ | with_reducible refine Mo_of (f_X8_firstCell_m _ _) ?_ | with_reducible refine Mo_of (f_X8_cellsIn_m _ _) ?_ | with_reducible refine Mo_of (f_J9_floorMod_f86c9_m _ _ _) ?_ | with_reducible refine Mo_of (f_J7_rangeCheck_23922_m _ _ _ _) ?_ | with_reducible refine Mo_of (f_J7_fill_bad5a_L10_m _ _ _ _ _ _ _) ?_ | with_reducible refine Mo_of (f_J7_fill_bad5a_m _ _ _ _ _) ?_ | with_reducible refine Mo_of (f_J7_fill_eb02e_L10_m _ _ _ _ _ _ _) ?_ | with_reducible refine Mo_of (f_J7_fill_eb02e_m _ _ _ _ _) ?_ | with_reducible refine Mo_of (f_X5_settle_L15_m _ _ _ _ _ _ _ _) ?_ | with_reducible refine Mo_of (f_X5_settle_m _ _ _ _ _) ?_ | with_reducible refine Mo_of (f_X5_handIn_m _ _ _ _ _) ?_ | with_reducible refine Mo_of (f_X5_cellAt_m _ _ _) ?_ | with_reducible refine Mo_of (f_X5_operate_m _ _ _) ?_ | with_reducible refine Mo_of (f_X5_pickCell_m _ _ _) ?_ | with_reducible refine Mo_of (f_X0_add_m _ _ _) ?_ | with_reducible refine Mo_of (f_X2_add_m _ _ _ _) ?_ | with_reducible refine Mo_of (f_X8_take_m _ _ _) ?_ | with_reducible refine Mo_of (f_X5_openFrame_m _ _ _ _ _) ?_ | with_reducible refine Mo_of (f_X5_enter_L16_m _ _ _ _ _ _ _) ?_ | with_reducible refine Mo_of (f_X5_enter_m _ _ _ _) ?_ | with_reducible refine Mo_of (f_X5_await_m _ _ _ _) ?_ | with_reducible refine Mo_of (f_X5_lookUp_m _ _ _ _) ?_ | with_reducible refine Mo_of (f_X5_beginLoop_L52_m _ _ _ _ _ _ _ _ _) ?_ | with_reducible refine Mo_of (f_X5_beginLoop_m _ _ _ _) ?_ | with_reducible refine Mo_of (f_X5_visit_m _ _ _ _) ?_ | with_reducible refine Mo_of (f_X5_meet_m _ _) ?_ | with_reducible refine Mo_of (f_X5_move_m _ _) ?_ | with_reducible refine Mo_of (f_X5_flow_L2_m _ _ _ _) ?_ | with_reducible refine Mo_of (f_X5_flow_m _ _) ?_ | with_reducible refine Mo_of (f_X5_choose_m _ _ _ _) ?_ | with_reducible refine Mo_of (f_X5_enterFunction_L63_m _ _ _ _ _ _ _ _ _) ?_ | with_reducible refine Mo_of (f_X5_enterFunction_m _ _ _ _) ?_ | with_reducible refine Mo_of (f_X5_endRound_m _ _ _ _) ?_ | with_reducible refine Mo_of (f_X5_makeTable_L114_m _ _ _ _ _ _ _ _ _ _) ?_ | with_reducible refine Mo_of (f_X5_makeTable_m _ _ _ _) ?_ | with_reducible refine Mo_of (f_X5_enterCell_m _ _ _ _) ?_ | with_reducible refine Mo_of (f_X5_happen_m _ _ _) ?_ | with_reducible refine Mo_of (f_X5_begin_L90_m _ _ _ _ _ _ _ _) ?_ | with_reducible refine Mo_of (f_X5_begin_m _ _ _) ?_ | with_reducible refine Mo_of (f_X5_run_L6_m _ _ _ _ _ _ _) ?_ | with_reducible refine Mo_of (f_X5_run_m _ _ _ _) ?_ | with_reducible refine Mo_of (f_X10_start_m _ _ _ _ _ _ _) ?_ | with_reducible refine Mo_of (f_X10_fire_m _ _ _ _) ?_ | with_reducible refine Mo_of (f_X10_valueL_m _) ?_ | rfl
set_option maxHeartbeats 4000000 in
set_option maxRecDepth 100000 in
theorem f_X10_cellL_x (l : Launch) (g : im_G) (ad : Nat → Nat) (hlT : l.stackTraces = false) (hZ : ∀ V, g.2.2.2 V → im_Zs g V) (x1 : Int32) (x2 : Int32) (S : im_S) (o : String ⊕ Int64) (S' : im_S) (hm : f_X10_cellL x1 x2 S = some (o, S')) : im_EXL l g ad 6 yX10_cell cX10_cell 6 (some Jvm.ClassFile.FieldType.long) [.ref (ad 0), .int x1, .int x2] S (ox_J o) S' := by
  unfold f_X10_cellL at hm
  refine is_metXL (own := RX10) (by decide +kernel) rfl (Nat.le_of_ble_eq_true rfl) (fun p e s m below meth c X hnt ga bc bs b1 b2 => ?_)
  refine iv_aload_n (pc := 0) X dX10_cell_0 rfl ?_
  refine gF_X10_27_0 (pc := 1) X dX10_cell_1 ?_
  obtain ⟨⟨r2, S1⟩, hc3, hm⟩ := bd_some hm
  refine cV_X10_89_38 (pc := 4) X [] [] 0 rfl (f_X5_condition_e l g (mx gA ad ga)  S _ _ hc3) (Nat.le_of_ble_eq_true rfl) (Nat.le_of_ble_eq_true rfl) (Nat.le_of_ble_eq_true rfl) rfl dX10_cell_4 ?_
  have b1 := gb_step (mo_use hc3 (f_X5_condition_m  S)) b1
  have b2 := gb_step2 (mo_use hc3 (f_X5_condition_m  S)) b2
  refine iv_iconst (pc := 7) X dX10_cell_7 ic_2 ?_
  refine iv_icmp_ne (pc := 8) X dX10_cell_8 (tgt := 26) rfl (fun hb4 => ?_) (fun hb4 => ?_)
  · rw [if_pos hb4] at hm
    refine iv_iconst (pc := 26) X dX10_cell_26 ic_0 ?_
    refine iv_istore_n (pc := 27) X dX10_cell_27 (by decide) (lv' := [(3, .int 0), (0, .ref (mx gA ad ga 0)), (1, .int x1), (2, .int x2)]) rfl ?_
    refine iv_iload_n (pc := 28) X dX10_cell_28 rfl ?_
    refine iv_if_eq (pc := 29) X dX10_cell_29 (tgt := 59) rfl (fun _ => ?_) (fun hb => absurd (by decide) hb)
    cases hm
    exact is_thNSEL (pc := 59) X hlT hZ hnt dX10_cell_59 dX10_cell_62 dX10_cell_63 dX10_cell_66 (by decide) (Nat.le_of_ble_eq_true rfl) b1 b2
  · rw [if_neg hb4] at hm
    refine iv_aload_n (pc := 11) X dX10_cell_11 rfl ?_
    refine gF_X10_27_0 (pc := 12) X dX10_cell_12 ?_
    refine gF_X10_115_38 (pc := 15) X dX10_cell_15 (x := S1.1 38 3) rfl ?_
    refine iv_iconst (pc := 18) X dX10_cell_18 ic_3 ?_
    refine iv_icmp_ne (pc := 19) X dX10_cell_19 (tgt := 26) rfl (fun hb6 => ?_) (fun hb6 => ?_)
    · rw [if_pos hb6] at hm
      refine iv_iconst (pc := 26) X dX10_cell_26 ic_0 ?_
      refine iv_istore_n (pc := 27) X dX10_cell_27 (by decide) (lv' := [(3, .int 0), (0, .ref (mx gA ad ga 0)), (1, .int x1), (2, .int x2)]) rfl ?_
      refine iv_iload_n (pc := 28) X dX10_cell_28 rfl ?_
      refine iv_if_eq (pc := 29) X dX10_cell_29 (tgt := 59) rfl (fun _ => ?_) (fun hb => absurd (by decide) hb)
      cases hm
      exact is_thNSEL (pc := 59) X hlT hZ hnt dX10_cell_59 dX10_cell_62 dX10_cell_63 dX10_cell_66 (by decide) (Nat.le_of_ble_eq_true rfl) b1 b2
    · rw [if_neg hb6] at hm
      refine iv_iconst (pc := 22) X dX10_cell_22 ic_1 ?_
      refine iv_goto (pc := 23) X dX10_cell_23 (tgt := 27) rfl ?_
      refine iv_istore_n (pc := 27) X dX10_cell_27 (by decide) (lv' := [(3, .int 1), (0, .ref (mx gA ad ga 0)), (1, .int x1), (2, .int x2)]) rfl ?_
      refine iv_iload_n (pc := 28) X dX10_cell_28 rfl ?_
      refine iv_if_eq (pc := 29) X dX10_cell_29 (tgt := 59) rfl (fun hb => absurd hb (by decide)) (fun _ => ?_)
      refine iv_iload_n (pc := 32) X dX10_cell_32 rfl ?_
      refine iv_if_lt (pc := 33) X dX10_cell_33 (tgt := 59) rfl (fun hb9 => ?_) (fun hb9 => ?_)
      · rw [if_pos hb9] at hm
        cases hm
        exact is_thNSEL (pc := 59) X hlT hZ hnt dX10_cell_59 dX10_cell_62 dX10_cell_63 dX10_cell_66 (by decide) (Nat.le_of_ble_eq_true rfl) b1 b2
      · rw [if_neg hb9] at hm
        refine iv_iload_n (pc := 36) X dX10_cell_36 rfl ?_
        refine iv_aload_n (pc := 37) X dX10_cell_37 rfl ?_
        refine gF_X10_27_0 (pc := 38) X dX10_cell_38 ?_
        refine gF_X10_121_38 (pc := 41) X dX10_cell_41 (x := S1.2.1 38 4) rfl ?_
        obtain ⟨⟨r11, S10⟩, hc12, hm⟩ := bd_some hm
        refine cS_X10_125 (pc := 44) X [.long (S1.2.1 38 4)] [.int x1] 1 rfl (f_X8_cellsIn_e l g (mx gA ad ga) (S1.2.1 38 4) S1 _ _ hc12) (Nat.le_of_ble_eq_true rfl) (Nat.le_of_ble_eq_true rfl) (Nat.le_of_ble_eq_true rfl) rfl dX10_cell_44 ?_
        have b1 := gb_step (mo_use hc12 (f_X8_cellsIn_m (S1.2.1 38 4) S1)) b1
        have b2 := gb_step2 (mo_use hc12 (f_X8_cellsIn_m (S1.2.1 38 4) S1)) b2
        refine iv_icmp_ge (pc := 47) X dX10_cell_47 (tgt := 59) rfl (fun hb13 => ?_) (fun hb13 => ?_)
        · rw [if_pos hb13] at hm
          cases hm
          exact is_thNSEL (pc := 59) X hlT hZ hnt dX10_cell_59 dX10_cell_62 dX10_cell_63 dX10_cell_66 (by decide) (Nat.le_of_ble_eq_true rfl) b1 b2
        · rw [if_neg hb13] at hm
          refine iv_iload_n (pc := 50) X dX10_cell_50 rfl ?_
          refine iv_if_lt (pc := 51) X dX10_cell_51 (tgt := 59) rfl (fun hb14 => ?_) (fun hb14 => ?_)
          · rw [if_pos hb14] at hm
            cases hm
            exact is_thNSEL (pc := 59) X hlT hZ hnt dX10_cell_59 dX10_cell_62 dX10_cell_63 dX10_cell_66 (by decide) (Nat.le_of_ble_eq_true rfl) b1 b2
          · rw [if_neg hb14] at hm
            refine iv_iload_n (pc := 54) X dX10_cell_54 rfl ?_
            refine iv_iconst (pc := 55) X dX10_cell_55 ic_1 ?_
            refine iv_icmp_le (pc := 56) X dX10_cell_56 (tgt := 67) rfl (fun hb15 => ?_) (fun hb15 => ?_)
            · rw [if_pos hb15] at hm
              refine iv_aload_n (pc := 67) X dX10_cell_67 rfl ?_
              refine gF_X10_27_0 (pc := 68) X dX10_cell_68 ?_
              refine gF_X10_121_38 (pc := 71) X dX10_cell_71 (x := S10.2.1 38 4) rfl ?_
              obtain ⟨⟨r17, S16⟩, hc18, hm⟩ := bd_some hm
              refine cS_X10_131 (pc := 74) X [.long (S10.2.1 38 4)] [] 1 rfl (f_X8_firstCell_e l g (mx gA ad ga) (S10.2.1 38 4) S10 _ _ hc18) (Nat.le_of_ble_eq_true rfl) (Nat.le_of_ble_eq_true rfl) (Nat.le_of_ble_eq_true rfl) rfl dX10_cell_74 ?_
              have b1 := gb_step (mo_use hc18 (f_X8_firstCell_m (S10.2.1 38 4) S10)) b1
              have b2 := gb_step2 (mo_use hc18 (f_X8_firstCell_m (S10.2.1 38 4) S10)) b2
              refine iv_iload_n (pc := 77) X dX10_cell_77 rfl ?_
              refine iv_iadd (pc := 78) X dX10_cell_78 ?_
              refine iv_istore (pc := 79) X dX10_cell_79 (by decide) (lv' := [(4, .int (r17 + x1)), (3, .int 1), (0, .ref (mx gA ad ga 0)), (1, .int x1), (2, .int x2)]) rfl ?_
              refine iv_aload_n (pc := 81) X dX10_cell_81 rfl ?_
              refine gF_X10_27_0 (pc := 82) X dX10_cell_82 ?_
              refine gF_X10_134_38 (pc := 85) X dX10_cell_85 ?_
              refine gF_X10_138_64 (pc := 88) X dX10_cell_88 ?_
              refine iv_iload (pc := 91) X dX10_cell_91 rfl ?_
              obtain ⟨hg, hm⟩ := gd_some hm
              refine aL_65 (pc := 93) X dX10_cell_93 hg (x := (S16.1 65) ((r17 + x1).toNatClampNeg)) rfl ?_
              refine iv_istore (pc := 94) X dX10_cell_94 (by decide) (lv' := [(5, .int ((S16.1 65) ((r17 + x1).toNatClampNeg))), (4, .int (r17 + x1)), (3, .int 1), (0, .ref (mx gA ad ga 0)), (1, .int x1), (2, .int x2)]) rfl ?_
              refine iv_iload_n (pc := 96) X dX10_cell_96 rfl ?_
              refine iv_if_ne (pc := 97) X dX10_cell_97 (tgt := 104) rfl (fun hb19 => ?_) (fun hb19 => ?_)
              · rw [if_pos hb19] at hm
                refine iv_iload (pc := 104) X dX10_cell_104 rfl ?_
                refine iv_if_ne (pc := 106) X dX10_cell_106 (tgt := 113) rfl (fun hb20 => ?_) (fun hb20 => ?_)
                · rw [if_pos hb20] at hm
                  refine iv_aload_n (pc := 113) X dX10_cell_113 rfl ?_
                  refine gF_X10_27_0 (pc := 114) X dX10_cell_114 ?_
                  refine gF_X10_134_38 (pc := 117) X dX10_cell_117 ?_
                  refine gF_X10_141_64 (pc := 120) X dX10_cell_120 ?_
                  refine iv_iload (pc := 123) X dX10_cell_123 rfl ?_
                  obtain ⟨hg, hm⟩ := gd_some hm
                  refine aL_66 (pc := 125) X dX10_cell_125 hg (x := (S16.2.1 66) ((r17 + x1).toNatClampNeg)) rfl ?_
                  cases hm
                  exact is_lretXL (pc := 126) X dX10_cell_126
                · rw [if_neg hb20] at hm
                  refine iv_lconst (pc := 109) X dX10_cell_109 lc_0 ?_
                  refine iv_goto (pc := 110) X dX10_cell_110 (tgt := 126) rfl ?_
                  cases hm
                  exact is_lretXL (pc := 126) X dX10_cell_126
              · rw [if_neg hb19] at hm
                refine iv_iload (pc := 100) X dX10_cell_100 rfl ?_
                refine iv_i2l (pc := 102) X dX10_cell_102 rfl ?_
                cases hm
                exact is_lretXL (pc := 103) X dX10_cell_103
            · rw [if_neg hb15] at hm
              cases hm
              exact is_thNSEL (pc := 59) X hlT hZ hnt dX10_cell_59 dX10_cell_62 dX10_cell_63 dX10_cell_66 (by decide) (Nat.le_of_ble_eq_true rfl) b1 b2
