/-! written by program (wip/whole/walk.py): what grows -/
def f_X0_add (x1 : Int32) (x2 : Int32) (S : im_S) : Option (Int32 × im_S) := if (S.1 72 3 : Int32) = 0 then (if ((S.1 72 2) + 1 : Int32) ≤ (Int32.ofNat (S.2.2 73)) then (gd (in_b (S.1 72 2) (S.2.2 73)) (gd (in_b (S.1 72 2) (S.2.2 74)) (some (S.1 72 2, (uI (uI (uI S 72 2 ((S.1 72 2) + 1)) 73 ((S.1 72 2).toNatClampNeg) x1) 74 ((S.1 72 2).toNatClampNeg) x2))))) else ((f_gr73 (2 * (Int32.ofNat (S.2.2 73))) (uI S 72 2 ((S.1 72 2) + 1))).bind (fun qS3 => (f_gr74 (2 * (Int32.ofNat (qS3.2.2.2 74))) qS3.2).bind (fun qS6 => gd (in_b (S.1 72 2) (qS6.2.2.2 73)) (gd (in_b (S.1 72 2) (qS6.2.2.2 74)) (some (S.1 72 2, (uI (uI qS6.2 73 ((S.1 72 2).toNatClampNeg) x1) 74 ((S.1 72 2).toNatClampNeg) x2)))))))) else (gd (in_b (S.1 72 3) (S.2.2 74)) (gd (in_b (S.1 72 3) (S.2.2 73)) (gd (in_b (S.1 72 3) (S.2.2 74)) (some (S.1 72 3, (uI (uI (uI S 72 3 ((S.1 74) ((S.1 72 3).toNatClampNeg))) 73 ((S.1 72 3).toNatClampNeg) x1) 74 ((S.1 72 3).toNatClampNeg) x2))))))
theorem f_X0_add_m (x1 : Int32) (x2 : Int32) (S : im_S) : Mo (f_X0_add x1 x2 S) S := by
  unfold f_X0_add
  repeat' first | with_reducible exact Mo_none _ | with_reducible refine Mo_gd ?_ | with_reducible refine Mo_ite ?_ ?_ | with_reducible refine Mo_bind ?_ (fun q => ?_) | with_reducible refine Mo_some ?_ | with_reducible refine Mo_of (f_gr65_m _ _) ?_ | with_reducible refine Mo_of (f_gr66_m _ _) ?_ | with_reducible refine Mo_of (f_gr68_m _ _) ?_ | with_reducible refine Mo_of (f_gr69_m _ _) ?_ | with_reducible refine Mo_of (f_gr70_m _ _) ?_ | with_reducible refine Mo_of (f_gr71_m _ _) ?_ | with_reducible refine Mo_of (f_gr73_m _ _) ?_ | with_reducible refine Mo_of (f_gr74_m _ _) ?_ | with_reducible refine Mo_of (f_X0_clear_m _) ?_ | with_reducible refine Mo_of (f_X0_release_m _ _) ?_ | with_reducible refine Mo_of (f_X2_clear_m _) ?_ | with_reducible refine Mo_of (f_X2_outward_L5_m _ _ _ _ _ _ _) ?_ | with_reducible refine Mo_of (f_X2_outward_m _ _ _ _) ?_ | with_reducible refine Mo_of (f_X3_takesNumbers_L12_m _ _ _ _ _ _) ?_ | with_reducible refine Mo_of (f_X3_takesNumbers_m _ _ _) ?_ | with_reducible refine Mo_of (f_X5_condition_m _) ?_ | with_reducible refine Mo_of (f_X5_slotOf_m _ _ _) ?_ | with_reducible refine Mo_of (f_X5_makeReady_m _ _ _) ?_ | with_reducible refine Mo_of (f_X5_send_m _ _ _ _ _) ?_ | with_reducible refine Mo_of (f_X5_leaveFunction_m _) ?_ | with_reducible refine Mo_of (f_X5_turn_m _ _ _) ?_ | with_reducible refine Mo_of (f_X5_leastError_m _ _ _) ?_ | with_reducible refine Mo_of (f_X5_calculate_m _ _ _ _) ?_ | with_reducible refine Mo_of (f_X8_clear_m _) ?_ | with_reducible refine Mo_of (f_X8_put_m _ _ _ _) ?_ | with_reducible refine Mo_of (f_X8_tableOf_m _ _ _) ?_ | with_reducible refine Mo_of (f_X8_firstCell_m _ _) ?_ | with_reducible refine Mo_of (f_X8_cellsIn_m _ _) ?_ | with_reducible refine Mo_of (f_J9_floorMod_f86c9_m _ _ _) ?_ | with_reducible refine Mo_of (f_J7_rangeCheck_23922_m _ _ _ _) ?_ | with_reducible refine Mo_of (f_J7_fill_bad5a_L10_m _ _ _ _ _ _ _) ?_ | with_reducible refine Mo_of (f_J7_fill_bad5a_m _ _ _ _ _) ?_ | with_reducible refine Mo_of (f_J7_fill_eb02e_L10_m _ _ _ _ _ _ _) ?_ | with_reducible refine Mo_of (f_J7_fill_eb02e_m _ _ _ _ _) ?_ | with_reducible refine Mo_of (f_X5_settle_L15_m _ _ _ _ _ _ _ _) ?_ | with_reducible refine Mo_of (f_X5_settle_m _ _ _ _ _) ?_ | with_reducible refine Mo_of (f_X5_handIn_m _ _ _ _ _) ?_ | with_reducible refine Mo_of (f_X5_cellAt_m _ _ _) ?_ | with_reducible refine Mo_of (f_X5_operate_m _ _ _) ?_ | with_reducible refine Mo_of (f_X5_pickCell_m _ _ _) ?_ | rfl
set_option maxHeartbeats 4000000 in
set_option maxRecDepth 100000 in
theorem f_X0_add_e (l : Launch) (g : im_G) (ad : Nat → Nat) (x1 : Int32) (x2 : Int32) (S : im_S) (r : Int32) (S' : im_S) (hm : f_X0_add x1 x2 S = some (r, S')) : im_EG gC l g ad 2 yX0_add cX0_add 4 (some Jvm.ClassFile.FieldType.int) [.ref (ad 72), .int x1, .int x2] S (some (.int r)) S' := by
  unfold f_X0_add at hm
  refine is_metG (own := RX0) (by decide +kernel) rfl (Nat.le_of_ble_eq_true rfl) (fun p e s m below meth c X ga bc bs b1 b2 => ?_)
  refine iv_aload_n (pc := 0) X dX0_add_0 rfl ?_
  refine gF_X0_20_72 (pc := 1) X dX0_add_1 (x := S.1 72 3) rfl ?_
  refine iv_istore_n (pc := 4) X dX0_add_4 (by decide) (lv' := [(3, .int (S.1 72 3)), (0, .ref (mx gC ad ga 72)), (1, .int x1), (2, .int x2)]) rfl ?_
  refine iv_iload_n (pc := 5) X dX0_add_5 rfl ?_
  refine iv_if_eq (pc := 6) X dX0_add_6 (tgt := 22) rfl (fun hb1 => ?_) (fun hb1 => ?_)
  · rw [if_pos hb1] at hm
    refine iv_aload_n (pc := 22) X dX0_add_22 rfl ?_
    refine gF_X0_16_72 (pc := 23) X dX0_add_23 (x := S.1 72 2) rfl ?_
    refine iv_istore_n (pc := 26) X dX0_add_26 (by decide) (lv' := [(3, .int (S.1 72 2)), (0, .ref (mx gC ad ga 72)), (1, .int x1), (2, .int x2)]) rfl ?_
    refine iv_aload_n (pc := 27) X dX0_add_27 rfl ?_
    refine iv_dup (pc := 28) X dX0_add_28 rfl ?_
    refine gF_X0_16_72 (pc := 29) X dX0_add_29 (x := S.1 72 2) rfl ?_
    refine iv_iconst (pc := 32) X dX0_add_32 ic_1 ?_
    refine iv_iadd (pc := 33) X dX0_add_33 ?_
    refine pF_X0_16_72 (pc := 34) X dX0_add_34 ?_
    refine iv_aload_n (pc := 37) X dX0_add_37 rfl ?_
    refine gF_X0_16_72 (pc := 38) X dX0_add_38 (x := (S.1 72 2) + 1) rfl ?_
    refine iv_aload_n (pc := 41) X dX0_add_41 rfl ?_
    refine gF_X0_7_72 (pc := 42) X dX0_add_42 ?_
    refine iv_alen (pc := 45) X 1 (by decide) (v := Int32.ofNat (S.2.2 73)) dX0_add_45 73 (by decide) rfl rfl ?_
    refine iv_icmp_le (pc := 46) X dX0_add_46 (tgt := 85) rfl (fun hb2 => ?_) (fun hb2 => ?_)
    · rw [if_pos hb2] at hm
      refine iv_aload_n (pc := 85) X dX0_add_85 rfl ?_
      refine gF_X0_7_72 (pc := 86) X dX0_add_86 ?_
      refine iv_iload_n (pc := 89) X dX0_add_89 rfl ?_
      refine iv_iload_n (pc := 90) X dX0_add_90 rfl ?_
      obtain ⟨hg, hm⟩ := gd_some hm
      refine aS_73 (pc := 91) X dX0_add_91 hg ?_
      refine iv_aload_n (pc := 92) X dX0_add_92 rfl ?_
      refine gF_X0_13_72 (pc := 93) X dX0_add_93 ?_
      refine iv_iload_n (pc := 96) X dX0_add_96 rfl ?_
      refine iv_iload_n (pc := 97) X dX0_add_97 rfl ?_
      obtain ⟨hg, hm⟩ := gd_some hm
      refine aS_74 (pc := 98) X dX0_add_98 hg ?_
      refine iv_iload_n (pc := 99) X dX0_add_99 rfl ?_
      cases hm
      exact is_iretG (pc := 100) X dX0_add_100
    · rw [if_neg hb2] at hm
      refine iv_aload_n (pc := 49) X dX0_add_49 rfl ?_
      refine iv_aload_n (pc := 50) X dX0_add_50 rfl ?_
      refine gF_X0_7_72 (pc := 51) X dX0_add_51 ?_
      refine iv_iconst (pc := 54) X dX0_add_54 ic_2 ?_
      refine iv_aload_n (pc := 55) X dX0_add_55 rfl ?_
      refine gF_X0_7_72 (pc := 56) X dX0_add_56 ?_
      refine iv_alen (pc := 59) X 1 (by decide) (v := Int32.ofNat (S.2.2 73)) dX0_add_59 73 (by decide) rfl rfl ?_
      refine iv_imul (pc := 60) X dX0_add_60 ?_
      obtain ⟨⟨r5, S3⟩, hc4, hm⟩ := bd_some hm
      have m2 := mo_use (S := S3) hm (by repeat' first | with_reducible exact Mo_none _ | with_reducible refine Mo_gd ?_ | with_reducible refine Mo_ite ?_ ?_ | with_reducible refine Mo_bind ?_ (fun q => ?_) | with_reducible refine Mo_some ?_ | with_reducible refine Mo_of (f_gr65_m _ _) ?_ | with_reducible refine Mo_of (f_gr66_m _ _) ?_ | with_reducible refine Mo_of (f_gr68_m _ _) ?_ | with_reducible refine Mo_of (f_gr69_m _ _) ?_ | with_reducible refine Mo_of (f_gr70_m _ _) ?_ | with_reducible refine Mo_of (f_gr71_m _ _) ?_ | with_reducible refine Mo_of (f_gr73_m _ _) ?_ | with_reducible refine Mo_of (f_gr74_m _ _) ?_ | with_reducible refine Mo_of (f_X0_clear_m _) ?_ | with_reducible refine Mo_of (f_X0_release_m _ _) ?_ | with_reducible refine Mo_of (f_X2_clear_m _) ?_ | with_reducible refine Mo_of (f_X2_outward_L5_m _ _ _ _ _ _ _) ?_ | with_reducible refine Mo_of (f_X2_outward_m _ _ _ _) ?_ | with_reducible refine Mo_of (f_X3_takesNumbers_L12_m _ _ _ _ _ _) ?_ | with_reducible refine Mo_of (f_X3_takesNumbers_m _ _ _) ?_ | with_reducible refine Mo_of (f_X5_condition_m _) ?_ | with_reducible refine Mo_of (f_X5_slotOf_m _ _ _) ?_ | with_reducible refine Mo_of (f_X5_makeReady_m _ _ _) ?_ | with_reducible refine Mo_of (f_X5_send_m _ _ _ _ _) ?_ | with_reducible refine Mo_of (f_X5_leaveFunction_m _) ?_ | with_reducible refine Mo_of (f_X5_turn_m _ _ _) ?_ | with_reducible refine Mo_of (f_X5_leastError_m _ _ _) ?_ | with_reducible refine Mo_of (f_X5_calculate_m _ _ _ _) ?_ | with_reducible refine Mo_of (f_X8_clear_m _) ?_ | with_reducible refine Mo_of (f_X8_put_m _ _ _ _) ?_ | with_reducible refine Mo_of (f_X8_tableOf_m _ _ _) ?_ | with_reducible refine Mo_of (f_X8_firstCell_m _ _) ?_ | with_reducible refine Mo_of (f_X8_cellsIn_m _ _) ?_ | with_reducible refine Mo_of (f_J9_floorMod_f86c9_m _ _ _) ?_ | with_reducible refine Mo_of (f_J7_rangeCheck_23922_m _ _ _ _) ?_ | with_reducible refine Mo_of (f_J7_fill_bad5a_L10_m _ _ _ _ _ _ _) ?_ | with_reducible refine Mo_of (f_J7_fill_bad5a_m _ _ _ _ _) ?_ | with_reducible refine Mo_of (f_J7_fill_eb02e_L10_m _ _ _ _ _ _ _) ?_ | with_reducible refine Mo_of (f_J7_fill_eb02e_m _ _ _ _ _) ?_ | with_reducible refine Mo_of (f_X5_settle_L15_m _ _ _ _ _ _ _ _) ?_ | with_reducible refine Mo_of (f_X5_settle_m _ _ _ _ _) ?_ | with_reducible refine Mo_of (f_X5_handIn_m _ _ _ _ _) ?_ | with_reducible refine Mo_of (f_X5_cellAt_m _ _ _) ?_ | with_reducible refine Mo_of (f_X5_operate_m _ _ _) ?_ | with_reducible refine Mo_of (f_X5_pickCell_m _ _ _) ?_ | with_reducible refine Mo_of (f_X0_add_m _ _ _) ?_ | rfl)
      refine gR_X0_23_73_gC (pc := 61) X dX0_add_61 dX0_add_64 (Nat.le_of_ble_eq_true rfl) (Nat.le_of_ble_eq_true rfl) hc4 m2 b1 b2 (fun ga bc bs b1 b2 => ?_)
      refine iv_aload_n (pc := 67) X dX0_add_67 rfl ?_
      refine iv_aload_n (pc := 68) X dX0_add_68 rfl ?_
      refine gF_X0_13_72 (pc := 69) X dX0_add_69 ?_
      refine iv_iconst (pc := 72) X dX0_add_72 ic_2 ?_
      refine iv_aload_n (pc := 73) X dX0_add_73 rfl ?_
      refine gF_X0_13_72 (pc := 74) X dX0_add_74 ?_
      refine iv_alen (pc := 77) X 1 (by decide) (v := Int32.ofNat (S3.2.2 74)) dX0_add_77 74 (by decide) rfl rfl ?_
      refine iv_imul (pc := 78) X dX0_add_78 ?_
      obtain ⟨⟨r8, S6⟩, hc7, hm⟩ := bd_some hm
      have m2 := mo_use (S := S6) hm (by repeat' first | with_reducible exact Mo_none _ | with_reducible refine Mo_gd ?_ | with_reducible refine Mo_ite ?_ ?_ | with_reducible refine Mo_bind ?_ (fun q => ?_) | with_reducible refine Mo_some ?_ | with_reducible refine Mo_of (f_gr65_m _ _) ?_ | with_reducible refine Mo_of (f_gr66_m _ _) ?_ | with_reducible refine Mo_of (f_gr68_m _ _) ?_ | with_reducible refine Mo_of (f_gr69_m _ _) ?_ | with_reducible refine Mo_of (f_gr70_m _ _) ?_ | with_reducible refine Mo_of (f_gr71_m _ _) ?_ | with_reducible refine Mo_of (f_gr73_m _ _) ?_ | with_reducible refine Mo_of (f_gr74_m _ _) ?_ | with_reducible refine Mo_of (f_X0_clear_m _) ?_ | with_reducible refine Mo_of (f_X0_release_m _ _) ?_ | with_reducible refine Mo_of (f_X2_clear_m _) ?_ | with_reducible refine Mo_of (f_X2_outward_L5_m _ _ _ _ _ _ _) ?_ | with_reducible refine Mo_of (f_X2_outward_m _ _ _ _) ?_ | with_reducible refine Mo_of (f_X3_takesNumbers_L12_m _ _ _ _ _ _) ?_ | with_reducible refine Mo_of (f_X3_takesNumbers_m _ _ _) ?_ | with_reducible refine Mo_of (f_X5_condition_m _) ?_ | with_reducible refine Mo_of (f_X5_slotOf_m _ _ _) ?_ | with_reducible refine Mo_of (f_X5_makeReady_m _ _ _) ?_ | with_reducible refine Mo_of (f_X5_send_m _ _ _ _ _) ?_ | with_reducible refine Mo_of (f_X5_leaveFunction_m _) ?_ | with_reducible refine Mo_of (f_X5_turn_m _ _ _) ?_ | with_reducible refine Mo_of (f_X5_leastError_m _ _ _) ?_ | with_reducible refine Mo_of (f_X5_calculate_m _ _ _ _) ?_ | with_reducible refine Mo_of (f_X8_clear_m _) ?_ | with_reducible refine Mo_of (f_X8_put_m _ _ _ _) ?_ | with_reducible refine Mo_of (f_X8_tableOf_m _ _ _) ?_ | with_reducible refine Mo_of (f_X8_firstCell_m _ _) ?_ | with_reducible refine Mo_of (f_X8_cellsIn_m _ _) ?_ | with_reducible refine Mo_of (f_J9_floorMod_f86c9_m _ _ _) ?_ | with_reducible refine Mo_of (f_J7_rangeCheck_23922_m _ _ _ _) ?_ | with_reducible refine Mo_of (f_J7_fill_bad5a_L10_m _ _ _ _ _ _ _) ?_ | with_reducible refine Mo_of (f_J7_fill_bad5a_m _ _ _ _ _) ?_ | with_reducible refine Mo_of (f_J7_fill_eb02e_L10_m _ _ _ _ _ _ _) ?_ | with_reducible refine Mo_of (f_J7_fill_eb02e_m _ _ _ _ _) ?_ | with_reducible refine Mo_of (f_X5_settle_L15_m _ _ _ _ _ _ _ _) ?_ | with_reducible refine Mo_of (f_X5_settle_m _ _ _ _ _) ?_ | with_reducible refine Mo_of (f_X5_handIn_m _ _ _ _ _) ?_ | with_reducible refine Mo_of (f_X5_cellAt_m _ _ _) ?_ | with_reducible refine Mo_of (f_X5_operate_m _ _ _) ?_ | with_reducible refine Mo_of (f_X5_pickCell_m _ _ _) ?_ | with_reducible refine Mo_of (f_X0_add_m _ _ _) ?_ | rfl)
      refine gR_X0_23_74_gC (pc := 79) X dX0_add_79 dX0_add_82 (Nat.le_of_ble_eq_true rfl) (Nat.le_of_ble_eq_true rfl) hc7 m2 b1 b2 (fun ga bc bs b1 b2 => ?_)
      refine iv_aload_n (pc := 85) X dX0_add_85 rfl ?_
      refine gF_X0_7_72 (pc := 86) X dX0_add_86 ?_
      refine iv_iload_n (pc := 89) X dX0_add_89 rfl ?_
      refine iv_iload_n (pc := 90) X dX0_add_90 rfl ?_
      obtain ⟨hg, hm⟩ := gd_some hm
      refine aS_73 (pc := 91) X dX0_add_91 hg ?_
      refine iv_aload_n (pc := 92) X dX0_add_92 rfl ?_
      refine gF_X0_13_72 (pc := 93) X dX0_add_93 ?_
      refine iv_iload_n (pc := 96) X dX0_add_96 rfl ?_
      refine iv_iload_n (pc := 97) X dX0_add_97 rfl ?_
      obtain ⟨hg, hm⟩ := gd_some hm
      refine aS_74 (pc := 98) X dX0_add_98 hg ?_
      refine iv_iload_n (pc := 99) X dX0_add_99 rfl ?_
      cases hm
      exact is_iretG (pc := 100) X dX0_add_100
  · rw [if_neg hb1] at hm
    refine iv_aload_n (pc := 9) X dX0_add_9 rfl ?_
    refine iv_aload_n (pc := 10) X dX0_add_10 rfl ?_
    refine gF_X0_13_72 (pc := 11) X dX0_add_11 ?_
    refine iv_iload_n (pc := 14) X dX0_add_14 rfl ?_
    obtain ⟨hg, hm⟩ := gd_some hm
    refine aL_74 (pc := 15) X dX0_add_15 hg (x := (S.1 74) ((S.1 72 3).toNatClampNeg)) rfl ?_
    refine pF_X0_20_72 (pc := 16) X dX0_add_16 ?_
    refine iv_goto (pc := 19) X dX0_add_19 (tgt := 85) rfl ?_
    refine iv_aload_n (pc := 85) X dX0_add_85 rfl ?_
    refine gF_X0_7_72 (pc := 86) X dX0_add_86 ?_
    refine iv_iload_n (pc := 89) X dX0_add_89 rfl ?_
    refine iv_iload_n (pc := 90) X dX0_add_90 rfl ?_
    obtain ⟨hg, hm⟩ := gd_some hm
    refine aS_73 (pc := 91) X dX0_add_91 hg ?_
    refine iv_aload_n (pc := 92) X dX0_add_92 rfl ?_
    refine gF_X0_13_72 (pc := 93) X dX0_add_93 ?_
    refine iv_iload_n (pc := 96) X dX0_add_96 rfl ?_
    refine iv_iload_n (pc := 97) X dX0_add_97 rfl ?_
    obtain ⟨hg, hm⟩ := gd_some hm
    refine aS_74 (pc := 98) X dX0_add_98 hg ?_
    refine iv_iload_n (pc := 99) X dX0_add_99 rfl ?_
    cases hm
    exact is_iretG (pc := 100) X dX0_add_100
def f_X2_add (x1 : Int32) (x2 : Int32) (x3 : Int32) (S : im_S) : Option (Int32 × im_S) := if (S.1 67 4 : Int32) ≠ (Int32.ofNat (S.2.2 68)) then (gd (in_b (S.1 67 4) (S.2.2 68)) (gd (in_b (S.1 67 4) (S.2.2 69)) (gd (in_b (S.1 67 4) (S.2.2 70)) (gd (in_b (S.1 67 4) (S.2.2 71)) (some (((S.1 67 4) + 1) - 1, (uI (uI (uI (uI (uI S 68 ((S.1 67 4).toNatClampNeg) x1) 69 ((S.1 67 4).toNatClampNeg) x2) 70 ((S.1 67 4).toNatClampNeg) x3) 71 ((S.1 67 4).toNatClampNeg) 0) 67 4 ((S.1 67 4) + 1)))))))) else ((f_gr68 (2 * (S.1 67 4)) S).bind (fun qS2 => (f_gr69 (2 * (qS2.2.1 67 4)) qS2.2).bind (fun qS5 => (f_gr70 (2 * (qS5.2.1 67 4)) qS5.2).bind (fun qS8 => (f_gr71 (2 * (qS8.2.1 67 4)) qS8.2).bind (fun qS11 => gd (in_b (qS11.2.1 67 4) (qS11.2.2.2 68)) (gd (in_b (qS11.2.1 67 4) (qS11.2.2.2 69)) (gd (in_b (qS11.2.1 67 4) (qS11.2.2.2 70)) (gd (in_b (qS11.2.1 67 4) (qS11.2.2.2 71)) (some (((qS11.2.1 67 4) + 1) - 1, (uI (uI (uI (uI (uI qS11.2 68 ((qS11.2.1 67 4).toNatClampNeg) x1) 69 ((qS11.2.1 67 4).toNatClampNeg) x2) 70 ((qS11.2.1 67 4).toNatClampNeg) x3) 71 ((qS11.2.1 67 4).toNatClampNeg) 0) 67 4 ((qS11.2.1 67 4) + 1))))))))))))
theorem f_X2_add_m (x1 : Int32) (x2 : Int32) (x3 : Int32) (S : im_S) : Mo (f_X2_add x1 x2 x3 S) S := by
  unfold f_X2_add
  repeat' first | with_reducible exact Mo_none _ | with_reducible refine Mo_gd ?_ | with_reducible refine Mo_ite ?_ ?_ | with_reducible refine Mo_bind ?_ (fun q => ?_) | with_reducible refine Mo_some ?_ | with_reducible refine Mo_of (f_gr65_m _ _) ?_ | with_reducible refine Mo_of (f_gr66_m _ _) ?_ | with_reducible refine Mo_of (f_gr68_m _ _) ?_ | with_reducible refine Mo_of (f_gr69_m _ _) ?_ | with_reducible refine Mo_of (f_gr70_m _ _) ?_ | with_reducible refine Mo_of (f_gr71_m _ _) ?_ | with_reducible refine Mo_of (f_gr73_m _ _) ?_ | with_reducible refine Mo_of (f_gr74_m _ _) ?_ | with_reducible refine Mo_of (f_X0_clear_m _) ?_ | with_reducible refine Mo_of (f_X0_release_m _ _) ?_ | with_reducible refine Mo_of (f_X2_clear_m _) ?_ | with_reducible refine Mo_of (f_X2_outward_L5_m _ _ _ _ _ _ _) ?_ | with_reducible refine Mo_of (f_X2_outward_m _ _ _ _) ?_ | with_reducible refine Mo_of (f_X3_takesNumbers_L12_m _ _ _ _ _ _) ?_ | with_reducible refine Mo_of (f_X3_takesNumbers_m _ _ _) ?_ | with_reducible refine Mo_of (f_X5_condition_m _) ?_ | with_reducible refine Mo_of (f_X5_slotOf_m _ _ _) ?_ | with_reducible refine Mo_of (f_X5_makeReady_m _ _ _) ?_ | with_reducible refine Mo_of (f_X5_send_m _ _ _ _ _) ?_ | with_reducible refine Mo_of (f_X5_leaveFunction_m _) ?_ | with_reducible refine Mo_of (f_X5_turn_m _ _ _) ?_ | with_reducible refine Mo_of (f_X5_leastError_m _ _ _) ?_ | with_reducible refine Mo_of (f_X5_calculate_m _ _ _ _) ?_ | with_reducible refine Mo_of (f_X8_clear_m _) ?_ | with_reducible refine Mo_of (f_X8_put_m _ _ _ _) ?_ | with_reducible refine Mo_of (f_X8_tableOf_m _ _ _) ?_ | with_reducible refine Mo_of (f_X8_firstCell_m _ _) ?_ | with_reducible refine Mo_of (f_X8_cellsIn_m _ _) ?_ | with_reducible refine Mo_of (f_J9_floorMod_f86c9_m _ _ _) ?_ | with_reducible refine Mo_of (f_J7_rangeCheck_23922_m _ _ _ _) ?_ | with_reducible refine Mo_of (f_J7_fill_bad5a_L10_m _ _ _ _ _ _ _) ?_ | with_reducible refine Mo_of (f_J7_fill_bad5a_m _ _ _ _ _) ?_ | with_reducible refine Mo_of (f_J7_fill_eb02e_L10_m _ _ _ _ _ _ _) ?_ | with_reducible refine Mo_of (f_J7_fill_eb02e_m _ _ _ _ _) ?_ | with_reducible refine Mo_of (f_X5_settle_L15_m _ _ _ _ _ _ _ _) ?_ | with_reducible refine Mo_of (f_X5_settle_m _ _ _ _ _) ?_ | with_reducible refine Mo_of (f_X5_handIn_m _ _ _ _ _) ?_ | with_reducible refine Mo_of (f_X5_cellAt_m _ _ _) ?_ | with_reducible refine Mo_of (f_X5_operate_m _ _ _) ?_ | with_reducible refine Mo_of (f_X5_pickCell_m _ _ _) ?_ | with_reducible refine Mo_of (f_X0_add_m _ _ _) ?_ | rfl
set_option maxHeartbeats 4000000 in
set_option maxRecDepth 100000 in
theorem f_X2_add_e (l : Launch) (g : im_G) (ad : Nat → Nat) (x1 : Int32) (x2 : Int32) (x3 : Int32) (S : im_S) (r : Int32) (S' : im_S) (hm : f_X2_add x1 x2 x3 S = some (r, S')) : im_EG gA l g ad 2 yX2_add cX2_add 4 (some Jvm.ClassFile.FieldType.int) [.ref (ad 67), .int x1, .int x2, .int x3] S (some (.int r)) S' := by
  unfold f_X2_add at hm
  refine is_metG (own := RX2) (by decide +kernel) rfl (Nat.le_of_ble_eq_true rfl) (fun p e s m below meth c X ga bc bs b1 b2 => ?_)
  refine iv_aload_n (pc := 0) X dX2_add_0 rfl ?_
  refine gF_X2_22_67 (pc := 1) X dX2_add_1 (x := S.1 67 4) rfl ?_
  refine iv_aload_n (pc := 4) X dX2_add_4 rfl ?_
  refine gF_X2_7_67 (pc := 5) X dX2_add_5 ?_
  refine iv_alen (pc := 8) X 1 (by decide) (v := Int32.ofNat (S.2.2 68)) dX2_add_8 68 (by decide) rfl rfl ?_
  refine iv_icmp_ne (pc := 9) X dX2_add_9 (tgt := 80) rfl (fun hb1 => ?_) (fun hb1 => ?_)
  · rw [if_pos hb1] at hm
    refine iv_aload_n (pc := 80) X dX2_add_80 rfl ?_
    refine gF_X2_7_67 (pc := 81) X dX2_add_81 ?_
    refine iv_aload_n (pc := 84) X dX2_add_84 rfl ?_
    refine gF_X2_22_67 (pc := 85) X dX2_add_85 (x := S.1 67 4) rfl ?_
    refine iv_iload_n (pc := 88) X dX2_add_88 rfl ?_
    obtain ⟨hg, hm⟩ := gd_some hm
    refine aS_68 (pc := 89) X dX2_add_89 hg ?_
    refine iv_aload_n (pc := 90) X dX2_add_90 rfl ?_
    refine gF_X2_13_67 (pc := 91) X dX2_add_91 ?_
    refine iv_aload_n (pc := 94) X dX2_add_94 rfl ?_
    refine gF_X2_22_67 (pc := 95) X dX2_add_95 (x := S.1 67 4) rfl ?_
    refine iv_iload_n (pc := 98) X dX2_add_98 rfl ?_
    obtain ⟨hg, hm⟩ := gd_some hm
    refine aS_69 (pc := 99) X dX2_add_99 hg ?_
    refine iv_aload_n (pc := 100) X dX2_add_100 rfl ?_
    refine gF_X2_16_67 (pc := 101) X dX2_add_101 ?_
    refine iv_aload_n (pc := 104) X dX2_add_104 rfl ?_
    refine gF_X2_22_67 (pc := 105) X dX2_add_105 (x := S.1 67 4) rfl ?_
    refine iv_iload_n (pc := 108) X dX2_add_108 rfl ?_
    obtain ⟨hg, hm⟩ := gd_some hm
    refine aS_70 (pc := 109) X dX2_add_109 hg ?_
    refine iv_aload_n (pc := 110) X dX2_add_110 rfl ?_
    refine gF_X2_19_67 (pc := 111) X dX2_add_111 ?_
    refine iv_aload_n (pc := 114) X dX2_add_114 rfl ?_
    refine gF_X2_22_67 (pc := 115) X dX2_add_115 (x := S.1 67 4) rfl ?_
    refine iv_iconst (pc := 118) X dX2_add_118 ic_0 ?_
    obtain ⟨hg, hm⟩ := gd_some hm
    refine aS_71 (pc := 119) X dX2_add_119 hg ?_
    refine iv_aload_n (pc := 120) X dX2_add_120 rfl ?_
    refine iv_dup (pc := 121) X dX2_add_121 rfl ?_
    refine gF_X2_22_67 (pc := 122) X dX2_add_122 (x := S.1 67 4) rfl ?_
    refine iv_iconst (pc := 125) X dX2_add_125 ic_1 ?_
    refine iv_iadd (pc := 126) X dX2_add_126 ?_
    refine pF_X2_22_67 (pc := 127) X dX2_add_127 ?_
    refine iv_aload_n (pc := 130) X dX2_add_130 rfl ?_
    refine gF_X2_22_67 (pc := 131) X dX2_add_131 (x := (S.1 67 4) + 1) rfl ?_
    refine iv_iconst (pc := 134) X dX2_add_134 ic_1 ?_
    refine iv_isub (pc := 135) X dX2_add_135 ?_
    cases hm
    exact is_iretG (pc := 136) X dX2_add_136
  · rw [if_neg hb1] at hm
    refine iv_aload_n (pc := 12) X dX2_add_12 rfl ?_
    refine iv_aload_n (pc := 13) X dX2_add_13 rfl ?_
    refine gF_X2_7_67 (pc := 14) X dX2_add_14 ?_
    refine iv_iconst (pc := 17) X dX2_add_17 ic_2 ?_
    refine iv_aload_n (pc := 18) X dX2_add_18 rfl ?_
    refine gF_X2_22_67 (pc := 19) X dX2_add_19 (x := S.1 67 4) rfl ?_
    refine iv_imul (pc := 22) X dX2_add_22 ?_
    obtain ⟨⟨r4, S2⟩, hc3, hm⟩ := bd_some hm
    have m2 := mo_use (S := S2) hm (by repeat' first | with_reducible exact Mo_none _ | with_reducible refine Mo_gd ?_ | with_reducible refine Mo_ite ?_ ?_ | with_reducible refine Mo_bind ?_ (fun q => ?_) | with_reducible refine Mo_some ?_ | with_reducible refine Mo_of (f_gr65_m _ _) ?_ | with_reducible refine Mo_of (f_gr66_m _ _) ?_ | with_reducible refine Mo_of (f_gr68_m _ _) ?_ | with_reducible refine Mo_of (f_gr69_m _ _) ?_ | with_reducible refine Mo_of (f_gr70_m _ _) ?_ | with_reducible refine Mo_of (f_gr71_m _ _) ?_ | with_reducible refine Mo_of (f_gr73_m _ _) ?_ | with_reducible refine Mo_of (f_gr74_m _ _) ?_ | with_reducible refine Mo_of (f_X0_clear_m _) ?_ | with_reducible refine Mo_of (f_X0_release_m _ _) ?_ | with_reducible refine Mo_of (f_X2_clear_m _) ?_ | with_reducible refine Mo_of (f_X2_outward_L5_m _ _ _ _ _ _ _) ?_ | with_reducible refine Mo_of (f_X2_outward_m _ _ _ _) ?_ | with_reducible refine Mo_of (f_X3_takesNumbers_L12_m _ _ _ _ _ _) ?_ | with_reducible refine Mo_of (f_X3_takesNumbers_m _ _ _) ?_ | with_reducible refine Mo_of (f_X5_condition_m _) ?_ | with_reducible refine Mo_of (f_X5_slotOf_m _ _ _) ?_ | with_reducible refine Mo_of (f_X5_makeReady_m _ _ _) ?_ | with_reducible refine Mo_of (f_X5_send_m _ _ _ _ _) ?_ | with_reducible refine Mo_of (f_X5_leaveFunction_m _) ?_ | with_reducible refine Mo_of (f_X5_turn_m _ _ _) ?_ | with_reducible refine Mo_of (f_X5_leastError_m _ _ _) ?_ | with_reducible refine Mo_of (f_X5_calculate_m _ _ _ _) ?_ | with_reducible refine Mo_of (f_X8_clear_m _) ?_ | with_reducible refine Mo_of (f_X8_put_m _ _ _ _) ?_ | with_reducible refine Mo_of (f_X8_tableOf_m _ _ _) ?_ | with_reducible refine Mo_of (f_X8_firstCell_m _ _) ?_ | with_reducible refine Mo_of (f_X8_cellsIn_m _ _) ?_ | with_reducible refine Mo_of (f_J9_floorMod_f86c9_m _ _ _) ?_ | with_reducible refine Mo_of (f_J7_rangeCheck_23922_m _ _ _ _) ?_ | with_reducible refine Mo_of (f_J7_fill_bad5a_L10_m _ _ _ _ _ _ _) ?_ | with_reducible refine Mo_of (f_J7_fill_bad5a_m _ _ _ _ _) ?_ | with_reducible refine Mo_of (f_J7_fill_eb02e_L10_m _ _ _ _ _ _ _) ?_ | with_reducible refine Mo_of (f_J7_fill_eb02e_m _ _ _ _ _) ?_ | with_reducible refine Mo_of (f_X5_settle_L15_m _ _ _ _ _ _ _ _) ?_ | with_reducible refine Mo_of (f_X5_settle_m _ _ _ _ _) ?_ | with_reducible refine Mo_of (f_X5_handIn_m _ _ _ _ _) ?_ | with_reducible refine Mo_of (f_X5_cellAt_m _ _ _) ?_ | with_reducible refine Mo_of (f_X5_operate_m _ _ _) ?_ | with_reducible refine Mo_of (f_X5_pickCell_m _ _ _) ?_ | with_reducible refine Mo_of (f_X0_add_m _ _ _) ?_ | with_reducible refine Mo_of (f_X2_add_m _ _ _ _) ?_ | rfl)
    refine gR_X2_26_68_gA (pc := 23) X dX2_add_23 dX2_add_26 (Nat.le_of_ble_eq_true rfl) (Nat.le_of_ble_eq_true rfl) hc3 m2 b1 b2 (fun ga bc bs b1 b2 => ?_)
    refine iv_aload_n (pc := 29) X dX2_add_29 rfl ?_
    refine iv_aload_n (pc := 30) X dX2_add_30 rfl ?_
    refine gF_X2_13_67 (pc := 31) X dX2_add_31 ?_
    refine iv_iconst (pc := 34) X dX2_add_34 ic_2 ?_
    refine iv_aload_n (pc := 35) X dX2_add_35 rfl ?_
    refine gF_X2_22_67 (pc := 36) X dX2_add_36 (x := S2.1 67 4) rfl ?_
    refine iv_imul (pc := 39) X dX2_add_39 ?_
    obtain ⟨⟨r7, S5⟩, hc6, hm⟩ := bd_some hm
    have m2 := mo_use (S := S5) hm (by repeat' first | with_reducible exact Mo_none _ | with_reducible refine Mo_gd ?_ | with_reducible refine Mo_ite ?_ ?_ | with_reducible refine Mo_bind ?_ (fun q => ?_) | with_reducible refine Mo_some ?_ | with_reducible refine Mo_of (f_gr65_m _ _) ?_ | with_reducible refine Mo_of (f_gr66_m _ _) ?_ | with_reducible refine Mo_of (f_gr68_m _ _) ?_ | with_reducible refine Mo_of (f_gr69_m _ _) ?_ | with_reducible refine Mo_of (f_gr70_m _ _) ?_ | with_reducible refine Mo_of (f_gr71_m _ _) ?_ | with_reducible refine Mo_of (f_gr73_m _ _) ?_ | with_reducible refine Mo_of (f_gr74_m _ _) ?_ | with_reducible refine Mo_of (f_X0_clear_m _) ?_ | with_reducible refine Mo_of (f_X0_release_m _ _) ?_ | with_reducible refine Mo_of (f_X2_clear_m _) ?_ | with_reducible refine Mo_of (f_X2_outward_L5_m _ _ _ _ _ _ _) ?_ | with_reducible refine Mo_of (f_X2_outward_m _ _ _ _) ?_ | with_reducible refine Mo_of (f_X3_takesNumbers_L12_m _ _ _ _ _ _) ?_ | with_reducible refine Mo_of (f_X3_takesNumbers_m _ _ _) ?_ | with_reducible refine Mo_of (f_X5_condition_m _) ?_ | with_reducible refine Mo_of (f_X5_slotOf_m _ _ _) ?_ | with_reducible refine Mo_of (f_X5_makeReady_m _ _ _) ?_ | with_reducible refine Mo_of (f_X5_send_m _ _ _ _ _) ?_ | with_reducible refine Mo_of (f_X5_leaveFunction_m _) ?_ | with_reducible refine Mo_of (f_X5_turn_m _ _ _) ?_ | with_reducible refine Mo_of (f_X5_leastError_m _ _ _) ?_ | with_reducible refine Mo_of (f_X5_calculate_m _ _ _ _) ?_ | with_reducible refine Mo_of (f_X8_clear_m _) ?_ | with_reducible refine Mo_of (f_X8_put_m _ _ _ _) ?_ | with_reducible refine Mo_of (f_X8_tableOf_m _ _ _) ?_ | with_reducible refine Mo_of (f_X8_firstCell_m _ _) ?_ | with_reducible refine Mo_of (f_X8_cellsIn_m _ _) ?_ | with_reducible refine Mo_of (f_J9_floorMod_f86c9_m _ _ _) ?_ | with_reducible refine Mo_of (f_J7_rangeCheck_23922_m _ _ _ _) ?_ | with_reducible refine Mo_of (f_J7_fill_bad5a_L10_m _ _ _ _ _ _ _) ?_ | with_reducible refine Mo_of (f_J7_fill_bad5a_m _ _ _ _ _) ?_ | with_reducible refine Mo_of (f_J7_fill_eb02e_L10_m _ _ _ _ _ _ _) ?_ | with_reducible refine Mo_of (f_J7_fill_eb02e_m _ _ _ _ _) ?_ | with_reducible refine Mo_of (f_X5_settle_L15_m _ _ _ _ _ _ _ _) ?_ | with_reducible refine Mo_of (f_X5_settle_m _ _ _ _ _) ?_ | with_reducible refine Mo_of (f_X5_handIn_m _ _ _ _ _) ?_ | with_reducible refine Mo_of (f_X5_cellAt_m _ _ _) ?_ | with_reducible refine Mo_of (f_X5_operate_m _ _ _) ?_ | with_reducible refine Mo_of (f_X5_pickCell_m _ _ _) ?_ | with_reducible refine Mo_of (f_X0_add_m _ _ _) ?_ | with_reducible refine Mo_of (f_X2_add_m _ _ _ _) ?_ | rfl)
    refine gR_X2_26_69_gA (pc := 40) X dX2_add_40 dX2_add_43 (Nat.le_of_ble_eq_true rfl) (Nat.le_of_ble_eq_true rfl) hc6 m2 b1 b2 (fun ga bc bs b1 b2 => ?_)
    refine iv_aload_n (pc := 46) X dX2_add_46 rfl ?_
    refine iv_aload_n (pc := 47) X dX2_add_47 rfl ?_
    refine gF_X2_16_67 (pc := 48) X dX2_add_48 ?_
    refine iv_iconst (pc := 51) X dX2_add_51 ic_2 ?_
    refine iv_aload_n (pc := 52) X dX2_add_52 rfl ?_
    refine gF_X2_22_67 (pc := 53) X dX2_add_53 (x := S5.1 67 4) rfl ?_
    refine iv_imul (pc := 56) X dX2_add_56 ?_
    obtain ⟨⟨r10, S8⟩, hc9, hm⟩ := bd_some hm
    have m2 := mo_use (S := S8) hm (by repeat' first | with_reducible exact Mo_none _ | with_reducible refine Mo_gd ?_ | with_reducible refine Mo_ite ?_ ?_ | with_reducible refine Mo_bind ?_ (fun q => ?_) | with_reducible refine Mo_some ?_ | with_reducible refine Mo_of (f_gr65_m _ _) ?_ | with_reducible refine Mo_of (f_gr66_m _ _) ?_ | with_reducible refine Mo_of (f_gr68_m _ _) ?_ | with_reducible refine Mo_of (f_gr69_m _ _) ?_ | with_reducible refine Mo_of (f_gr70_m _ _) ?_ | with_reducible refine Mo_of (f_gr71_m _ _) ?_ | with_reducible refine Mo_of (f_gr73_m _ _) ?_ | with_reducible refine Mo_of (f_gr74_m _ _) ?_ | with_reducible refine Mo_of (f_X0_clear_m _) ?_ | with_reducible refine Mo_of (f_X0_release_m _ _) ?_ | with_reducible refine Mo_of (f_X2_clear_m _) ?_ | with_reducible refine Mo_of (f_X2_outward_L5_m _ _ _ _ _ _ _) ?_ | with_reducible refine Mo_of (f_X2_outward_m _ _ _ _) ?_ | with_reducible refine Mo_of (f_X3_takesNumbers_L12_m _ _ _ _ _ _) ?_ | with_reducible refine Mo_of (f_X3_takesNumbers_m _ _ _) ?_ | with_reducible refine Mo_of (f_X5_condition_m _) ?_ | with_reducible refine Mo_of (f_X5_slotOf_m _ _ _) ?_ | with_reducible refine Mo_of (f_X5_makeReady_m _ _ _) ?_ | with_reducible refine Mo_of (f_X5_send_m _ _ _ _ _) ?_ | with_reducible refine Mo_of (f_X5_leaveFunction_m _) ?_ | with_reducible refine Mo_of (f_X5_turn_m _ _ _) ?_ | with_reducible refine Mo_of (f_X5_leastError_m _ _ _) ?_ | with_reducible refine Mo_of (f_X5_calculate_m _ _ _ _) ?_ | with_reducible refine Mo_of (f_X8_clear_m _) ?_ | with_reducible refine Mo_of (f_X8_put_m _ _ _ _) ?_ | with_reducible refine Mo_of (f_X8_tableOf_m _ _ _) ?_ | with_reducible refine Mo_of (f_X8_firstCell_m _ _) ?_ | with_reducible refine Mo_of (f_X8_cellsIn_m _ _) ?_ | with_reducible refine Mo_of (f_J9_floorMod_f86c9_m _ _ _) ?_ | with_reducible refine Mo_of (f_J7_rangeCheck_23922_m _ _ _ _) ?_ | with_reducible refine Mo_of (f_J7_fill_bad5a_L10_m _ _ _ _ _ _ _) ?_ | with_reducible refine Mo_of (f_J7_fill_bad5a_m _ _ _ _ _) ?_ | with_reducible refine Mo_of (f_J7_fill_eb02e_L10_m _ _ _ _ _ _ _) ?_ | with_reducible refine Mo_of (f_J7_fill_eb02e_m _ _ _ _ _) ?_ | with_reducible refine Mo_of (f_X5_settle_L15_m _ _ _ _ _ _ _ _) ?_ | with_reducible refine Mo_of (f_X5_settle_m _ _ _ _ _) ?_ | with_reducible refine Mo_of (f_X5_handIn_m _ _ _ _ _) ?_ | with_reducible refine Mo_of (f_X5_cellAt_m _ _ _) ?_ | with_reducible refine Mo_of (f_X5_operate_m _ _ _) ?_ | with_reducible refine Mo_of (f_X5_pickCell_m _ _ _) ?_ | with_reducible refine Mo_of (f_X0_add_m _ _ _) ?_ | with_reducible refine Mo_of (f_X2_add_m _ _ _ _) ?_ | rfl)
    refine gR_X2_26_70_gA (pc := 57) X dX2_add_57 dX2_add_60 (Nat.le_of_ble_eq_true rfl) (Nat.le_of_ble_eq_true rfl) hc9 m2 b1 b2 (fun ga bc bs b1 b2 => ?_)
    refine iv_aload_n (pc := 63) X dX2_add_63 rfl ?_
    refine iv_aload_n (pc := 64) X dX2_add_64 rfl ?_
    refine gF_X2_19_67 (pc := 65) X dX2_add_65 ?_
    refine iv_iconst (pc := 68) X dX2_add_68 ic_2 ?_
    refine iv_aload_n (pc := 69) X dX2_add_69 rfl ?_
    refine gF_X2_22_67 (pc := 70) X dX2_add_70 (x := S8.1 67 4) rfl ?_
    refine iv_imul (pc := 73) X dX2_add_73 ?_
    obtain ⟨⟨r13, S11⟩, hc12, hm⟩ := bd_some hm
    have m2 := mo_use (S := S11) hm (by repeat' first | with_reducible exact Mo_none _ | with_reducible refine Mo_gd ?_ | with_reducible refine Mo_ite ?_ ?_ | with_reducible refine Mo_bind ?_ (fun q => ?_) | with_reducible refine Mo_some ?_ | with_reducible refine Mo_of (f_gr65_m _ _) ?_ | with_reducible refine Mo_of (f_gr66_m _ _) ?_ | with_reducible refine Mo_of (f_gr68_m _ _) ?_ | with_reducible refine Mo_of (f_gr69_m _ _) ?_ | with_reducible refine Mo_of (f_gr70_m _ _) ?_ | with_reducible refine Mo_of (f_gr71_m _ _) ?_ | with_reducible refine Mo_of (f_gr73_m _ _) ?_ | with_reducible refine Mo_of (f_gr74_m _ _) ?_ | with_reducible refine Mo_of (f_X0_clear_m _) ?_ | with_reducible refine Mo_of (f_X0_release_m _ _) ?_ | with_reducible refine Mo_of (f_X2_clear_m _) ?_ | with_reducible refine Mo_of (f_X2_outward_L5_m _ _ _ _ _ _ _) ?_ | with_reducible refine Mo_of (f_X2_outward_m _ _ _ _) ?_ | with_reducible refine Mo_of (f_X3_takesNumbers_L12_m _ _ _ _ _ _) ?_ | with_reducible refine Mo_of (f_X3_takesNumbers_m _ _ _) ?_ | with_reducible refine Mo_of (f_X5_condition_m _) ?_ | with_reducible refine Mo_of (f_X5_slotOf_m _ _ _) ?_ | with_reducible refine Mo_of (f_X5_makeReady_m _ _ _) ?_ | with_reducible refine Mo_of (f_X5_send_m _ _ _ _ _) ?_ | with_reducible refine Mo_of (f_X5_leaveFunction_m _) ?_ | with_reducible refine Mo_of (f_X5_turn_m _ _ _) ?_ | with_reducible refine Mo_of (f_X5_leastError_m _ _ _) ?_ | with_reducible refine Mo_of (f_X5_calculate_m _ _ _ _) ?_ | with_reducible refine Mo_of (f_X8_clear_m _) ?_ | with_reducible refine Mo_of (f_X8_put_m _ _ _ _) ?_ | with_reducible refine Mo_of (f_X8_tableOf_m _ _ _) ?_ | with_reducible refine Mo_of (f_X8_firstCell_m _ _) ?_ | with_reducible refine Mo_of (f_X8_cellsIn_m _ _) ?_ | with_reducible refine Mo_of (f_J9_floorMod_f86c9_m _ _ _) ?_ | with_reducible refine Mo_of (f_J7_rangeCheck_23922_m _ _ _ _) ?_ | with_reducible refine Mo_of (f_J7_fill_bad5a_L10_m _ _ _ _ _ _ _) ?_ | with_reducible refine Mo_of (f_J7_fill_bad5a_m _ _ _ _ _) ?_ | with_reducible refine Mo_of (f_J7_fill_eb02e_L10_m _ _ _ _ _ _ _) ?_ | with_reducible refine Mo_of (f_J7_fill_eb02e_m _ _ _ _ _) ?_ | with_reducible refine Mo_of (f_X5_settle_L15_m _ _ _ _ _ _ _ _) ?_ | with_reducible refine Mo_of (f_X5_settle_m _ _ _ _ _) ?_ | with_reducible refine Mo_of (f_X5_handIn_m _ _ _ _ _) ?_ | with_reducible refine Mo_of (f_X5_cellAt_m _ _ _) ?_ | with_reducible refine Mo_of (f_X5_operate_m _ _ _) ?_ | with_reducible refine Mo_of (f_X5_pickCell_m _ _ _) ?_ | with_reducible refine Mo_of (f_X0_add_m _ _ _) ?_ | with_reducible refine Mo_of (f_X2_add_m _ _ _ _) ?_ | rfl)
    refine gR_X2_26_71_gA (pc := 74) X dX2_add_74 dX2_add_77 (Nat.le_of_ble_eq_true rfl) (Nat.le_of_ble_eq_true rfl) hc12 m2 b1 b2 (fun ga bc bs b1 b2 => ?_)
    refine iv_aload_n (pc := 80) X dX2_add_80 rfl ?_
    refine gF_X2_7_67 (pc := 81) X dX2_add_81 ?_
    refine iv_aload_n (pc := 84) X dX2_add_84 rfl ?_
    refine gF_X2_22_67 (pc := 85) X dX2_add_85 (x := S11.1 67 4) rfl ?_
    refine iv_iload_n (pc := 88) X dX2_add_88 rfl ?_
    obtain ⟨hg, hm⟩ := gd_some hm
    refine aS_68 (pc := 89) X dX2_add_89 hg ?_
    refine iv_aload_n (pc := 90) X dX2_add_90 rfl ?_
    refine gF_X2_13_67 (pc := 91) X dX2_add_91 ?_
    refine iv_aload_n (pc := 94) X dX2_add_94 rfl ?_
    refine gF_X2_22_67 (pc := 95) X dX2_add_95 (x := S11.1 67 4) rfl ?_
    refine iv_iload_n (pc := 98) X dX2_add_98 rfl ?_
    obtain ⟨hg, hm⟩ := gd_some hm
    refine aS_69 (pc := 99) X dX2_add_99 hg ?_
    refine iv_aload_n (pc := 100) X dX2_add_100 rfl ?_
    refine gF_X2_16_67 (pc := 101) X dX2_add_101 ?_
    refine iv_aload_n (pc := 104) X dX2_add_104 rfl ?_
    refine gF_X2_22_67 (pc := 105) X dX2_add_105 (x := S11.1 67 4) rfl ?_
    refine iv_iload_n (pc := 108) X dX2_add_108 rfl ?_
    obtain ⟨hg, hm⟩ := gd_some hm
    refine aS_70 (pc := 109) X dX2_add_109 hg ?_
    refine iv_aload_n (pc := 110) X dX2_add_110 rfl ?_
    refine gF_X2_19_67 (pc := 111) X dX2_add_111 ?_
    refine iv_aload_n (pc := 114) X dX2_add_114 rfl ?_
    refine gF_X2_22_67 (pc := 115) X dX2_add_115 (x := S11.1 67 4) rfl ?_
    refine iv_iconst (pc := 118) X dX2_add_118 ic_0 ?_
    obtain ⟨hg, hm⟩ := gd_some hm
    refine aS_71 (pc := 119) X dX2_add_119 hg ?_
    refine iv_aload_n (pc := 120) X dX2_add_120 rfl ?_
    refine iv_dup (pc := 121) X dX2_add_121 rfl ?_
    refine gF_X2_22_67 (pc := 122) X dX2_add_122 (x := S11.1 67 4) rfl ?_
    refine iv_iconst (pc := 125) X dX2_add_125 ic_1 ?_
    refine iv_iadd (pc := 126) X dX2_add_126 ?_
    refine pF_X2_22_67 (pc := 127) X dX2_add_127 ?_
    refine iv_aload_n (pc := 130) X dX2_add_130 rfl ?_
    refine gF_X2_22_67 (pc := 131) X dX2_add_131 (x := (S11.1 67 4) + 1) rfl ?_
    refine iv_iconst (pc := 134) X dX2_add_134 ic_1 ?_
    refine iv_isub (pc := 135) X dX2_add_135 ?_
    cases hm
    exact is_iretG (pc := 136) X dX2_add_136
def f_X8_take (fu : Nat) (x1 : Int32) (S : im_S) : Option (Int32 × im_S) := if ((S.1 64 2) + x1 : Int32) ≤ (Int32.ofNat (S.2.2 65)) then ((f_J7_fill_eb02e fu (S.1 64 2) ((S.1 64 2) + x1) 0 (uI S 64 2 ((S.1 64 2) + x1))).bind (fun qS2 => (f_J7_fill_bad5a fu (S.1 64 2) (qS2.2.1 64 2) 0 qS2.2).bind (fun qS5 => some (S.1 64 2, qS5.2)))) else ((f_gr65 (if ((S.1 64 2) + x1 : Int32) < (2 * (Int32.ofNat (S.2.2 65))) then (2 * (Int32.ofNat (S.2.2 65))) else ((S.1 64 2) + x1)) (uI S 64 2 ((S.1 64 2) + x1))).bind (fun qS8 => (f_gr66 (if ((S.1 64 2) + x1 : Int32) < (2 * (Int32.ofNat (S.2.2 65))) then (2 * (Int32.ofNat (S.2.2 65))) else ((S.1 64 2) + x1)) qS8.2).bind (fun qS11 => (f_J7_fill_eb02e fu (S.1 64 2) (qS11.2.1 64 2) 0 qS11.2).bind (fun qS14 => (f_J7_fill_bad5a fu (S.1 64 2) (qS14.2.1 64 2) 0 qS14.2).bind (fun qS17 => some (S.1 64 2, qS17.2))))))
theorem f_X8_take_m (fu : Nat) (x1 : Int32) (S : im_S) : Mo (f_X8_take fu x1 S) S := by
  unfold f_X8_take
  repeat' first | with_reducible exact Mo_none _ | with_reducible refine Mo_gd ?_ | with_reducible refine Mo_ite ?_ ?_ | with_reducible refine Mo_bind ?_ (fun q => ?_) | with_reducible refine Mo_some ?_ | with_reducible refine Mo_of (f_gr65_m _ _) ?_ | with_reducible refine Mo_of (f_gr66_m _ _) ?_ | with_reducible refine Mo_of (f_gr68_m _ _) ?_ | with_reducible refine Mo_of (f_gr69_m _ _) ?_ | with_reducible refine Mo_of (f_gr70_m _ _) ?_ | with_reducible refine Mo_of (f_gr71_m _ _) ?_ | with_reducible refine Mo_of (f_gr73_m _ _) ?_ | with_reducible refine Mo_of (f_gr74_m _ _) ?_ | with_reducible refine Mo_of (f_X0_clear_m _) ?_ | with_reducible refine Mo_of (f_X0_release_m _ _) ?_ | with_reducible refine Mo_of (f_X2_clear_m _) ?_ | with_reducible refine Mo_of (f_X2_outward_L5_m _ _ _ _ _ _ _) ?_ | with_reducible refine Mo_of (f_X2_outward_m _ _ _ _) ?_ | with_reducible refine Mo_of (f_X3_takesNumbers_L12_m _ _ _ _ _ _) ?_ | with_reducible refine Mo_of (f_X3_takesNumbers_m _ _ _) ?_ | with_reducible refine Mo_of (f_X5_condition_m _) ?_ | with_reducible refine Mo_of (f_X5_slotOf_m _ _ _) ?_ | with_reducible refine Mo_of (f_X5_makeReady_m _ _ _) ?_ | with_reducible refine Mo_of (f_X5_send_m _ _ _ _ _) ?_ | with_reducible refine Mo_of (f_X5_leaveFunction_m _) ?_ | with_reducible refine Mo_of (f_X5_turn_m _ _ _) ?_ | with_reducible refine Mo_of (f_X5_leastError_m _ _ _) ?_ | with_reducible refine Mo_of (f_X5_calculate_m _ _ _ _) ?_ | with_reducible refine Mo_of (f_X8_clear_m _) ?_ | with_reducible refine Mo_of (f_X8_put_m _ _ _ _) ?_ | with_reducible refine Mo_of (f_X8_tableOf_m _ _ _) ?_ | with_reducible refine Mo_of (f_X8_firstCell_m _ _) ?_ | with_reducible refine Mo_of (f_X8_cellsIn_m _ _) ?_ | with_reducible refine Mo_of (f_J9_floorMod_f86c9_m _ _ _) ?_ | with_reducible refine Mo_of (f_J7_rangeCheck_23922_m _ _ _ _) ?_ | with_reducible refine Mo_of (f_J7_fill_bad5a_L10_m _ _ _ _ _ _ _) ?_ | with_reducible refine Mo_of (f_J7_fill_bad5a_m _ _ _ _ _) ?_ | with_reducible refine Mo_of (f_J7_fill_eb02e_L10_m _ _ _ _ _ _ _) ?_ | with_reducible refine Mo_of (f_J7_fill_eb02e_m _ _ _ _ _) ?_ | with_reducible refine Mo_of (f_X5_settle_L15_m _ _ _ _ _ _ _ _) ?_ | with_reducible refine Mo_of (f_X5_settle_m _ _ _ _ _) ?_ | with_reducible refine Mo_of (f_X5_handIn_m _ _ _ _ _) ?_ | with_reducible refine Mo_of (f_X5_cellAt_m _ _ _) ?_ | with_reducible refine Mo_of (f_X5_operate_m _ _ _) ?_ | with_reducible refine Mo_of (f_X5_pickCell_m _ _ _) ?_ | with_reducible refine Mo_of (f_X0_add_m _ _ _) ?_ | with_reducible refine Mo_of (f_X2_add_m _ _ _ _) ?_ | rfl
set_option maxHeartbeats 4000000 in
set_option maxRecDepth 100000 in
theorem f_X8_take_e (l : Launch) (g : im_G) (ad : Nat → Nat) (fu : Nat) (x1 : Int32) (S : im_S) (r : Int32) (S' : im_S) (hm : f_X8_take fu x1 S = some (r, S')) : im_EG gA l g ad 2 yX8_take cX8_take 4 (some Jvm.ClassFile.FieldType.int) [.ref (ad 64), .int x1] S (some (.int r)) S' := by
  unfold f_X8_take at hm
  refine is_metG (own := RX8) (by decide +kernel) rfl (Nat.le_of_ble_eq_true rfl) (fun p e s m below meth c X ga bc bs b1 b2 => ?_)
  refine iv_aload_n (pc := 0) X dX8_take_0 rfl ?_
  refine gF_X8_17_64 (pc := 1) X dX8_take_1 (x := S.1 64 2) rfl ?_
  refine iv_istore_n (pc := 4) X dX8_take_4 (by decide) (lv' := [(2, .int (S.1 64 2)), (0, .ref (mx gA ad ga 64)), (1, .int x1)]) rfl ?_
  refine iv_aload_n (pc := 5) X dX8_take_5 rfl ?_
  refine iv_dup (pc := 6) X dX8_take_6 rfl ?_
  refine gF_X8_17_64 (pc := 7) X dX8_take_7 (x := S.1 64 2) rfl ?_
  refine iv_iload_n (pc := 10) X dX8_take_10 rfl ?_
  refine iv_iadd (pc := 11) X dX8_take_11 ?_
  refine pF_X8_17_64 (pc := 12) X dX8_take_12 ?_
  refine iv_aload_n (pc := 15) X dX8_take_15 rfl ?_
  refine gF_X8_17_64 (pc := 16) X dX8_take_16 (x := (S.1 64 2) + x1) rfl ?_
  refine iv_aload_n (pc := 19) X dX8_take_19 rfl ?_
  refine gF_X8_7_64 (pc := 20) X dX8_take_20 ?_
  refine iv_alen (pc := 23) X 0 (by decide) (v := Int32.ofNat (S.2.2 65)) dX8_take_23 65 (by decide) rfl rfl ?_
  refine iv_icmp_le (pc := 24) X dX8_take_24 (tgt := 66) rfl (fun hb1 => ?_) (fun hb1 => ?_)
  · rw [if_pos hb1] at hm
    refine iv_aload_n (pc := 66) X dX8_take_66 rfl ?_
    refine gF_X8_7_64 (pc := 67) X dX8_take_67 ?_
    refine iv_iload_n (pc := 70) X dX8_take_70 rfl ?_
    refine iv_aload_n (pc := 71) X dX8_take_71 rfl ?_
    refine gF_X8_17_64 (pc := 72) X dX8_take_72 (x := (S.1 64 2) + x1) rfl ?_
    refine iv_iconst (pc := 75) X dX8_take_75 ic_0 ?_
    obtain ⟨⟨r3, S2⟩, hc4, hm⟩ := bd_some hm
    refine cS_X8_36 (pc := 76) X [.ref (mx gA ad ga 65), .int (S.1 64 2), .int ((S.1 64 2) + x1), .int 0] [] 4 rfl (f_J7_fill_eb02e_e l g (mx gA ad ga) fu (S.1 64 2) ((S.1 64 2) + x1) 0 (uI S 64 2 ((S.1 64 2) + x1)) _ _ hc4) (Nat.le_of_ble_eq_true rfl) (Nat.le_of_ble_eq_true rfl) (Nat.le_of_ble_eq_true rfl) rfl dX8_take_76 ?_
    have b1 := gb_step (mo_use hc4 (f_J7_fill_eb02e_m fu (S.1 64 2) ((S.1 64 2) + x1) 0 (uI S 64 2 ((S.1 64 2) + x1)))) b1
    have b2 := gb_step2 (mo_use hc4 (f_J7_fill_eb02e_m fu (S.1 64 2) ((S.1 64 2) + x1) 0 (uI S 64 2 ((S.1 64 2) + x1)))) b2
    refine iv_aload_n (pc := 79) X dX8_take_79 rfl ?_
    refine gF_X8_13_64 (pc := 80) X dX8_take_80 ?_
    refine iv_iload_n (pc := 83) X dX8_take_83 rfl ?_
    refine iv_aload_n (pc := 84) X dX8_take_84 rfl ?_
    refine gF_X8_17_64 (pc := 85) X dX8_take_85 (x := S2.1 64 2) rfl ?_
    refine iv_lconst (pc := 88) X dX8_take_88 lc_0 ?_
    obtain ⟨⟨r6, S5⟩, hc7, hm⟩ := bd_some hm
    refine cS_X8_40 (pc := 89) X [.ref (mx gA ad ga 66), .int (S.1 64 2), .int (S2.1 64 2), .long 0] [] 4 rfl (f_J7_fill_bad5a_e l g (mx gA ad ga) fu (S.1 64 2) (S2.1 64 2) 0 S2 _ _ hc7) (Nat.le_of_ble_eq_true rfl) (Nat.le_of_ble_eq_true rfl) (Nat.le_of_ble_eq_true rfl) rfl dX8_take_89 ?_
    have b1 := gb_step (mo_use hc7 (f_J7_fill_bad5a_m fu (S.1 64 2) (S2.1 64 2) 0 S2)) b1
    have b2 := gb_step2 (mo_use hc7 (f_J7_fill_bad5a_m fu (S.1 64 2) (S2.1 64 2) 0 S2)) b2
    refine iv_iload_n (pc := 92) X dX8_take_92 rfl ?_
    cases hm
    exact is_iretG (pc := 93) X dX8_take_93
  · rw [if_neg hb1] at hm
    refine iv_aload_n (pc := 27) X dX8_take_27 rfl ?_
    refine gF_X8_17_64 (pc := 28) X dX8_take_28 (x := (S.1 64 2) + x1) rfl ?_
    refine iv_iconst (pc := 31) X dX8_take_31 ic_2 ?_
    refine iv_aload_n (pc := 32) X dX8_take_32 rfl ?_
    refine gF_X8_7_64 (pc := 33) X dX8_take_33 ?_
    refine iv_alen (pc := 36) X 0 (by decide) (v := Int32.ofNat (S.2.2 65)) dX8_take_36 65 (by decide) rfl rfl ?_
    refine iv_imul (pc := 37) X dX8_take_37 ?_
    refine iv_mmax (pc := 38) X wm_X8_21 (Nat.le_of_ble_eq_true rfl) (Nat.le_of_ble_eq_true rfl) dX8_take_38 ?_
    refine iv_istore_n (pc := 41) X dX8_take_41 (by decide) (lv' := [(3, .int (if ((S.1 64 2) + x1 : Int32) < (2 * (Int32.ofNat (S.2.2 65))) then (2 * (Int32.ofNat (S.2.2 65))) else ((S.1 64 2) + x1))), (2, .int (S.1 64 2)), (0, .ref (mx gA ad ga 64)), (1, .int x1)]) rfl ?_
    refine iv_aload_n (pc := 42) X dX8_take_42 rfl ?_
    refine iv_aload_n (pc := 43) X dX8_take_43 rfl ?_
    refine gF_X8_7_64 (pc := 44) X dX8_take_44 ?_
    refine iv_iload_n (pc := 47) X dX8_take_47 rfl ?_
    obtain ⟨⟨r10, S8⟩, hc9, hm⟩ := bd_some hm
    have m2 := mo_use (S := S8) hm (by repeat' first | with_reducible exact Mo_none _ | with_reducible refine Mo_gd ?_ | with_reducible refine Mo_ite ?_ ?_ | with_reducible refine Mo_bind ?_ (fun q => ?_) | with_reducible refine Mo_some ?_ | with_reducible refine Mo_of (f_gr65_m _ _) ?_ | with_reducible refine Mo_of (f_gr66_m _ _) ?_ | with_reducible refine Mo_of (f_gr68_m _ _) ?_ | with_reducible refine Mo_of (f_gr69_m _ _) ?_ | with_reducible refine Mo_of (f_gr70_m _ _) ?_ | with_reducible refine Mo_of (f_gr71_m _ _) ?_ | with_reducible refine Mo_of (f_gr73_m _ _) ?_ | with_reducible refine Mo_of (f_gr74_m _ _) ?_ | with_reducible refine Mo_of (f_X0_clear_m _) ?_ | with_reducible refine Mo_of (f_X0_release_m _ _) ?_ | with_reducible refine Mo_of (f_X2_clear_m _) ?_ | with_reducible refine Mo_of (f_X2_outward_L5_m _ _ _ _ _ _ _) ?_ | with_reducible refine Mo_of (f_X2_outward_m _ _ _ _) ?_ | with_reducible refine Mo_of (f_X3_takesNumbers_L12_m _ _ _ _ _ _) ?_ | with_reducible refine Mo_of (f_X3_takesNumbers_m _ _ _) ?_ | with_reducible refine Mo_of (f_X5_condition_m _) ?_ | with_reducible refine Mo_of (f_X5_slotOf_m _ _ _) ?_ | with_reducible refine Mo_of (f_X5_makeReady_m _ _ _) ?_ | with_reducible refine Mo_of (f_X5_send_m _ _ _ _ _) ?_ | with_reducible refine Mo_of (f_X5_leaveFunction_m _) ?_ | with_reducible refine Mo_of (f_X5_turn_m _ _ _) ?_ | with_reducible refine Mo_of (f_X5_leastError_m _ _ _) ?_ | with_reducible refine Mo_of (f_X5_calculate_m _ _ _ _) ?_ | with_reducible refine Mo_of (f_X8_clear_m _) ?_ | with_reducible refine Mo_of (f_X8_put_m _ _ _ _) ?_ | with_reducible refine Mo_of (f_X8_tableOf_m _ _ _) ?_ | with_reducible refine Mo_of (f_X8_firstCell_m _ _) ?_ | with_reducible refine Mo_of (f_X8_cellsIn_m _ _) ?_ | with_reducible refine Mo_of (f_J9_floorMod_f86c9_m _ _ _) ?_ | with_reducible refine Mo_of (f_J7_rangeCheck_23922_m _ _ _ _) ?_ | with_reducible refine Mo_of (f_J7_fill_bad5a_L10_m _ _ _ _ _ _ _) ?_ | with_reducible refine Mo_of (f_J7_fill_bad5a_m _ _ _ _ _) ?_ | with_reducible refine Mo_of (f_J7_fill_eb02e_L10_m _ _ _ _ _ _ _) ?_ | with_reducible refine Mo_of (f_J7_fill_eb02e_m _ _ _ _ _) ?_ | with_reducible refine Mo_of (f_X5_settle_L15_m _ _ _ _ _ _ _ _) ?_ | with_reducible refine Mo_of (f_X5_settle_m _ _ _ _ _) ?_ | with_reducible refine Mo_of (f_X5_handIn_m _ _ _ _ _) ?_ | with_reducible refine Mo_of (f_X5_cellAt_m _ _ _) ?_ | with_reducible refine Mo_of (f_X5_operate_m _ _ _) ?_ | with_reducible refine Mo_of (f_X5_pickCell_m _ _ _) ?_ | with_reducible refine Mo_of (f_X0_add_m _ _ _) ?_ | with_reducible refine Mo_of (f_X2_add_m _ _ _ _) ?_ | with_reducible refine Mo_of (f_X8_take_m _ _ _) ?_ | rfl)
    refine gR_X8_27_65_gA (pc := 48) X dX8_take_48 dX8_take_51 (Nat.le_of_ble_eq_true rfl) (Nat.le_of_ble_eq_true rfl) hc9 m2 b1 b2 (fun ga bc bs b1 b2 => ?_)
    refine iv_aload_n (pc := 54) X dX8_take_54 rfl ?_
    refine iv_aload_n (pc := 55) X dX8_take_55 rfl ?_
    refine gF_X8_13_64 (pc := 56) X dX8_take_56 ?_
    refine iv_iload_n (pc := 59) X dX8_take_59 rfl ?_
    obtain ⟨⟨r13, S11⟩, hc12, hm⟩ := bd_some hm
    have m2 := mo_use (S := S11) hm (by repeat' first | with_reducible exact Mo_none _ | with_reducible refine Mo_gd ?_ | with_reducible refine Mo_ite ?_ ?_ | with_reducible refine Mo_bind ?_ (fun q => ?_) | with_reducible refine Mo_some ?_ | with_reducible refine Mo_of (f_gr65_m _ _) ?_ | with_reducible refine Mo_of (f_gr66_m _ _) ?_ | with_reducible refine Mo_of (f_gr68_m _ _) ?_ | with_reducible refine Mo_of (f_gr69_m _ _) ?_ | with_reducible refine Mo_of (f_gr70_m _ _) ?_ | with_reducible refine Mo_of (f_gr71_m _ _) ?_ | with_reducible refine Mo_of (f_gr73_m _ _) ?_ | with_reducible refine Mo_of (f_gr74_m _ _) ?_ | with_reducible refine Mo_of (f_X0_clear_m _) ?_ | with_reducible refine Mo_of (f_X0_release_m _ _) ?_ | with_reducible refine Mo_of (f_X2_clear_m _) ?_ | with_reducible refine Mo_of (f_X2_outward_L5_m _ _ _ _ _ _ _) ?_ | with_reducible refine Mo_of (f_X2_outward_m _ _ _ _) ?_ | with_reducible refine Mo_of (f_X3_takesNumbers_L12_m _ _ _ _ _ _) ?_ | with_reducible refine Mo_of (f_X3_takesNumbers_m _ _ _) ?_ | with_reducible refine Mo_of (f_X5_condition_m _) ?_ | with_reducible refine Mo_of (f_X5_slotOf_m _ _ _) ?_ | with_reducible refine Mo_of (f_X5_makeReady_m _ _ _) ?_ | with_reducible refine Mo_of (f_X5_send_m _ _ _ _ _) ?_ | with_reducible refine Mo_of (f_X5_leaveFunction_m _) ?_ | with_reducible refine Mo_of (f_X5_turn_m _ _ _) ?_ | with_reducible refine Mo_of (f_X5_leastError_m _ _ _) ?_ | with_reducible refine Mo_of (f_X5_calculate_m _ _ _ _) ?_ | with_reducible refine Mo_of (f_X8_clear_m _) ?_ | with_reducible refine Mo_of (f_X8_put_m _ _ _ _) ?_ | with_reducible refine Mo_of (f_X8_tableOf_m _ _ _) ?_ | with_reducible refine Mo_of (f_X8_firstCell_m _ _) ?_ | with_reducible refine Mo_of (f_X8_cellsIn_m _ _) ?_ | with_reducible refine Mo_of (f_J9_floorMod_f86c9_m _ _ _) ?_ | with_reducible refine Mo_of (f_J7_rangeCheck_23922_m _ _ _ _) ?_ | with_reducible refine Mo_of (f_J7_fill_bad5a_L10_m _ _ _ _ _ _ _) ?_ | with_reducible refine Mo_of (f_J7_fill_bad5a_m _ _ _ _ _) ?_ | with_reducible refine Mo_of (f_J7_fill_eb02e_L10_m _ _ _ _ _ _ _) ?_ | with_reducible refine Mo_of (f_J7_fill_eb02e_m _ _ _ _ _) ?_ | with_reducible refine Mo_of (f_X5_settle_L15_m _ _ _ _ _ _ _ _) ?_ | with_reducible refine Mo_of (f_X5_settle_m _ _ _ _ _) ?_ | with_reducible refine Mo_of (f_X5_handIn_m _ _ _ _ _) ?_ | with_reducible refine Mo_of (f_X5_cellAt_m _ _ _) ?_ | with_reducible refine Mo_of (f_X5_operate_m _ _ _) ?_ | with_reducible refine Mo_of (f_X5_pickCell_m _ _ _) ?_ | with_reducible refine Mo_of (f_X0_add_m _ _ _) ?_ | with_reducible refine Mo_of (f_X2_add_m _ _ _ _) ?_ | with_reducible refine Mo_of (f_X8_take_m _ _ _) ?_ | rfl)
    refine gR_X8_33_66_gA (pc := 60) X dX8_take_60 dX8_take_63 (Nat.le_of_ble_eq_true rfl) (Nat.le_of_ble_eq_true rfl) hc12 m2 b1 b2 (fun ga bc bs b1 b2 => ?_)
    refine iv_aload_n (pc := 66) X dX8_take_66 rfl ?_
    refine gF_X8_7_64 (pc := 67) X dX8_take_67 ?_
    refine iv_iload_n (pc := 70) X dX8_take_70 rfl ?_
    refine iv_aload_n (pc := 71) X dX8_take_71 rfl ?_
    refine gF_X8_17_64 (pc := 72) X dX8_take_72 (x := S11.1 64 2) rfl ?_
    refine iv_iconst (pc := 75) X dX8_take_75 ic_0 ?_
    obtain ⟨⟨r15, S14⟩, hc16, hm⟩ := bd_some hm
    refine cS_X8_36 (pc := 76) X [.ref (mx gA ad ga 65), .int (S.1 64 2), .int (S11.1 64 2), .int 0] [] 4 rfl (f_J7_fill_eb02e_e l g (mx gA ad ga) fu (S.1 64 2) (S11.1 64 2) 0 S11 _ _ hc16) (Nat.le_of_ble_eq_true rfl) (Nat.le_of_ble_eq_true rfl) (Nat.le_of_ble_eq_true rfl) rfl dX8_take_76 ?_
    have b1 := gb_step (mo_use hc16 (f_J7_fill_eb02e_m fu (S.1 64 2) (S11.1 64 2) 0 S11)) b1
    have b2 := gb_step2 (mo_use hc16 (f_J7_fill_eb02e_m fu (S.1 64 2) (S11.1 64 2) 0 S11)) b2
    refine iv_aload_n (pc := 79) X dX8_take_79 rfl ?_
    refine gF_X8_13_64 (pc := 80) X dX8_take_80 ?_
    refine iv_iload_n (pc := 83) X dX8_take_83 rfl ?_
    refine iv_aload_n (pc := 84) X dX8_take_84 rfl ?_
    refine gF_X8_17_64 (pc := 85) X dX8_take_85 (x := S14.1 64 2) rfl ?_
    refine iv_lconst (pc := 88) X dX8_take_88 lc_0 ?_
    obtain ⟨⟨r18, S17⟩, hc19, hm⟩ := bd_some hm
    refine cS_X8_40 (pc := 89) X [.ref (mx gA ad ga 66), .int (S.1 64 2), .int (S14.1 64 2), .long 0] [] 4 rfl (f_J7_fill_bad5a_e l g (mx gA ad ga) fu (S.1 64 2) (S14.1 64 2) 0 S14 _ _ hc19) (Nat.le_of_ble_eq_true rfl) (Nat.le_of_ble_eq_true rfl) (Nat.le_of_ble_eq_true rfl) rfl dX8_take_89 ?_
    have b1 := gb_step (mo_use hc19 (f_J7_fill_bad5a_m fu (S.1 64 2) (S14.1 64 2) 0 S14)) b1
    have b2 := gb_step2 (mo_use hc19 (f_J7_fill_bad5a_m fu (S.1 64 2) (S14.1 64 2) 0 S14)) b2
    refine iv_iload_n (pc := 92) X dX8_take_92 rfl ?_
    cases hm
    exact is_iretG (pc := 93) X dX8_take_93
