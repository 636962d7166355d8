/-! written by program (wip/whole/walk.py): methods as functions, and their contracts -/
def f_X5_condition (S : im_S) : Option (Int32 × im_S) := if (S.1 38 9 : Int32) ≠ 0 then (if (S.1 38 8 : Int32) ≤ 0 then (if (S.1 38 3 : Int32) ≠ 0 then (some (2, S)) else (some (3, S))) else (if (1000 : Int32) ≤ (S.1 38 2) then (some (4, S)) else (some (1, S)))) else (some (0, S))
set_option maxHeartbeats 4000000 in
set_option maxRecDepth 100000 in
theorem f_X5_condition_e (l : Launch) (g : im_G) (ad : Nat → Nat) (S : im_S) (r : Int32) (S' : im_S) (hm : f_X5_condition  S = some (r, S')) : im_E l g ad 0 yX5_condition cX5_condition 1 (some Jvm.ClassFile.FieldType.int) [.ref (ad 38)] S (some (.int r)) S' := by
  unfold f_X5_condition at hm
  refine is_met (own := RX5) (by decide +kernel) rfl (Nat.le_of_ble_eq_true rfl) (fun p e s m below meth c X => ?_)
  refine iv_aload_n (pc := 0) X dX5_condition_0 rfl ?_
  refine gF_X5_43_38 (pc := 1) X dX5_condition_1 (x := S.1 38 9) rfl ?_
  refine iv_if_ne (pc := 4) X dX5_condition_4 (tgt := 9) rfl (fun hb1 => ?_) (fun hb1 => ?_)
  · rw [if_pos hb1] at hm
    refine iv_aload_n (pc := 9) X dX5_condition_9 rfl ?_
    refine gF_X5_51_38 (pc := 10) X dX5_condition_10 (x := S.1 38 8) rfl ?_
    refine iv_if_le (pc := 13) X dX5_condition_13 (tgt := 32) rfl (fun hb2 => ?_) (fun hb2 => ?_)
    · rw [if_pos hb2] at hm
      refine iv_aload_n (pc := 32) X dX5_condition_32 rfl ?_
      refine gF_X5_54_38 (pc := 33) X dX5_condition_33 (x := S.1 38 3) rfl ?_
      refine iv_if_ne (pc := 36) X dX5_condition_36 (tgt := 43) rfl (fun hb3 => ?_) (fun hb3 => ?_)
      · rw [if_pos hb3] at hm
        refine iv_iconst (pc := 43) X dX5_condition_43 ic_2 ?_
        cases hm
        exact is_iret (pc := 44) X dX5_condition_44
      · rw [if_neg hb3] at hm
        refine iv_iconst (pc := 39) X dX5_condition_39 ic_3 ?_
        refine iv_goto (pc := 40) X dX5_condition_40 (tgt := 44) rfl ?_
        cases hm
        exact is_iret (pc := 44) X dX5_condition_44
    · rw [if_neg hb2] at hm
      refine iv_aload_n (pc := 16) X dX5_condition_16 rfl ?_
      refine gF_X5_47_38 (pc := 17) X dX5_condition_17 (x := S.1 38 2) rfl ?_
      refine iv_sipush (pc := 20) X dX5_condition_20 sc_1000 ?_
      refine iv_icmp_ge (pc := 23) X dX5_condition_23 (tgt := 30) rfl (fun hb4 => ?_) (fun hb4 => ?_)
      · rw [if_pos hb4] at hm
        refine iv_iconst (pc := 30) X dX5_condition_30 ic_4 ?_
        cases hm
        exact is_iret (pc := 31) X dX5_condition_31
      · rw [if_neg hb4] at hm
        refine iv_iconst (pc := 26) X dX5_condition_26 ic_1 ?_
        refine iv_goto (pc := 27) X dX5_condition_27 (tgt := 31) rfl ?_
        cases hm
        exact is_iret (pc := 31) X dX5_condition_31
  · rw [if_neg hb1] at hm
    refine iv_iconst (pc := 7) X dX5_condition_7 ic_0 ?_
    cases hm
    exact is_iret (pc := 8) X dX5_condition_8
def f_X5_slotOf (x1 : Int32) (x2 : Int32) (S : im_S) : Option (Int32 × im_S) := gd (in_b x1 (S.2.2 68)) (gd (in_b x2 512) (some (((S.1 68) x1.toNatClampNeg) + ((S.1 52) x2.toNatClampNeg), S)))
set_option maxHeartbeats 4000000 in
set_option maxRecDepth 100000 in
theorem f_X5_slotOf_e (l : Launch) (g : im_G) (ad : Nat → Nat) (x1 : Int32) (x2 : Int32) (S : im_S) (r : Int32) (S' : im_S) (hm : f_X5_slotOf x1 x2 S = some (r, S')) : im_E l g ad 0 yX5_slotOf cX5_slotOf 3 (some Jvm.ClassFile.FieldType.int) [.ref (ad 38), .int x1, .int x2] S (some (.int r)) S' := by
  unfold f_X5_slotOf at hm
  refine is_met (own := RX5) (by decide +kernel) rfl (Nat.le_of_ble_eq_true rfl) (fun p e s m below meth c X => ?_)
  refine iv_aload_n (pc := 0) X dX5_slotOf_0 rfl ?_
  refine gF_X5_28_38 (pc := 1) X dX5_slotOf_1 ?_
  refine gF_X5_120_67 (pc := 4) X dX5_slotOf_4 ?_
  refine iv_iload_n (pc := 7) X dX5_slotOf_7 rfl ?_
  obtain ⟨hg, hm⟩ := gd_some hm
  refine aL_68 (pc := 8) X dX5_slotOf_8 hg (x := (S.1 68) x1.toNatClampNeg) rfl ?_
  refine iv_aload_n (pc := 9) X dX5_slotOf_9 rfl ?_
  refine gF_X5_12_38 (pc := 10) X dX5_slotOf_10 ?_
  refine gF_X5_123_40 (pc := 13) X dX5_slotOf_13 ?_
  refine iv_iload_n (pc := 16) X dX5_slotOf_16 rfl ?_
  obtain ⟨hg, hm⟩ := gd_some hm
  refine aL_52 (pc := 17) X dX5_slotOf_17 hg (x := (S.1 52) x2.toNatClampNeg) rfl ?_
  refine iv_iadd (pc := 18) X dX5_slotOf_18 ?_
  cases hm
  exact is_iret (pc := 19) X dX5_slotOf_19
def f_X5_makeReady (x1 : Int32) (x2 : Int32) (S : im_S) : Option (Unit × im_S) := if (Int32.ofNat 1001 : Int32) ≤ (S.1 38 8) then (some ((), S)) else (gd (in_b (S.1 38 8) 1001) (some ((), (uI (uI S 39 ((S.1 38 8).toNatClampNeg) ((x1 * 512) + x2)) 38 8 ((S.1 38 8) + 1)))))
set_option maxHeartbeats 4000000 in
set_option maxRecDepth 100000 in
theorem f_X5_makeReady_e (l : Launch) (g : im_G) (ad : Nat → Nat) (x1 : Int32) (x2 : Int32) (S : im_S) (r : Unit) (S' : im_S) (hm : f_X5_makeReady x1 x2 S = some (r, S')) : im_E l g ad 0 yX5_makeReady cX5_makeReady 3 none [.ref (ad 38), .int x1, .int x2] S none S' := by
  unfold f_X5_makeReady at hm
  refine is_met (own := RX5) (by decide +kernel) rfl (Nat.le_of_ble_eq_true rfl) (fun p e s m below meth c X => ?_)
  refine iv_aload_n (pc := 0) X dX5_makeReady_0 rfl ?_
  refine gF_X5_51_38 (pc := 1) X dX5_makeReady_1 (x := S.1 38 8) rfl ?_
  refine iv_aload_n (pc := 4) X dX5_makeReady_4 rfl ?_
  refine gF_X5_39_38 (pc := 5) X dX5_makeReady_5 ?_
  refine iv_alen (pc := 8) X 1 (by decide) (v := Int32.ofNat 1001) dX5_makeReady_8 39 (by decide) rfl rfl ?_
  refine iv_icmp_ge (pc := 9) X dX5_makeReady_9 (tgt := 38) rfl (fun hb1 => ?_) (fun hb1 => ?_)
  · rw [if_pos hb1] at hm
    cases hm
    exact is_vret (pc := 38) X dX5_makeReady_38
  · rw [if_neg hb1] at hm
    refine iv_aload_n (pc := 12) X dX5_makeReady_12 rfl ?_
    refine gF_X5_39_38 (pc := 13) X dX5_makeReady_13 ?_
    refine iv_aload_n (pc := 16) X dX5_makeReady_16 rfl ?_
    refine gF_X5_51_38 (pc := 17) X dX5_makeReady_17 (x := S.1 38 8) rfl ?_
    refine iv_iload_n (pc := 20) X dX5_makeReady_20 rfl ?_
    refine iv_sipush (pc := 21) X dX5_makeReady_21 sc_512 ?_
    refine iv_imul (pc := 24) X dX5_makeReady_24 ?_
    refine iv_iload_n (pc := 25) X dX5_makeReady_25 rfl ?_
    refine iv_iadd (pc := 26) X dX5_makeReady_26 ?_
    obtain ⟨hg, hm⟩ := gd_some hm
    refine aS_39 (pc := 27) X dX5_makeReady_27 hg ?_
    refine iv_aload_n (pc := 28) X dX5_makeReady_28 rfl ?_
    refine iv_dup (pc := 29) X dX5_makeReady_29 rfl ?_
    refine gF_X5_51_38 (pc := 30) X dX5_makeReady_30 (x := S.1 38 8) rfl ?_
    refine iv_iconst (pc := 33) X dX5_makeReady_33 ic_1 ?_
    refine iv_iadd (pc := 34) X dX5_makeReady_34 ?_
    refine pF_X5_51_38 (pc := 35) X dX5_makeReady_35 ?_
    cases hm
    exact is_vret (pc := 38) X dX5_makeReady_38
def f_X5_send (x1 : Int32) (x2 : Int32) (x3 : Int32) (x4 : Int64) (S : im_S) : Option (Unit × im_S) := some ((), (uJ (uI (uI (uI (uI S 38 11 1) 38 12 x1) 38 13 x2) 38 14 x3) 38 15 x4))
set_option maxHeartbeats 4000000 in
set_option maxRecDepth 100000 in
theorem f_X5_send_e (l : Launch) (g : im_G) (ad : Nat → Nat) (x1 : Int32) (x2 : Int32) (x3 : Int32) (x4 : Int64) (S : im_S) (r : Unit) (S' : im_S) (hm : f_X5_send x1 x2 x3 x4 S = some (r, S')) : im_E l g ad 0 yX5_send cX5_send 6 none [.ref (ad 38), .int x1, .int x2, .int x3, .long x4] S none S' := by
  unfold f_X5_send at hm
  refine is_met (own := RX5) (by decide +kernel) rfl (Nat.le_of_ble_eq_true rfl) (fun p e s m below meth c X => ?_)
  refine iv_aload_n (pc := 0) X dX5_send_0 rfl ?_
  refine iv_iconst (pc := 1) X dX5_send_1 ic_1 ?_
  refine pF_X5_60_38 (pc := 2) X dX5_send_2 rfl ?_
  refine iv_aload_n (pc := 5) X dX5_send_5 rfl ?_
  refine iv_iload_n (pc := 6) X dX5_send_6 rfl ?_
  refine pF_X5_147_38 (pc := 7) X dX5_send_7 ?_
  refine iv_aload_n (pc := 10) X dX5_send_10 rfl ?_
  refine iv_iload_n (pc := 11) X dX5_send_11 rfl ?_
  refine pF_X5_150_38 (pc := 12) X dX5_send_12 ?_
  refine iv_aload_n (pc := 15) X dX5_send_15 rfl ?_
  refine iv_iload_n (pc := 16) X dX5_send_16 rfl ?_
  refine pF_X5_153_38 (pc := 17) X dX5_send_17 ?_
  refine iv_aload_n (pc := 20) X dX5_send_20 rfl ?_
  refine iv_lload (pc := 21) X dX5_send_21 rfl ?_
  refine pF_X5_156_38 (pc := 23) X dX5_send_23 ?_
  cases hm
  exact is_vret (pc := 26) X dX5_send_26
def f_X5_leaveFunction (S : im_S) : Option (Unit × im_S) := gd (in_b (S.1 38 12) (S.2.2 69)) (if ((S.1 69) ((S.1 38 12).toNatClampNeg) : Int32) ≠ (-1) then (gd (in_b (S.1 38 12) (S.2.2 69)) (gd (in_b (S.1 38 12) (S.2.2 70)) ((f_X5_send ((S.1 69) ((S.1 38 12).toNatClampNeg)) ((S.1 70) ((S.1 38 12).toNatClampNeg)) (S.1 38 14) (S.2.1 38 15) S).bind (fun qS2 => some ((), qS2.2))))) else (some ((), (uJ (uI S 38 3 (S.1 38 14)) 38 4 (S.2.1 38 15)))))
set_option maxHeartbeats 4000000 in
set_option maxRecDepth 100000 in
theorem f_X5_leaveFunction_e (l : Launch) (g : im_G) (ad : Nat → Nat) (S : im_S) (r : Unit) (S' : im_S) (hm : f_X5_leaveFunction  S = some (r, S')) : im_E l g ad 1 yX5_leaveFunction cX5_leaveFunction 1 none [.ref (ad 38)] S none S' := by
  unfold f_X5_leaveFunction at hm
  refine is_met (own := RX5) (by decide +kernel) rfl (Nat.le_of_ble_eq_true rfl) (fun p e s m below meth c X => ?_)
  refine iv_aload_n (pc := 0) X dX5_leaveFunction_0 rfl ?_
  refine gF_X5_28_38 (pc := 1) X dX5_leaveFunction_1 ?_
  refine gF_X5_242_67 (pc := 4) X dX5_leaveFunction_4 ?_
  refine iv_aload_n (pc := 7) X dX5_leaveFunction_7 rfl ?_
  refine gF_X5_147_38 (pc := 8) X dX5_leaveFunction_8 (x := S.1 38 12) rfl ?_
  obtain ⟨hg, hm⟩ := gd_some hm
  refine aL_69 (pc := 11) X dX5_leaveFunction_11 hg (x := (S.1 69) ((S.1 38 12).toNatClampNeg)) rfl ?_
  refine iv_iconst (pc := 12) X dX5_leaveFunction_12 ic_m1 ?_
  refine iv_icmp_ne (pc := 13) X dX5_leaveFunction_13 (tgt := 35) rfl (fun hb1 => ?_) (fun hb1 => ?_)
  · rw [if_pos hb1] at hm
    refine iv_aload_n (pc := 35) X dX5_leaveFunction_35 rfl ?_
    refine iv_aload_n (pc := 36) X dX5_leaveFunction_36 rfl ?_
    refine gF_X5_28_38 (pc := 37) X dX5_leaveFunction_37 ?_
    refine gF_X5_242_67 (pc := 40) X dX5_leaveFunction_40 ?_
    refine iv_aload_n (pc := 43) X dX5_leaveFunction_43 rfl ?_
    refine gF_X5_147_38 (pc := 44) X dX5_leaveFunction_44 (x := S.1 38 12) rfl ?_
    obtain ⟨hg, hm⟩ := gd_some hm
    refine aL_69 (pc := 47) X dX5_leaveFunction_47 hg (x := (S.1 69) ((S.1 38 12).toNatClampNeg)) rfl ?_
    refine iv_aload_n (pc := 48) X dX5_leaveFunction_48 rfl ?_
    refine gF_X5_28_38 (pc := 49) X dX5_leaveFunction_49 ?_
    refine gF_X5_245_67 (pc := 52) X dX5_leaveFunction_52 ?_
    refine iv_aload_n (pc := 55) X dX5_leaveFunction_55 rfl ?_
    refine gF_X5_147_38 (pc := 56) X dX5_leaveFunction_56 (x := S.1 38 12) rfl ?_
    obtain ⟨hg, hm⟩ := gd_some hm
    refine aL_70 (pc := 59) X dX5_leaveFunction_59 hg (x := (S.1 70) ((S.1 38 12).toNatClampNeg)) rfl ?_
    refine iv_aload_n (pc := 60) X dX5_leaveFunction_60 rfl ?_
    refine gF_X5_153_38 (pc := 61) X dX5_leaveFunction_61 (x := S.1 38 14) rfl ?_
    refine iv_aload_n (pc := 64) X dX5_leaveFunction_64 rfl ?_
    refine gF_X5_156_38 (pc := 65) X dX5_leaveFunction_65 (x := S.2.1 38 15) rfl ?_
    obtain ⟨⟨r3, S2⟩, hc4, hm⟩ := bd_some hm
    refine cV_X5_188_38 (pc := 68) X [.int ((S.1 69) ((S.1 38 12).toNatClampNeg)), .int ((S.1 70) ((S.1 38 12).toNatClampNeg)), .int (S.1 38 14), .long (S.2.1 38 15)] [] 4 rfl (f_X5_send_e l g ad ((S.1 69) ((S.1 38 12).toNatClampNeg)) ((S.1 70) ((S.1 38 12).toNatClampNeg)) (S.1 38 14) (S.2.1 38 15) S _ _ hc4) (by decide) (by decide) (Nat.le_of_ble_eq_true rfl) rfl dX5_leaveFunction_68 ?_
    cases hm
    exact is_vret (pc := 71) X dX5_leaveFunction_71
  · rw [if_neg hb1] at hm
    refine iv_aload_n (pc := 16) X dX5_leaveFunction_16 rfl ?_
    refine iv_aload_n (pc := 17) X dX5_leaveFunction_17 rfl ?_
    refine gF_X5_153_38 (pc := 18) X dX5_leaveFunction_18 (x := S.1 38 14) rfl ?_
    refine pF_X5_54_38 (pc := 21) X dX5_leaveFunction_21 ?_
    refine iv_aload_n (pc := 24) X dX5_leaveFunction_24 rfl ?_
    refine iv_aload_n (pc := 25) X dX5_leaveFunction_25 rfl ?_
    refine gF_X5_156_38 (pc := 26) X dX5_leaveFunction_26 (x := S.2.1 38 15) rfl ?_
    refine pF_X5_251_38 (pc := 29) X dX5_leaveFunction_29 ?_
    refine iv_goto (pc := 32) X dX5_leaveFunction_32 (tgt := 71) rfl ?_
    cases hm
    exact is_vret (pc := 71) X dX5_leaveFunction_71
def f_X5_turn (x1 : Int32) (x2 : Int32) (S : im_S) : Option (Unit × im_S) := gd (in_b x2 512) ((f_X5_slotOf x1 ((S.1 46) x2.toNatClampNeg) S).bind (fun qS1 => gd (in_b qS1.1 (qS1.2.2.2 66)) (gd (in_b qS1.1 (qS1.2.2.2 65)) (if ((qS1.2.1 65) qS1.1.toNatClampNeg : Int32) ≠ 4 then (gd (in_b x2 512) (if (lg_cmp ((qS1.2.2.1 55) x2.toNatClampNeg) 45 : Int32) ≠ 0 then ((f_X5_send x1 x2 2 (1 - ((qS1.2.2.1 66) qS1.1.toNatClampNeg)) qS1.2).bind (fun qS6 => some ((), qS6.2))) else ((f_X5_send x1 x2 1 (-((qS1.2.2.1 66) qS1.1.toNatClampNeg)) qS1.2).bind (fun qS9 => some ((), qS9.2))))) else ((f_X5_send x1 x2 4 ((qS1.2.2.1 66) qS1.1.toNatClampNeg) qS1.2).bind (fun qS12 => some ((), qS12.2)))))))
set_option maxHeartbeats 4000000 in
set_option maxRecDepth 100000 in
theorem f_X5_turn_e (l : Launch) (g : im_G) (ad : Nat → Nat) (x1 : Int32) (x2 : Int32) (S : im_S) (r : Unit) (S' : im_S) (hm : f_X5_turn x1 x2 S = some (r, S')) : im_E l g ad 1 yX5_turn cX5_turn 6 none [.ref (ad 38), .int x1, .int x2] S none S' := by
  unfold f_X5_turn at hm
  refine is_met (own := RX5) (by decide +kernel) rfl (Nat.le_of_ble_eq_true rfl) (fun p e s m below meth c X => ?_)
  refine iv_aload_n (pc := 0) X dX5_turn_0 rfl ?_
  refine iv_iload_n (pc := 1) X dX5_turn_1 rfl ?_
  refine iv_aload_n (pc := 2) X dX5_turn_2 rfl ?_
  refine gF_X5_12_38 (pc := 3) X dX5_turn_3 ?_
  refine gF_X5_201_40 (pc := 6) X dX5_turn_6 ?_
  refine iv_iload_n (pc := 9) X dX5_turn_9 rfl ?_
  obtain ⟨hg, hm⟩ := gd_some hm
  refine aL_46 (pc := 10) X dX5_turn_10 hg (x := (S.1 46) x2.toNatClampNeg) rfl ?_
  obtain ⟨⟨r2, S1⟩, hc3, hm⟩ := bd_some hm
  refine cV_X5_84_38 (pc := 11) X [.int x1, .int ((S.1 46) x2.toNatClampNeg)] [] 2 rfl (f_X5_slotOf_e l g ad x1 ((S.1 46) x2.toNatClampNeg) S _ _ hc3) (by decide) (by decide) (Nat.le_of_ble_eq_true rfl) rfl dX5_turn_11 ?_
  refine iv_istore_n (pc := 14) X dX5_turn_14 (by decide) (lv' := [(3, .int r2), (0, .ref (ad 38)), (1, .int x1), (2, .int x2)]) rfl ?_
  refine iv_aload_n (pc := 15) X dX5_turn_15 rfl ?_
  refine gF_X5_21_38 (pc := 16) X dX5_turn_16 ?_
  refine gF_X5_160_64 (pc := 19) X dX5_turn_19 ?_
  refine iv_iload_n (pc := 22) X dX5_turn_22 rfl ?_
  obtain ⟨hg, hm⟩ := gd_some hm
  refine aL_66 (pc := 23) X dX5_turn_23 hg (x := (S1.2.1 66) r2.toNatClampNeg) rfl ?_
  refine iv_lstore (pc := 24) X dX5_turn_24 (by decide) (lv' := [(4, .long ((S1.2.1 66) r2.toNatClampNeg)), (3, .int r2), (0, .ref (ad 38)), (1, .int x1), (2, .int x2)]) rfl ?_
  refine iv_aload_n (pc := 26) X dX5_turn_26 rfl ?_
  refine gF_X5_21_38 (pc := 27) X dX5_turn_27 ?_
  refine gF_X5_211_64 (pc := 30) X dX5_turn_30 ?_
  refine iv_iload_n (pc := 33) X dX5_turn_33 rfl ?_
  obtain ⟨hg, hm⟩ := gd_some hm
  refine aL_65 (pc := 34) X dX5_turn_34 hg (x := (S1.1 65) r2.toNatClampNeg) rfl ?_
  refine iv_iconst (pc := 35) X dX5_turn_35 ic_4 ?_
  refine iv_icmp_ne (pc := 36) X dX5_turn_36 (tgt := 51) rfl (fun hb4 => ?_) (fun hb4 => ?_)
  · rw [if_pos hb4] at hm
    refine iv_aload_n (pc := 51) X dX5_turn_51 rfl ?_
    refine gF_X5_12_38 (pc := 52) X dX5_turn_52 ?_
    refine gF_X5_185_40 (pc := 55) X dX5_turn_55 ?_
    refine iv_iload_n (pc := 58) X dX5_turn_58 rfl ?_
    obtain ⟨hg, hm⟩ := gd_some hm
    refine aL_55 (pc := 59) X dX5_turn_59 hg (x := (S1.2.1 55) x2.toNatClampNeg) rfl ?_
    refine iv_ldc2 (pc := 60) X wk_X5_291 dX5_turn_60 ?_
    refine iv_lcmp (pc := 63) X dX5_turn_63 ?_
    refine iv_if_ne (pc := 64) X dX5_turn_64 (tgt := 80) rfl (fun hb5 => ?_) (fun hb5 => ?_)
    · rw [if_pos hb5] at hm
      refine iv_aload_n (pc := 80) X dX5_turn_80 rfl ?_
      refine iv_iload_n (pc := 81) X dX5_turn_81 rfl ?_
      refine iv_iload_n (pc := 82) X dX5_turn_82 rfl ?_
      refine iv_iconst (pc := 83) X dX5_turn_83 ic_2 ?_
      refine iv_lconst (pc := 84) X dX5_turn_84 lc_1 ?_
      refine iv_lload (pc := 85) X dX5_turn_85 rfl ?_
      refine iv_lsub (pc := 87) X dX5_turn_87 ?_
      obtain ⟨⟨r7, S6⟩, hc8, hm⟩ := bd_some hm
      refine cV_X5_188_38 (pc := 88) X [.int x1, .int x2, .int 2, .long (1 - ((S1.2.1 66) r2.toNatClampNeg))] [] 4 rfl (f_X5_send_e l g ad x1 x2 2 (1 - ((S1.2.1 66) r2.toNatClampNeg)) S1 _ _ hc8) (by decide) (by decide) (Nat.le_of_ble_eq_true rfl) rfl dX5_turn_88 ?_
      cases hm
      exact is_vret (pc := 91) X dX5_turn_91
    · rw [if_neg hb5] at hm
      refine iv_aload_n (pc := 67) X dX5_turn_67 rfl ?_
      refine iv_iload_n (pc := 68) X dX5_turn_68 rfl ?_
      refine iv_iload_n (pc := 69) X dX5_turn_69 rfl ?_
      refine iv_iconst (pc := 70) X dX5_turn_70 ic_1 ?_
      refine iv_lload (pc := 71) X dX5_turn_71 rfl ?_
      refine iv_lneg (pc := 73) X dX5_turn_73 ?_
      obtain ⟨⟨r10, S9⟩, hc11, hm⟩ := bd_some hm
      refine cV_X5_188_38 (pc := 74) X [.int x1, .int x2, .int 1, .long (-((S1.2.1 66) r2.toNatClampNeg))] [] 4 rfl (f_X5_send_e l g ad x1 x2 1 (-((S1.2.1 66) r2.toNatClampNeg)) S1 _ _ hc11) (by decide) (by decide) (Nat.le_of_ble_eq_true rfl) rfl dX5_turn_74 ?_
      refine iv_goto (pc := 77) X dX5_turn_77 (tgt := 91) rfl ?_
      cases hm
      exact is_vret (pc := 91) X dX5_turn_91
  · rw [if_neg hb4] at hm
    refine iv_aload_n (pc := 39) X dX5_turn_39 rfl ?_
    refine iv_iload_n (pc := 40) X dX5_turn_40 rfl ?_
    refine iv_iload_n (pc := 41) X dX5_turn_41 rfl ?_
    refine iv_iconst (pc := 42) X dX5_turn_42 ic_4 ?_
    refine iv_lload (pc := 43) X dX5_turn_43 rfl ?_
    obtain ⟨⟨r13, S12⟩, hc14, hm⟩ := bd_some hm
    refine cV_X5_188_38 (pc := 45) X [.int x1, .int x2, .int 4, .long ((S1.2.1 66) r2.toNatClampNeg)] [] 4 rfl (f_X5_send_e l g ad x1 x2 4 ((S1.2.1 66) r2.toNatClampNeg) S1 _ _ hc14) (by decide) (by decide) (Nat.le_of_ble_eq_true rfl) rfl dX5_turn_45 ?_
    refine iv_goto (pc := 48) X dX5_turn_48 (tgt := 91) rfl ?_
    cases hm
    exact is_vret (pc := 91) X dX5_turn_91
def f_X5_leastError (x1 : Int32) (x2 : Int32) (S : im_S) : Option (Int64 × im_S) := gd (in_b x1 (S.2.2 65)) (if ((S.1 65) x1.toNatClampNeg : Int32) = 4 then (gd (in_b x2 (S.2.2 65)) (if ((S.1 65) x2.toNatClampNeg : Int32) = 4 then (gd (in_b x1 (S.2.2 66)) (gd (in_b x2 (S.2.2 66)) (some ((if ((S.2.1 66) x2.toNatClampNeg : Int64) < ((S.2.1 66) x1.toNatClampNeg) then ((S.2.1 66) x2.toNatClampNeg) else ((S.2.1 66) x1.toNatClampNeg)), S)))) else (gd (in_b x1 (S.2.2 66)) (some ((S.2.1 66) x1.toNatClampNeg, S))))) else (gd (in_b x2 (S.2.2 66)) (some ((S.2.1 66) x2.toNatClampNeg, S))))
set_option maxHeartbeats 4000000 in
set_option maxRecDepth 100000 in
theorem f_X5_leastError_e (l : Launch) (g : im_G) (ad : Nat → Nat) (x1 : Int32) (x2 : Int32) (S : im_S) (r : Int64) (S' : im_S) (hm : f_X5_leastError x1 x2 S = some (r, S')) : im_E l g ad 1 yX5_leastError cX5_leastError 3 (some Jvm.ClassFile.FieldType.long) [.ref (ad 38), .int x1, .int x2] S (some (.long r)) S' := by
  unfold f_X5_leastError at hm
  refine is_met (own := RX5) (by decide +kernel) rfl (Nat.le_of_ble_eq_true rfl) (fun p e s m below meth c X => ?_)
  refine iv_aload_n (pc := 0) X dX5_leastError_0 rfl ?_
  refine gF_X5_21_38 (pc := 1) X dX5_leastError_1 ?_
  refine gF_X5_211_64 (pc := 4) X dX5_leastError_4 ?_
  refine iv_iload_n (pc := 7) X dX5_leastError_7 rfl ?_
  obtain ⟨hg, hm⟩ := gd_some hm
  refine aL_65 (pc := 8) X dX5_leastError_8 hg (x := (S.1 65) x1.toNatClampNeg) rfl ?_
  refine iv_iconst (pc := 9) X dX5_leastError_9 ic_4 ?_
  refine iv_icmp_eq (pc := 10) X dX5_leastError_10 (tgt := 23) rfl (fun hb1 => ?_) (fun hb1 => ?_)
  · rw [if_pos hb1] at hm
    refine iv_aload_n (pc := 23) X dX5_leastError_23 rfl ?_
    refine gF_X5_21_38 (pc := 24) X dX5_leastError_24 ?_
    refine gF_X5_211_64 (pc := 27) X dX5_leastError_27 ?_
    refine iv_iload_n (pc := 30) X dX5_leastError_30 rfl ?_
    obtain ⟨hg, hm⟩ := gd_some hm
    refine aL_65 (pc := 31) X dX5_leastError_31 hg (x := (S.1 65) x2.toNatClampNeg) rfl ?_
    refine iv_iconst (pc := 32) X dX5_leastError_32 ic_4 ?_
    refine iv_icmp_eq (pc := 33) X dX5_leastError_33 (tgt := 46) rfl (fun hb2 => ?_) (fun hb2 => ?_)
    · rw [if_pos hb2] at hm
      refine iv_aload_n (pc := 46) X dX5_leastError_46 rfl ?_
      refine gF_X5_21_38 (pc := 47) X dX5_leastError_47 ?_
      refine gF_X5_160_64 (pc := 50) X dX5_leastError_50 ?_
      refine iv_iload_n (pc := 53) X dX5_leastError_53 rfl ?_
      obtain ⟨hg, hm⟩ := gd_some hm
      refine aL_66 (pc := 54) X dX5_leastError_54 hg (x := (S.2.1 66) x1.toNatClampNeg) rfl ?_
      refine iv_aload_n (pc := 55) X dX5_leastError_55 rfl ?_
      refine gF_X5_21_38 (pc := 56) X dX5_leastError_56 ?_
      refine gF_X5_160_64 (pc := 59) X dX5_leastError_59 ?_
      refine iv_iload_n (pc := 62) X dX5_leastError_62 rfl ?_
      obtain ⟨hg, hm⟩ := gd_some hm
      refine aL_66 (pc := 63) X dX5_leastError_63 hg (x := (S.2.1 66) x2.toNatClampNeg) rfl ?_
      refine iv_mminL (pc := 64) X wm_X5_301 (by decide) (Nat.le_of_ble_eq_true rfl) dX5_leastError_64 ?_
      cases hm
      exact is_lret (pc := 67) X dX5_leastError_67
    · rw [if_neg hb2] at hm
      refine iv_aload_n (pc := 36) X dX5_leastError_36 rfl ?_
      refine gF_X5_21_38 (pc := 37) X dX5_leastError_37 ?_
      refine gF_X5_160_64 (pc := 40) X dX5_leastError_40 ?_
      refine iv_iload_n (pc := 43) X dX5_leastError_43 rfl ?_
      obtain ⟨hg, hm⟩ := gd_some hm
      refine aL_66 (pc := 44) X dX5_leastError_44 hg (x := (S.2.1 66) x1.toNatClampNeg) rfl ?_
      cases hm
      exact is_lret (pc := 45) X dX5_leastError_45
  · rw [if_neg hb1] at hm
    refine iv_aload_n (pc := 13) X dX5_leastError_13 rfl ?_
    refine gF_X5_21_38 (pc := 14) X dX5_leastError_14 ?_
    refine gF_X5_160_64 (pc := 17) X dX5_leastError_17 ?_
    refine iv_iload_n (pc := 20) X dX5_leastError_20 rfl ?_
    obtain ⟨hg, hm⟩ := gd_some hm
    refine aL_66 (pc := 21) X dX5_leastError_21 hg (x := (S.2.1 66) x2.toNatClampNeg) rfl ?_
    cases hm
    exact is_lret (pc := 22) X dX5_leastError_22
def f_X5_calculate (x0 : Int32) (x1 : Int64) (x3 : Int64) (S : im_S) : Option (Int64 × im_S) := if x0 = (38 : Int32) then (some (x1 &&& x3, S)) else (if x0 = (42 : Int32) then (some (x1 * x3, S)) else (if x0 = (43 : Int32) then (some (x1 + x3, S)) else (if x0 = (45 : Int32) then (some (x1 - x3, S)) else (if x0 = (47 : Int32) then (if (lg_cmp x3 0 : Int32) ≠ 0 then (gd (nz_J x3) (some (x1 / x3, S))) else (some (0, S))) else (if x0 = (60 : Int32) then (if (0 : Int32) ≤ (lg_cmp x1 x3) then (some (0, S)) else (some (1, S))) else (if x0 = (61 : Int32) then (if (lg_cmp x1 x3 : Int32) ≠ 0 then (some (0, S)) else (some (1, S))) else (if x0 = (124 : Int32) then (some (x1 ||| x3, S)) else (if (lg_cmp x3 0 : Int32) ≠ 0 then (gd (nz_J x3) (some (x1 - x1 / x3 * x3, S))) else (some (0, S))))))))))
set_option maxHeartbeats 4000000 in
set_option maxRecDepth 100000 in
theorem f_X5_calculate_e (l : Launch) (g : im_G) (ad : Nat → Nat) (x0 : Int32) (x1 : Int64) (x3 : Int64) (S : im_S) (r : Int64) (S' : im_S) (hm : f_X5_calculate x0 x1 x3 S = some (r, S')) : im_E l g ad 0 yX5_calculate cX5_calculate 5 (some Jvm.ClassFile.FieldType.long) [.int x0, .long x1, .long x3] S (some (.long r)) S' := by
  unfold f_X5_calculate at hm
  refine is_met (own := RX5) (by decide +kernel) rfl (Nat.le_of_ble_eq_true rfl) (fun p e s m below meth c X => ?_)
  refine iv_iload_n (pc := 0) X dX5_calculate_0 rfl ?_
  by_cases hb1 : x0 = (38 : Int32)
  · rw [if_pos hb1] at hm
    refine iv_lookup X dX5_calculate_1 (off := 79) (tgt := 80) (by decide) (by rw [hb1]; decide) (by decide) ?_
    refine iv_lload_n (pc := 80) X dX5_calculate_80 rfl ?_
    refine iv_lload_n (pc := 81) X dX5_calculate_81 rfl ?_
    refine iv_land (pc := 82) X dX5_calculate_82 ?_
    cases hm
    exact is_lret (pc := 83) X dX5_calculate_83
  · rw [if_neg hb1] at hm
    by_cases hb2 : x0 = (42 : Int32)
    · rw [if_pos hb2] at hm
      refine iv_lookup X dX5_calculate_1 (off := 115) (tgt := 116) (by decide) (by rw [hb2]; decide) (by decide) ?_
      refine iv_lload_n (pc := 116) X dX5_calculate_116 rfl ?_
      refine iv_lload_n (pc := 117) X dX5_calculate_117 rfl ?_
      refine iv_lmul (pc := 118) X dX5_calculate_118 ?_
      cases hm
      exact is_lret (pc := 119) X dX5_calculate_119
    · rw [if_neg hb2] at hm
      by_cases hb3 : x0 = (43 : Int32)
      · rw [if_pos hb3] at hm
        refine iv_lookup X dX5_calculate_1 (off := 107) (tgt := 108) (by decide) (by rw [hb3]; decide) (by decide) ?_
        refine iv_lload_n (pc := 108) X dX5_calculate_108 rfl ?_
        refine iv_lload_n (pc := 109) X dX5_calculate_109 rfl ?_
        refine iv_ladd (pc := 110) X dX5_calculate_110 ?_
        cases hm
        exact is_lret (pc := 111) X dX5_calculate_111
      · rw [if_neg hb3] at hm
        by_cases hb4 : x0 = (45 : Int32)
        · rw [if_pos hb4] at hm
          refine iv_lookup X dX5_calculate_1 (off := 111) (tgt := 112) (by decide) (by rw [hb4]; decide) (by decide) ?_
          refine iv_lload_n (pc := 112) X dX5_calculate_112 rfl ?_
          refine iv_lload_n (pc := 113) X dX5_calculate_113 rfl ?_
          refine iv_lsub (pc := 114) X dX5_calculate_114 ?_
          cases hm
          exact is_lret (pc := 115) X dX5_calculate_115
        · rw [if_neg hb4] at hm
          by_cases hb5 : x0 = (47 : Int32)
          · rw [if_pos hb5] at hm
            refine iv_lookup X dX5_calculate_1 (off := 119) (tgt := 120) (by decide) (by rw [hb5]; decide) (by decide) ?_
            refine iv_lload_n (pc := 120) X dX5_calculate_120 rfl ?_
            refine iv_lconst (pc := 121) X dX5_calculate_121 lc_0 ?_
            refine iv_lcmp (pc := 122) X dX5_calculate_122 ?_
            refine iv_if_ne (pc := 123) X dX5_calculate_123 (tgt := 130) rfl (fun hb6 => ?_) (fun hb6 => ?_)
            · rw [if_pos hb6] at hm
              refine iv_lload_n (pc := 130) X dX5_calculate_130 rfl ?_
              refine iv_lload_n (pc := 131) X dX5_calculate_131 rfl ?_
              obtain ⟨hg, hm⟩ := gd_some hm
              refine iv_ldiv (pc := 132) X dX5_calculate_132 (of_decide_eq_true hg) ?_
              cases hm
              exact is_lret (pc := 133) X dX5_calculate_133
            · rw [if_neg hb6] at hm
              refine iv_lconst (pc := 126) X dX5_calculate_126 lc_0 ?_
              refine iv_goto (pc := 127) X dX5_calculate_127 (tgt := 133) rfl ?_
              cases hm
              exact is_lret (pc := 133) X dX5_calculate_133
          · rw [if_neg hb5] at hm
            by_cases hb7 : x0 = (60 : Int32)
            · rw [if_pos hb7] at hm
              refine iv_lookup X dX5_calculate_1 (off := 95) (tgt := 96) (by decide) (by rw [hb7]; decide) (by decide) ?_
              refine iv_lload_n (pc := 96) X dX5_calculate_96 rfl ?_
              refine iv_lload_n (pc := 97) X dX5_calculate_97 rfl ?_
              refine iv_lcmp (pc := 98) X dX5_calculate_98 ?_
              refine iv_if_ge (pc := 99) X dX5_calculate_99 (tgt := 106) rfl (fun hb8 => ?_) (fun hb8 => ?_)
              · rw [if_pos hb8] at hm
                refine iv_lconst (pc := 106) X dX5_calculate_106 lc_0 ?_
                cases hm
                exact is_lret (pc := 107) X dX5_calculate_107
              · rw [if_neg hb8] at hm
                refine iv_lconst (pc := 102) X dX5_calculate_102 lc_1 ?_
                refine iv_goto (pc := 103) X dX5_calculate_103 (tgt := 107) rfl ?_
                cases hm
                exact is_lret (pc := 107) X dX5_calculate_107
            · rw [if_neg hb7] at hm
              by_cases hb9 : x0 = (61 : Int32)
              · rw [if_pos hb9] at hm
                refine iv_lookup X dX5_calculate_1 (off := 83) (tgt := 84) (by decide) (by rw [hb9]; decide) (by decide) ?_
                refine iv_lload_n (pc := 84) X dX5_calculate_84 rfl ?_
                refine iv_lload_n (pc := 85) X dX5_calculate_85 rfl ?_
                refine iv_lcmp (pc := 86) X dX5_calculate_86 ?_
                refine iv_if_ne (pc := 87) X dX5_calculate_87 (tgt := 94) rfl (fun hb10 => ?_) (fun hb10 => ?_)
                · rw [if_pos hb10] at hm
                  refine iv_lconst (pc := 94) X dX5_calculate_94 lc_0 ?_
                  cases hm
                  exact is_lret (pc := 95) X dX5_calculate_95
                · rw [if_neg hb10] at hm
                  refine iv_lconst (pc := 90) X dX5_calculate_90 lc_1 ?_
                  refine iv_goto (pc := 91) X dX5_calculate_91 (tgt := 95) rfl ?_
                  cases hm
                  exact is_lret (pc := 95) X dX5_calculate_95
              · rw [if_neg hb9] at hm
                by_cases hb11 : x0 = (124 : Int32)
                · rw [if_pos hb11] at hm
                  refine iv_lookup X dX5_calculate_1 (off := 75) (tgt := 76) (by decide) (by rw [hb11]; decide) (by decide) ?_
                  refine iv_lload_n (pc := 76) X dX5_calculate_76 rfl ?_
                  refine iv_lload_n (pc := 77) X dX5_calculate_77 rfl ?_
                  refine iv_lor (pc := 78) X dX5_calculate_78 ?_
                  cases hm
                  exact is_lret (pc := 79) X dX5_calculate_79
                · rw [if_neg hb11] at hm
                  have k0 := sw_ne hb1 (n := 38) (by decide)
                  have k1 := sw_ne hb2 (n := 42) (by decide)
                  have k2 := sw_ne hb3 (n := 43) (by decide)
                  have k3 := sw_ne hb4 (n := 45) (by decide)
                  have k4 := sw_ne hb5 (n := 47) (by decide)
                  have k5 := sw_ne hb7 (n := 60) (by decide)
                  have k6 := sw_ne hb9 (n := 61) (by decide)
                  have k7 := sw_ne hb11 (n := 124) (by decide)
                  refine iv_lookup X dX5_calculate_1 (off := 133) (tgt := 134) (by decide) (by simp [Op.lookupswitch.offset, k0, k0.symm, k1, k1.symm, k2, k2.symm, k3, k3.symm, k4, k4.symm, k5, k5.symm, k6, k6.symm, k7, k7.symm]) (by decide) ?_
                  refine iv_lload_n (pc := 134) X dX5_calculate_134 rfl ?_
                  refine iv_lconst (pc := 135) X dX5_calculate_135 lc_0 ?_
                  refine iv_lcmp (pc := 136) X dX5_calculate_136 ?_
                  refine iv_if_ne (pc := 137) X dX5_calculate_137 (tgt := 144) rfl (fun hb12 => ?_) (fun hb12 => ?_)
                  · rw [if_pos hb12] at hm
                    refine iv_lload_n (pc := 144) X dX5_calculate_144 rfl ?_
                    refine iv_lload_n (pc := 145) X dX5_calculate_145 rfl ?_
                    obtain ⟨hg, hm⟩ := gd_some hm
                    refine iv_lrem (pc := 146) X dX5_calculate_146 (of_decide_eq_true hg) ?_
                    cases hm
                    exact is_lret (pc := 147) X dX5_calculate_147
                  · rw [if_neg hb12] at hm
                    refine iv_lconst (pc := 140) X dX5_calculate_140 lc_0 ?_
                    refine iv_goto (pc := 141) X dX5_calculate_141 (tgt := 147) rfl ?_
                    cases hm
                    exact is_lret (pc := 147) X dX5_calculate_147
def f_X5_settle_L15 (fu : Nat) : Nat → Int32 → Int32 → Int64 → Int32 → Int32 → im_S → Option (Unit × im_S)
  | 0, _, _, _, _, _, _ => none
  | nf + 1, z1, z2, z3, z5, z6, S => if (16777216 : Int32) ≤ z6 then ((f_X8_put z1 z2 z3 S).bind (fun qS2 => some ((), qS2.2))) else (if (z5 : Int32) = 0 then ((f_X8_put z1 z2 z3 S).bind (fun qS6 => some ((), qS6.2))) else (gd (in_b z5 (S.2.2 74)) (gd (in_b z5 (S.2.2 74)) (f_X5_settle_L15 fu nf z1 z2 z3 ((S.1 74) z5.toNatClampNeg) (z6 + 1) (uI (uI S 74 z5.toNatClampNeg (S.1 38 10)) 38 10 z5)))))
set_option maxHeartbeats 4000000 in
set_option maxRecDepth 100000 in
theorem f_X5_settle_L15_w {fu : Nat} (l : Launch) (g : im_G) (ad : Nat → Nat) {p : Program} {e : Env} {s : State} {m : MethodId} {below : List Frame} {meth : Method} {c : Code} {args : Array Value} (X : im_X p l s m args meth c g cX5_settle 8 RX5 none) : ∀ (nf : Nat) (z1 : Int32) (z2 : Int32) (z3 : Int64) (z5 : Int32) (z6 : Int32) (S : im_S) (r : Unit) (S' : im_S), f_X5_settle_L15 fu nf z1 z2 z3 z5 z6 S = some (r, S') → im_V p l e (im_R 1 0 0) s m args below meth c g 8 (im_Z below g ad args s none S') ad im_N (im_cn g ad S) 0 0 15 [(0, .ref (ad 38)), (1, .int z1), (2, .int z2), (3, .long z3), (5, .int z5), (6, .int z6)] [] := by
  intro nf
  induction nf with
  | zero =>
    intro z1 z2 z3 z5 z6 S r S' hm
    cases hm
  | succ nf ih =>
    intro z1 z2 z3 z5 z6 S r S' hm
    unfold f_X5_settle_L15 at hm
    refine iv_iload (pc := 15) X dX5_settle_15 rfl ?_
    refine iv_ldc (pc := 17) X wk_X5_163 dX5_settle_17 ?_
    refine iv_icmp_ge (pc := 19) X dX5_settle_19 (tgt := 69) rfl (fun hb1 => ?_) (fun hb1 => ?_)
    · rw [if_pos hb1] at hm
      refine iv_aload_n (pc := 69) X dX5_settle_69 rfl ?_
      refine gF_X5_21_38 (pc := 70) X dX5_settle_70 ?_
      refine iv_iload_n (pc := 73) X dX5_settle_73 rfl ?_
      refine iv_iload_n (pc := 74) X dX5_settle_74 rfl ?_
      refine iv_lload_n (pc := 75) X dX5_settle_75 rfl ?_
      obtain ⟨⟨r3, S2⟩, hc4, hm⟩ := bd_some hm
      refine cV_X5_88_64 (pc := 76) X [.int z1, .int z2, .long z3] [] 3 rfl (f_X8_put_e l g ad z1 z2 z3 S _ _ hc4) (by decide) (by decide) (Nat.le_of_ble_eq_true rfl) rfl dX5_settle_76 ?_
      cases hm
      exact is_vret (pc := 79) X dX5_settle_79
    · rw [if_neg hb1] at hm
      refine iv_iload (pc := 22) X dX5_settle_22 rfl ?_
      refine iv_if_eq (pc := 24) X dX5_settle_24 (tgt := 69) rfl (fun hb5 => ?_) (fun hb5 => ?_)
      · rw [if_pos hb5] at hm
        refine iv_aload_n (pc := 69) X dX5_settle_69 rfl ?_
        refine gF_X5_21_38 (pc := 70) X dX5_settle_70 ?_
        refine iv_iload_n (pc := 73) X dX5_settle_73 rfl ?_
        refine iv_iload_n (pc := 74) X dX5_settle_74 rfl ?_
        refine iv_lload_n (pc := 75) X dX5_settle_75 rfl ?_
        obtain ⟨⟨r7, S6⟩, hc8, hm⟩ := bd_some hm
        refine cV_X5_88_64 (pc := 76) X [.int z1, .int z2, .long z3] [] 3 rfl (f_X8_put_e l g ad z1 z2 z3 S _ _ hc8) (by decide) (by decide) (Nat.le_of_ble_eq_true rfl) rfl dX5_settle_76 ?_
        cases hm
        exact is_vret (pc := 79) X dX5_settle_79
      · rw [if_neg hb5] at hm
        refine iv_aload_n (pc := 27) X dX5_settle_27 rfl ?_
        refine gF_X5_35_38 (pc := 28) X dX5_settle_28 ?_
        refine gF_X5_164_72 (pc := 31) X dX5_settle_31 ?_
        refine iv_iload (pc := 34) X dX5_settle_34 rfl ?_
        obtain ⟨hg, hm⟩ := gd_some hm
        refine aL_74 (pc := 36) X dX5_settle_36 hg (x := (S.1 74) z5.toNatClampNeg) rfl ?_
        refine iv_istore (pc := 37) X dX5_settle_37 (by decide) (lv' := [(7, .int ((S.1 74) z5.toNatClampNeg)), (0, .ref (ad 38)), (1, .int z1), (2, .int z2), (3, .long z3), (5, .int z5), (6, .int z6)]) rfl ?_
        refine iv_aload_n (pc := 39) X dX5_settle_39 rfl ?_
        refine gF_X5_35_38 (pc := 40) X dX5_settle_40 ?_
        refine gF_X5_164_72 (pc := 43) X dX5_settle_43 ?_
        refine iv_iload (pc := 46) X dX5_settle_46 rfl ?_
        refine iv_aload_n (pc := 48) X dX5_settle_48 rfl ?_
        refine gF_X5_57_38 (pc := 49) X dX5_settle_49 (x := S.1 38 10) rfl ?_
        obtain ⟨hg, hm⟩ := gd_some hm
        refine aS_74 (pc := 52) X dX5_settle_52 hg ?_
        refine iv_aload_n (pc := 53) X dX5_settle_53 rfl ?_
        refine iv_iload (pc := 54) X dX5_settle_54 rfl ?_
        refine pF_X5_57_38 (pc := 56) X dX5_settle_56 ?_
        refine iv_iload (pc := 59) X dX5_settle_59 rfl ?_
        refine iv_istore (pc := 61) X dX5_settle_61 (by decide) (lv' := [(5, .int ((S.1 74) z5.toNatClampNeg)), (7, .int ((S.1 74) z5.toNatClampNeg)), (0, .ref (ad 38)), (1, .int z1), (2, .int z2), (3, .long z3), (6, .int z6)]) rfl ?_
        refine iv_iinc (pc := 63) X dX5_settle_63 rfl (by decide) (v := z6 + 1) rfl (lv' := [(6, .int (z6 + 1)), (5, .int ((S.1 74) z5.toNatClampNeg)), (7, .int ((S.1 74) z5.toNatClampNeg)), (0, .ref (ad 38)), (1, .int z1), (2, .int z2), (3, .long z3)]) rfl ?_
        refine iv_goto (pc := 66) X dX5_settle_66 (tgt := 15) rfl ?_
        refine iv_sub [3, 4, 5, 6, 1, 0] (lv2 := [(0, .ref (ad 38)), (1, .int z1), (2, .int z2), (3, .long z3), (5, .int ((S.1 74) z5.toNatClampNeg)), (6, .int (z6 + 1))]) rfl ?_
        exact ih z1 z2 z3 ((S.1 74) z5.toNatClampNeg) (z6 + 1) (uI (uI S 74 z5.toNatClampNeg (S.1 38 10)) 38 10 z5) _ _ hm
def f_X5_settle (fu : Nat) (x1 : Int32) (x2 : Int32) (x3 : Int64) (S : im_S) : Option (Unit × im_S) := gd (in_b x1 (S.2.2 66)) (f_X5_settle_L15 fu fu x1 x2 x3 (((S.2.1 66) x1.toNatClampNeg).toInt32) 0 S)
set_option maxHeartbeats 4000000 in
set_option maxRecDepth 100000 in
theorem f_X5_settle_e (l : Launch) (g : im_G) (ad : Nat → Nat) (fu : Nat) (x1 : Int32) (x2 : Int32) (x3 : Int64) (S : im_S) (r : Unit) (S' : im_S) (hm : f_X5_settle fu x1 x2 x3 S = some (r, S')) : im_E l g ad 1 yX5_settle cX5_settle 8 none [.ref (ad 38), .int x1, .int x2, .long x3] S none S' := by
  unfold f_X5_settle at hm
  refine is_met (own := RX5) (by decide +kernel) rfl (Nat.le_of_ble_eq_true rfl) (fun p e s m below meth c X => ?_)
  refine iv_aload_n (pc := 0) X dX5_settle_0 rfl ?_
  refine gF_X5_21_38 (pc := 1) X dX5_settle_1 ?_
  refine gF_X5_160_64 (pc := 4) X dX5_settle_4 ?_
  refine iv_iload_n (pc := 7) X dX5_settle_7 rfl ?_
  obtain ⟨hg, hm⟩ := gd_some hm
  refine aL_66 (pc := 8) X dX5_settle_8 hg (x := (S.2.1 66) x1.toNatClampNeg) rfl ?_
  refine iv_l2i (pc := 9) X dX5_settle_9 rfl ?_
  refine iv_istore (pc := 10) X dX5_settle_10 (by decide) (lv' := [(5, .int (((S.2.1 66) x1.toNatClampNeg).toInt32)), (0, .ref (ad 38)), (1, .int x1), (2, .int x2), (3, .long x3)]) rfl ?_
  refine iv_iconst (pc := 12) X dX5_settle_12 ic_0 ?_
  refine iv_istore (pc := 13) X dX5_settle_13 (by decide) (lv' := [(6, .int 0), (5, .int (((S.2.1 66) x1.toNatClampNeg).toInt32)), (0, .ref (ad 38)), (1, .int x1), (2, .int x2), (3, .long x3)]) rfl ?_
  refine iv_sub [2, 3, 4, 5, 1, 0] (lv2 := [(0, .ref (ad 38)), (1, .int x1), (2, .int x2), (3, .long x3), (5, .int (((S.2.1 66) x1.toNatClampNeg).toInt32)), (6, .int 0)]) rfl ?_
  exact f_X5_settle_L15_w (fu := fu) l g ad X fu x1 x2 x3 (((S.2.1 66) x1.toNatClampNeg).toInt32) 0 S _ _ hm
def f_X5_handIn (fu : Nat) (x1 : Int32) (x2 : Int32) (x3 : Int32) (S : im_S) : Option (Unit × im_S) := (f_X5_slotOf x1 x2 S).bind (fun qS1 => gd (in_b qS1.1 (qS1.2.2.2 65)) (if ((qS1.2.1 65) qS1.1.toNatClampNeg : Int32) = 0 then (some ((), qS1.2)) else (gd (in_b x2 512) ((f_X5_slotOf x3 ((qS1.2.1 45) x2.toNatClampNeg) qS1.2).bind (fun qS5 => gd (in_b qS1.1 (qS5.2.2.2 65)) (gd (in_b qS1.1 (qS5.2.2.2 66)) ((f_X5_settle fu qS5.1 ((qS5.2.1 65) qS1.1.toNatClampNeg) ((qS5.2.2.1 66) qS1.1.toNatClampNeg) qS5.2).bind (fun qS8 => some ((), qS8.2)))))))))
set_option maxHeartbeats 4000000 in
set_option maxRecDepth 100000 in
theorem f_X5_handIn_e (l : Launch) (g : im_G) (ad : Nat → Nat) (fu : Nat) (x1 : Int32) (x2 : Int32) (x3 : Int32) (S : im_S) (r : Unit) (S' : im_S) (hm : f_X5_handIn fu x1 x2 x3 S = some (r, S')) : im_E l g ad 2 yX5_handIn cX5_handIn 5 none [.ref (ad 38), .int x1, .int x2, .int x3] S none S' := by
  unfold f_X5_handIn at hm
  refine is_met (own := RX5) (by decide +kernel) rfl (Nat.le_of_ble_eq_true rfl) (fun p e s m below meth c X => ?_)
  refine iv_aload_n (pc := 0) X dX5_handIn_0 rfl ?_
  refine iv_iload_n (pc := 1) X dX5_handIn_1 rfl ?_
  refine iv_iload_n (pc := 2) X dX5_handIn_2 rfl ?_
  obtain ⟨⟨r2, S1⟩, hc3, hm⟩ := bd_some hm
  refine cV_X5_84_38 (pc := 3) X [.int x1, .int x2] [] 2 rfl (f_X5_slotOf_e l g ad x1 x2 S _ _ hc3) (by decide) (by decide) (Nat.le_of_ble_eq_true rfl) rfl dX5_handIn_3 ?_
  refine iv_istore (pc := 6) X dX5_handIn_6 (by decide) (lv' := [(4, .int r2), (0, .ref (ad 38)), (1, .int x1), (2, .int x2), (3, .int x3)]) rfl ?_
  refine iv_aload_n (pc := 8) X dX5_handIn_8 rfl ?_
  refine gF_X5_21_38 (pc := 9) X dX5_handIn_9 ?_
  refine gF_X5_211_64 (pc := 12) X dX5_handIn_12 ?_
  refine iv_iload (pc := 15) X dX5_handIn_15 rfl ?_
  obtain ⟨hg, hm⟩ := gd_some hm
  refine aL_65 (pc := 17) X dX5_handIn_17 hg (x := (S1.1 65) r2.toNatClampNeg) rfl ?_
  refine iv_if_eq (pc := 18) X dX5_handIn_18 (tgt := 59) rfl (fun hb4 => ?_) (fun hb4 => ?_)
  · rw [if_pos hb4] at hm
    cases hm
    exact is_vret (pc := 59) X dX5_handIn_59
  · rw [if_neg hb4] at hm
    refine iv_aload_n (pc := 21) X dX5_handIn_21 rfl ?_
    refine iv_aload_n (pc := 22) X dX5_handIn_22 rfl ?_
    refine iv_iload_n (pc := 23) X dX5_handIn_23 rfl ?_
    refine iv_aload_n (pc := 24) X dX5_handIn_24 rfl ?_
    refine gF_X5_12_38 (pc := 25) X dX5_handIn_25 ?_
    refine gF_X5_227_40 (pc := 28) X dX5_handIn_28 ?_
    refine iv_iload_n (pc := 31) X dX5_handIn_31 rfl ?_
    obtain ⟨hg, hm⟩ := gd_some hm
    refine aL_45 (pc := 32) X dX5_handIn_32 hg (x := (S1.1 45) x2.toNatClampNeg) rfl ?_
    obtain ⟨⟨r6, S5⟩, hc7, hm⟩ := bd_some hm
    refine cV_X5_84_38 (pc := 33) X [.int x3, .int ((S1.1 45) x2.toNatClampNeg)] [.ref (ad 38)] 2 rfl (f_X5_slotOf_e l g ad x3 ((S1.1 45) x2.toNatClampNeg) S1 _ _ hc7) (by decide) (by decide) (Nat.le_of_ble_eq_true rfl) rfl dX5_handIn_33 ?_
    refine iv_aload_n (pc := 36) X dX5_handIn_36 rfl ?_
    refine gF_X5_21_38 (pc := 37) X dX5_handIn_37 ?_
    refine gF_X5_211_64 (pc := 40) X dX5_handIn_40 ?_
    refine iv_iload (pc := 43) X dX5_handIn_43 rfl ?_
    obtain ⟨hg, hm⟩ := gd_some hm
    refine aL_65 (pc := 45) X dX5_handIn_45 hg (x := (S5.1 65) r2.toNatClampNeg) rfl ?_
    refine iv_aload_n (pc := 46) X dX5_handIn_46 rfl ?_
    refine gF_X5_21_38 (pc := 47) X dX5_handIn_47 ?_
    refine gF_X5_160_64 (pc := 50) X dX5_handIn_50 ?_
    refine iv_iload (pc := 53) X dX5_handIn_53 rfl ?_
    obtain ⟨hg, hm⟩ := gd_some hm
    refine aL_66 (pc := 55) X dX5_handIn_55 hg (x := (S5.2.1 66) r2.toNatClampNeg) rfl ?_
    obtain ⟨⟨r9, S8⟩, hc10, hm⟩ := bd_some hm
    refine cV_X5_230_38 (pc := 56) X [.int r6, .int ((S5.1 65) r2.toNatClampNeg), .long ((S5.2.1 66) r2.toNatClampNeg)] [] 3 rfl (f_X5_settle_e l g ad fu r6 ((S5.1 65) r2.toNatClampNeg) ((S5.2.1 66) r2.toNatClampNeg) S5 _ _ hc10) (by decide) (by decide) (Nat.le_of_ble_eq_true rfl) rfl dX5_handIn_56 ?_
    cases hm
    exact is_vret (pc := 59) X dX5_handIn_59
def f_X5_cellAt (x1 : Int32) (x2 : Int32) (S : im_S) : Option (Int32 × im_S) := gd (in_b x2 (S.2.2 66)) (gd (in_b x1 (S.2.2 65)) (if ((S.1 65) x1.toNatClampNeg : Int32) = 4 then (some ((-1), S)) else (gd (in_b x2 (S.2.2 65)) (if ((S.1 65) x2.toNatClampNeg : Int32) ≠ 4 then (if (lg_cmp ((S.2.1 66) x2.toNatClampNeg) 0 : Int32) < 0 then (some ((-1), S)) else (gd (in_b x1 (S.2.2 66)) ((f_X8_cellsIn ((S.2.1 66) x1.toNatClampNeg) S).bind (fun qS6 => if (lg_cmp ((S.2.1 66) x2.toNatClampNeg) qS6.1.toInt64 : Int32) < 0 then (gd (in_b x1 (qS6.2.2.2 66)) ((f_X8_firstCell ((qS6.2.2.1 66) x1.toNatClampNeg) qS6.2).bind (fun qS10 => some (qS10.1 + (((S.2.1 66) x2.toNatClampNeg).toInt32), qS10.2)))) else (some ((-1), qS6.2)))))) else (some ((-1), S))))))
set_option maxHeartbeats 4000000 in
set_option maxRecDepth 100000 in
theorem f_X5_cellAt_e (l : Launch) (g : im_G) (ad : Nat → Nat) (x1 : Int32) (x2 : Int32) (S : im_S) (r : Int32) (S' : im_S) (hm : f_X5_cellAt x1 x2 S = some (r, S')) : im_E l g ad 1 yX5_cellAt cX5_cellAt 6 (some Jvm.ClassFile.FieldType.int) [.ref (ad 38), .int x1, .int x2] S (some (.int r)) S' := by
  unfold f_X5_cellAt at hm
  refine is_met (own := RX5) (by decide +kernel) rfl (Nat.le_of_ble_eq_true rfl) (fun p e s m below meth c X => ?_)
  refine iv_aload_n (pc := 0) X dX5_cellAt_0 rfl ?_
  refine gF_X5_21_38 (pc := 1) X dX5_cellAt_1 ?_
  refine gF_X5_160_64 (pc := 4) X dX5_cellAt_4 ?_
  refine iv_iload_n (pc := 7) X dX5_cellAt_7 rfl ?_
  obtain ⟨hg, hm⟩ := gd_some hm
  refine aL_66 (pc := 8) X dX5_cellAt_8 hg (x := (S.2.1 66) x2.toNatClampNeg) rfl ?_
  refine iv_lstore_n (pc := 9) X dX5_cellAt_9 (by decide) (lv' := [(3, .long ((S.2.1 66) x2.toNatClampNeg)), (0, .ref (ad 38)), (1, .int x1), (2, .int x2)]) rfl ?_
  refine iv_aload_n (pc := 10) X dX5_cellAt_10 rfl ?_
  refine gF_X5_21_38 (pc := 11) X dX5_cellAt_11 ?_
  refine gF_X5_211_64 (pc := 14) X dX5_cellAt_14 ?_
  refine iv_iload_n (pc := 17) X dX5_cellAt_17 rfl ?_
  obtain ⟨hg, hm⟩ := gd_some hm
  refine aL_65 (pc := 18) X dX5_cellAt_18 hg (x := (S.1 65) x1.toNatClampNeg) rfl ?_
  refine iv_iconst (pc := 19) X dX5_cellAt_19 ic_4 ?_
  refine iv_icmp_eq (pc := 20) X dX5_cellAt_20 (tgt := 36) rfl (fun hb1 => ?_) (fun hb1 => ?_)
  · rw [if_pos hb1] at hm
    refine iv_iconst (pc := 36) X dX5_cellAt_36 ic_1 ?_
    refine iv_goto (pc := 37) X dX5_cellAt_37 (tgt := 41) rfl ?_
    refine iv_istore (pc := 41) X dX5_cellAt_41 (by decide) (lv' := [(5, .int 1), (3, .long ((S.2.1 66) x2.toNatClampNeg)), (0, .ref (ad 38)), (1, .int x1), (2, .int x2)]) rfl ?_
    refine iv_iload (pc := 43) X dX5_cellAt_43 rfl ?_
    refine iv_if_ne (pc := 45) X dX5_cellAt_45 (tgt := 72) rfl (fun _ => ?_) (fun hb => absurd (by decide) hb)
    refine iv_iconst (pc := 72) X dX5_cellAt_72 ic_m1 ?_
    cases hm
    exact is_iret (pc := 73) X dX5_cellAt_73
  · rw [if_neg hb1] at hm
    refine iv_aload_n (pc := 23) X dX5_cellAt_23 rfl ?_
    refine gF_X5_21_38 (pc := 24) X dX5_cellAt_24 ?_
    refine gF_X5_211_64 (pc := 27) X dX5_cellAt_27 ?_
    refine iv_iload_n (pc := 30) X dX5_cellAt_30 rfl ?_
    obtain ⟨hg, hm⟩ := gd_some hm
    refine aL_65 (pc := 31) X dX5_cellAt_31 hg (x := (S.1 65) x2.toNatClampNeg) rfl ?_
    refine iv_iconst (pc := 32) X dX5_cellAt_32 ic_4 ?_
    refine iv_icmp_ne (pc := 33) X dX5_cellAt_33 (tgt := 40) rfl (fun hb3 => ?_) (fun hb3 => ?_)
    · rw [if_pos hb3] at hm
      refine iv_iconst (pc := 40) X dX5_cellAt_40 ic_0 ?_
      refine iv_istore (pc := 41) X dX5_cellAt_41 (by decide) (lv' := [(5, .int 0), (3, .long ((S.2.1 66) x2.toNatClampNeg)), (0, .ref (ad 38)), (1, .int x1), (2, .int x2)]) rfl ?_
      refine iv_iload (pc := 43) X dX5_cellAt_43 rfl ?_
      refine iv_if_ne (pc := 45) X dX5_cellAt_45 (tgt := 72) rfl (fun hb => absurd hb (by decide)) (fun _ => ?_)
      refine iv_lload_n (pc := 48) X dX5_cellAt_48 rfl ?_
      refine iv_lconst (pc := 49) X dX5_cellAt_49 lc_0 ?_
      refine iv_lcmp (pc := 50) X dX5_cellAt_50 ?_
      refine iv_if_lt (pc := 51) X dX5_cellAt_51 (tgt := 72) rfl (fun hb5 => ?_) (fun hb5 => ?_)
      · rw [if_pos hb5] at hm
        refine iv_iconst (pc := 72) X dX5_cellAt_72 ic_m1 ?_
        cases hm
        exact is_iret (pc := 73) X dX5_cellAt_73
      · rw [if_neg hb5] at hm
        refine iv_lload_n (pc := 54) X dX5_cellAt_54 rfl ?_
        refine iv_aload_n (pc := 55) X dX5_cellAt_55 rfl ?_
        refine gF_X5_21_38 (pc := 56) X dX5_cellAt_56 ?_
        refine gF_X5_160_64 (pc := 59) X dX5_cellAt_59 ?_
        refine iv_iload_n (pc := 62) X dX5_cellAt_62 rfl ?_
        obtain ⟨hg, hm⟩ := gd_some hm
        refine aL_66 (pc := 63) X dX5_cellAt_63 hg (x := (S.2.1 66) x1.toNatClampNeg) rfl ?_
        obtain ⟨⟨r7, S6⟩, hc8, hm⟩ := bd_some hm
        refine cS_X5_260 (pc := 64) X [.long ((S.2.1 66) x1.toNatClampNeg)] [.long ((S.2.1 66) x2.toNatClampNeg)] 1 rfl (f_X8_cellsIn_e l g ad ((S.2.1 66) x1.toNatClampNeg) S _ _ hc8) (by decide) (by decide) (Nat.le_of_ble_eq_true rfl) rfl dX5_cellAt_64 ?_
        refine iv_i2l (pc := 67) X dX5_cellAt_67 rfl ?_
        refine iv_lcmp (pc := 68) X dX5_cellAt_68 ?_
        refine iv_if_lt (pc := 69) X dX5_cellAt_69 (tgt := 74) rfl (fun hb9 => ?_) (fun hb9 => ?_)
        · rw [if_pos hb9] at hm
          refine iv_aload_n (pc := 74) X dX5_cellAt_74 rfl ?_
          refine gF_X5_21_38 (pc := 75) X dX5_cellAt_75 ?_
          refine gF_X5_160_64 (pc := 78) X dX5_cellAt_78 ?_
          refine iv_iload_n (pc := 81) X dX5_cellAt_81 rfl ?_
          obtain ⟨hg, hm⟩ := gd_some hm
          refine aL_66 (pc := 82) X dX5_cellAt_82 hg (x := (S6.2.1 66) x1.toNatClampNeg) rfl ?_
          obtain ⟨⟨r11, S10⟩, hc12, hm⟩ := bd_some hm
          refine cS_X5_264 (pc := 83) X [.long ((S6.2.1 66) x1.toNatClampNeg)] [] 1 rfl (f_X8_firstCell_e l g ad ((S6.2.1 66) x1.toNatClampNeg) S6 _ _ hc12) (by decide) (by decide) (Nat.le_of_ble_eq_true rfl) rfl dX5_cellAt_83 ?_
          refine iv_lload_n (pc := 86) X dX5_cellAt_86 rfl ?_
          refine iv_l2i (pc := 87) X dX5_cellAt_87 rfl ?_
          refine iv_iadd (pc := 88) X dX5_cellAt_88 ?_
          cases hm
          exact is_iret (pc := 89) X dX5_cellAt_89
        · rw [if_neg hb9] at hm
          refine iv_iconst (pc := 72) X dX5_cellAt_72 ic_m1 ?_
          cases hm
          exact is_iret (pc := 73) X dX5_cellAt_73
    · rw [if_neg hb3] at hm
      refine iv_iconst (pc := 36) X dX5_cellAt_36 ic_1 ?_
      refine iv_goto (pc := 37) X dX5_cellAt_37 (tgt := 41) rfl ?_
      refine iv_istore (pc := 41) X dX5_cellAt_41 (by decide) (lv' := [(5, .int 1), (3, .long ((S.2.1 66) x2.toNatClampNeg)), (0, .ref (ad 38)), (1, .int x1), (2, .int x2)]) rfl ?_
      refine iv_iload (pc := 43) X dX5_cellAt_43 rfl ?_
      refine iv_if_ne (pc := 45) X dX5_cellAt_45 (tgt := 72) rfl (fun _ => ?_) (fun hb => absurd (by decide) hb)
      refine iv_iconst (pc := 72) X dX5_cellAt_72 ic_m1 ?_
      cases hm
      exact is_iret (pc := 73) X dX5_cellAt_73
def f_X5_operate (x1 : Int32) (x2 : Int32) (S : im_S) : Option (Unit × im_S) := gd (in_b x2 512) ((f_X5_slotOf x1 ((S.1 46) x2.toNatClampNeg) S).bind (fun qS1 => gd (in_b x2 512) ((f_X5_slotOf x1 ((qS1.2.1 47) x2.toNatClampNeg) qS1.2).bind (fun qS4 => gd (in_b x2 512) (gd (in_b qS1.1 (qS4.2.2.2 65)) (if ((qS4.2.1 65) qS1.1.toNatClampNeg : Int32) = 4 then ((f_X5_leastError qS1.1 qS4.1 qS4.2).bind (fun qS8 => (f_X5_send x1 x2 4 qS8.1 qS8.2).bind (fun qS11 => some ((), qS11.2)))) else (gd (in_b qS4.1 (qS4.2.2.2 65)) (if ((qS4.2.1 65) qS4.1.toNatClampNeg : Int32) ≠ 4 then (if (((qS4.2.2.1 55) x2.toNatClampNeg).toInt32 : Int32) = 47 then (gd (in_b qS4.1 (qS4.2.2.2 66)) (if (lg_cmp ((qS4.2.2.1 66) qS4.1.toNatClampNeg) 0 : Int32) ≠ 0 then (gd (in_b qS1.1 (qS4.2.2.2 66)) (gd (in_b qS4.1 (qS4.2.2.2 66)) ((f_X5_calculate (((qS4.2.2.1 55) x2.toNatClampNeg).toInt32) ((qS4.2.2.1 66) qS1.1.toNatClampNeg) ((qS4.2.2.1 66) qS4.1.toNatClampNeg) qS4.2).bind (fun qS17 => gd (in_b x2 512) ((f_X5_send x1 x2 ((qS17.2.1 42) x2.toNatClampNeg) qS17.1 qS17.2).bind (fun qS20 => some ((), qS20.2))))))) else ((f_X5_send x1 x2 4 1 qS4.2).bind (fun qS23 => some ((), qS23.2))))) else (if (((qS4.2.2.1 55) x2.toNatClampNeg).toInt32 : Int32) ≠ 37 then (gd (in_b qS1.1 (qS4.2.2.2 66)) (gd (in_b qS4.1 (qS4.2.2.2 66)) ((f_X5_calculate (((qS4.2.2.1 55) x2.toNatClampNeg).toInt32) ((qS4.2.2.1 66) qS1.1.toNatClampNeg) ((qS4.2.2.1 66) qS4.1.toNatClampNeg) qS4.2).bind (fun qS27 => gd (in_b x2 512) ((f_X5_send x1 x2 ((qS27.2.1 42) x2.toNatClampNeg) qS27.1 qS27.2).bind (fun qS30 => some ((), qS30.2))))))) else (gd (in_b qS4.1 (qS4.2.2.2 66)) (if (lg_cmp ((qS4.2.2.1 66) qS4.1.toNatClampNeg) 0 : Int32) ≠ 0 then (gd (in_b qS1.1 (qS4.2.2.2 66)) (gd (in_b qS4.1 (qS4.2.2.2 66)) ((f_X5_calculate (((qS4.2.2.1 55) x2.toNatClampNeg).toInt32) ((qS4.2.2.1 66) qS1.1.toNatClampNeg) ((qS4.2.2.1 66) qS4.1.toNatClampNeg) qS4.2).bind (fun qS34 => gd (in_b x2 512) ((f_X5_send x1 x2 ((qS34.2.1 42) x2.toNatClampNeg) qS34.1 qS34.2).bind (fun qS37 => some ((), qS37.2))))))) else ((f_X5_send x1 x2 4 1 qS4.2).bind (fun qS40 => some ((), qS40.2))))))) else ((f_X5_leastError qS1.1 qS4.1 qS4.2).bind (fun qS43 => (f_X5_send x1 x2 4 qS43.1 qS43.2).bind (fun qS46 => some ((), qS46.2))))))))))))
set_option maxHeartbeats 4000000 in
set_option maxRecDepth 100000 in
theorem f_X5_operate_e (l : Launch) (g : im_G) (ad : Nat → Nat) (x1 : Int32) (x2 : Int32) (S : im_S) (r : Unit) (S' : im_S) (hm : f_X5_operate x1 x2 S = some (r, S')) : im_E l g ad 2 yX5_operate cX5_operate 8 none [.ref (ad 38), .int x1, .int x2] S none S' := by
  unfold f_X5_operate at hm
  refine is_met (own := RX5) (by decide +kernel) rfl (Nat.le_of_ble_eq_true rfl) (fun p e s m below meth c X => ?_)
  refine iv_aload_n (pc := 0) X dX5_operate_0 rfl ?_
  refine iv_iload_n (pc := 1) X dX5_operate_1 rfl ?_
  refine iv_aload_n (pc := 2) X dX5_operate_2 rfl ?_
  refine gF_X5_12_38 (pc := 3) X dX5_operate_3 ?_
  refine gF_X5_201_40 (pc := 6) X dX5_operate_6 ?_
  refine iv_iload_n (pc := 9) X dX5_operate_9 rfl ?_
  obtain ⟨hg, hm⟩ := gd_some hm
  refine aL_46 (pc := 10) X dX5_operate_10 hg (x := (S.1 46) x2.toNatClampNeg) rfl ?_
  obtain ⟨⟨r2, S1⟩, hc3, hm⟩ := bd_some hm
  refine cV_X5_84_38 (pc := 11) X [.int x1, .int ((S.1 46) x2.toNatClampNeg)] [] 2 rfl (f_X5_slotOf_e l g ad x1 ((S.1 46) x2.toNatClampNeg) S _ _ hc3) (by decide) (by decide) (Nat.le_of_ble_eq_true rfl) rfl dX5_operate_11 ?_
  refine iv_istore_n (pc := 14) X dX5_operate_14 (by decide) (lv' := [(3, .int r2), (0, .ref (ad 38)), (1, .int x1), (2, .int x2)]) rfl ?_
  refine iv_aload_n (pc := 15) X dX5_operate_15 rfl ?_
  refine iv_iload_n (pc := 16) X dX5_operate_16 rfl ?_
  refine iv_aload_n (pc := 17) X dX5_operate_17 rfl ?_
  refine gF_X5_12_38 (pc := 18) X dX5_operate_18 ?_
  refine gF_X5_254_40 (pc := 21) X dX5_operate_21 ?_
  refine iv_iload_n (pc := 24) X dX5_operate_24 rfl ?_
  obtain ⟨hg, hm⟩ := gd_some hm
  refine aL_47 (pc := 25) X dX5_operate_25 hg (x := (S1.1 47) x2.toNatClampNeg) rfl ?_
  obtain ⟨⟨r5, S4⟩, hc6, hm⟩ := bd_some hm
  refine cV_X5_84_38 (pc := 26) X [.int x1, .int ((S1.1 47) x2.toNatClampNeg)] [] 2 rfl (f_X5_slotOf_e l g ad x1 ((S1.1 47) x2.toNatClampNeg) S1 _ _ hc6) (by decide) (by decide) (Nat.le_of_ble_eq_true rfl) rfl dX5_operate_26 ?_
  refine iv_istore (pc := 29) X dX5_operate_29 (by decide) (lv' := [(4, .int r5), (3, .int r2), (0, .ref (ad 38)), (1, .int x1), (2, .int x2)]) rfl ?_
  refine iv_aload_n (pc := 31) X dX5_operate_31 rfl ?_
  refine gF_X5_12_38 (pc := 32) X dX5_operate_32 ?_
  refine gF_X5_185_40 (pc := 35) X dX5_operate_35 ?_
  refine iv_iload_n (pc := 38) X dX5_operate_38 rfl ?_
  obtain ⟨hg, hm⟩ := gd_some hm
  refine aL_55 (pc := 39) X dX5_operate_39 hg (x := (S4.2.1 55) x2.toNatClampNeg) rfl ?_
  refine iv_l2i (pc := 40) X dX5_operate_40 rfl ?_
  refine iv_istore (pc := 41) X dX5_operate_41 (by decide) (lv' := [(5, .int (((S4.2.1 55) x2.toNatClampNeg).toInt32)), (4, .int r5), (3, .int r2), (0, .ref (ad 38)), (1, .int x1), (2, .int x2)]) rfl ?_
  refine iv_aload_n (pc := 43) X dX5_operate_43 rfl ?_
  refine gF_X5_21_38 (pc := 44) X dX5_operate_44 ?_
  refine gF_X5_211_64 (pc := 47) X dX5_operate_47 ?_
  refine iv_iload_n (pc := 50) X dX5_operate_50 rfl ?_
  obtain ⟨hg, hm⟩ := gd_some hm
  refine aL_65 (pc := 51) X dX5_operate_51 hg (x := (S4.1 65) r2.toNatClampNeg) rfl ?_
  refine iv_iconst (pc := 52) X dX5_operate_52 ic_4 ?_
  refine iv_icmp_eq (pc := 53) X dX5_operate_53 (tgt := 70) rfl (fun hb7 => ?_) (fun hb7 => ?_)
  · rw [if_pos hb7] at hm
    refine iv_aload_n (pc := 70) X dX5_operate_70 rfl ?_
    refine iv_iload_n (pc := 71) X dX5_operate_71 rfl ?_
    refine iv_iload_n (pc := 72) X dX5_operate_72 rfl ?_
    refine iv_iconst (pc := 73) X dX5_operate_73 ic_4 ?_
    refine iv_aload_n (pc := 74) X dX5_operate_74 rfl ?_
    refine iv_iload_n (pc := 75) X dX5_operate_75 rfl ?_
    refine iv_iload (pc := 76) X dX5_operate_76 rfl ?_
    obtain ⟨⟨r9, S8⟩, hc10, hm⟩ := bd_some hm
    refine cV_X5_293_38 (pc := 78) X [.int r2, .int r5] [.int 4, .int x2, .int x1, .ref (ad 38)] 2 rfl (f_X5_leastError_e l g ad r2 r5 S4 _ _ hc10) (by decide) (by decide) (Nat.le_of_ble_eq_true rfl) rfl dX5_operate_78 ?_
    obtain ⟨⟨r12, S11⟩, hc13, hm⟩ := bd_some hm
    refine cV_X5_188_38 (pc := 81) X [.int x1, .int x2, .int 4, .long r9] [] 4 rfl (f_X5_send_e l g ad x1 x2 4 r9 S8 _ _ hc13) (by decide) (by decide) (Nat.le_of_ble_eq_true rfl) rfl dX5_operate_81 ?_
    refine iv_goto (pc := 84) X dX5_operate_84 (tgt := 170) rfl ?_
    cases hm
    exact is_vret (pc := 170) X dX5_operate_170
  · rw [if_neg hb7] at hm
    refine iv_aload_n (pc := 56) X dX5_operate_56 rfl ?_
    refine gF_X5_21_38 (pc := 57) X dX5_operate_57 ?_
    refine gF_X5_211_64 (pc := 60) X dX5_operate_60 ?_
    refine iv_iload (pc := 63) X dX5_operate_63 rfl ?_
    obtain ⟨hg, hm⟩ := gd_some hm
    refine aL_65 (pc := 65) X dX5_operate_65 hg (x := (S4.1 65) r5.toNatClampNeg) rfl ?_
    refine iv_iconst (pc := 66) X dX5_operate_66 ic_4 ?_
    refine iv_icmp_ne (pc := 67) X dX5_operate_67 (tgt := 87) rfl (fun hb14 => ?_) (fun hb14 => ?_)
    · rw [if_pos hb14] at hm
      refine iv_iload (pc := 87) X dX5_operate_87 rfl ?_
      refine iv_bipush (pc := 89) X dX5_operate_89 bc_47 ?_
      refine iv_icmp_eq (pc := 91) X dX5_operate_91 (tgt := 101) rfl (fun hb15 => ?_) (fun hb15 => ?_)
      · rw [if_pos hb15] at hm
        refine iv_aload_n (pc := 101) X dX5_operate_101 rfl ?_
        refine gF_X5_21_38 (pc := 102) X dX5_operate_102 ?_
        refine gF_X5_160_64 (pc := 105) X dX5_operate_105 ?_
        refine iv_iload (pc := 108) X dX5_operate_108 rfl ?_
        obtain ⟨hg, hm⟩ := gd_some hm
        refine aL_66 (pc := 110) X dX5_operate_110 hg (x := (S4.2.1 66) r5.toNatClampNeg) rfl ?_
        refine iv_lconst (pc := 111) X dX5_operate_111 lc_0 ?_
        refine iv_lcmp (pc := 112) X dX5_operate_112 ?_
        refine iv_if_ne (pc := 113) X dX5_operate_113 (tgt := 127) rfl (fun hb16 => ?_) (fun hb16 => ?_)
        · rw [if_pos hb16] at hm
          refine iv_iload (pc := 127) X dX5_operate_127 rfl ?_
          refine iv_aload_n (pc := 129) X dX5_operate_129 rfl ?_
          refine gF_X5_21_38 (pc := 130) X dX5_operate_130 ?_
          refine gF_X5_160_64 (pc := 133) X dX5_operate_133 ?_
          refine iv_iload_n (pc := 136) X dX5_operate_136 rfl ?_
          obtain ⟨hg, hm⟩ := gd_some hm
          refine aL_66 (pc := 137) X dX5_operate_137 hg (x := (S4.2.1 66) r2.toNatClampNeg) rfl ?_
          refine iv_aload_n (pc := 138) X dX5_operate_138 rfl ?_
          refine gF_X5_21_38 (pc := 139) X dX5_operate_139 ?_
          refine gF_X5_160_64 (pc := 142) X dX5_operate_142 ?_
          refine iv_iload (pc := 145) X dX5_operate_145 rfl ?_
          obtain ⟨hg, hm⟩ := gd_some hm
          refine aL_66 (pc := 147) X dX5_operate_147 hg (x := (S4.2.1 66) r5.toNatClampNeg) rfl ?_
          obtain ⟨⟨r18, S17⟩, hc19, hm⟩ := bd_some hm
          refine cS_X5_297 (pc := 148) X [.int (((S4.2.1 55) x2.toNatClampNeg).toInt32), .long ((S4.2.1 66) r2.toNatClampNeg), .long ((S4.2.1 66) r5.toNatClampNeg)] [] 3 rfl (f_X5_calculate_e l g ad (((S4.2.1 55) x2.toNatClampNeg).toInt32) ((S4.2.1 66) r2.toNatClampNeg) ((S4.2.1 66) r5.toNatClampNeg) S4 _ _ hc19) (by decide) (by decide) (Nat.le_of_ble_eq_true rfl) rfl dX5_operate_148 ?_
          refine iv_lstore (pc := 151) X dX5_operate_151 (by decide) (lv' := [(6, .long r18), (5, .int (((S4.2.1 55) x2.toNatClampNeg).toInt32)), (4, .int r5), (3, .int r2), (0, .ref (ad 38)), (1, .int x1), (2, .int x2)]) rfl ?_
          refine iv_aload_n (pc := 153) X dX5_operate_153 rfl ?_
          refine iv_iload_n (pc := 154) X dX5_operate_154 rfl ?_
          refine iv_iload_n (pc := 155) X dX5_operate_155 rfl ?_
          refine iv_aload_n (pc := 156) X dX5_operate_156 rfl ?_
          refine gF_X5_12_38 (pc := 157) X dX5_operate_157 ?_
          refine gF_X5_182_40 (pc := 160) X dX5_operate_160 ?_
          refine iv_iload_n (pc := 163) X dX5_operate_163 rfl ?_
          obtain ⟨hg, hm⟩ := gd_some hm
          refine aL_42 (pc := 164) X dX5_operate_164 hg (x := (S17.1 42) x2.toNatClampNeg) rfl ?_
          refine iv_lload (pc := 165) X dX5_operate_165 rfl ?_
          obtain ⟨⟨r21, S20⟩, hc22, hm⟩ := bd_some hm
          refine cV_X5_188_38 (pc := 167) X [.int x1, .int x2, .int ((S17.1 42) x2.toNatClampNeg), .long r18] [] 4 rfl (f_X5_send_e l g ad x1 x2 ((S17.1 42) x2.toNatClampNeg) r18 S17 _ _ hc22) (by decide) (by decide) (Nat.le_of_ble_eq_true rfl) rfl dX5_operate_167 ?_
          cases hm
          exact is_vret (pc := 170) X dX5_operate_170
        · rw [if_neg hb16] at hm
          refine iv_aload_n (pc := 116) X dX5_operate_116 rfl ?_
          refine iv_iload_n (pc := 117) X dX5_operate_117 rfl ?_
          refine iv_iload_n (pc := 118) X dX5_operate_118 rfl ?_
          refine iv_iconst (pc := 119) X dX5_operate_119 ic_4 ?_
          refine iv_lconst (pc := 120) X dX5_operate_120 lc_1 ?_
          obtain ⟨⟨r24, S23⟩, hc25, hm⟩ := bd_some hm
          refine cV_X5_188_38 (pc := 121) X [.int x1, .int x2, .int 4, .long 1] [] 4 rfl (f_X5_send_e l g ad x1 x2 4 1 S4 _ _ hc25) (by decide) (by decide) (Nat.le_of_ble_eq_true rfl) rfl dX5_operate_121 ?_
          refine iv_goto (pc := 124) X dX5_operate_124 (tgt := 170) rfl ?_
          cases hm
          exact is_vret (pc := 170) X dX5_operate_170
      · rw [if_neg hb15] at hm
        refine iv_iload (pc := 94) X dX5_operate_94 rfl ?_
        refine iv_bipush (pc := 96) X dX5_operate_96 bc_37 ?_
        refine iv_icmp_ne (pc := 98) X dX5_operate_98 (tgt := 127) rfl (fun hb26 => ?_) (fun hb26 => ?_)
        · rw [if_pos hb26] at hm
          refine iv_iload (pc := 127) X dX5_operate_127 rfl ?_
          refine iv_aload_n (pc := 129) X dX5_operate_129 rfl ?_
          refine gF_X5_21_38 (pc := 130) X dX5_operate_130 ?_
          refine gF_X5_160_64 (pc := 133) X dX5_operate_133 ?_
          refine iv_iload_n (pc := 136) X dX5_operate_136 rfl ?_
          obtain ⟨hg, hm⟩ := gd_some hm
          refine aL_66 (pc := 137) X dX5_operate_137 hg (x := (S4.2.1 66) r2.toNatClampNeg) rfl ?_
          refine iv_aload_n (pc := 138) X dX5_operate_138 rfl ?_
          refine gF_X5_21_38 (pc := 139) X dX5_operate_139 ?_
          refine gF_X5_160_64 (pc := 142) X dX5_operate_142 ?_
          refine iv_iload (pc := 145) X dX5_operate_145 rfl ?_
          obtain ⟨hg, hm⟩ := gd_some hm
          refine aL_66 (pc := 147) X dX5_operate_147 hg (x := (S4.2.1 66) r5.toNatClampNeg) rfl ?_
          obtain ⟨⟨r28, S27⟩, hc29, hm⟩ := bd_some hm
          refine cS_X5_297 (pc := 148) X [.int (((S4.2.1 55) x2.toNatClampNeg).toInt32), .long ((S4.2.1 66) r2.toNatClampNeg), .long ((S4.2.1 66) r5.toNatClampNeg)] [] 3 rfl (f_X5_calculate_e l g ad (((S4.2.1 55) x2.toNatClampNeg).toInt32) ((S4.2.1 66) r2.toNatClampNeg) ((S4.2.1 66) r5.toNatClampNeg) S4 _ _ hc29) (by decide) (by decide) (Nat.le_of_ble_eq_true rfl) rfl dX5_operate_148 ?_
          refine iv_lstore (pc := 151) X dX5_operate_151 (by decide) (lv' := [(6, .long r28), (5, .int (((S4.2.1 55) x2.toNatClampNeg).toInt32)), (4, .int r5), (3, .int r2), (0, .ref (ad 38)), (1, .int x1), (2, .int x2)]) rfl ?_
          refine iv_aload_n (pc := 153) X dX5_operate_153 rfl ?_
          refine iv_iload_n (pc := 154) X dX5_operate_154 rfl ?_
          refine iv_iload_n (pc := 155) X dX5_operate_155 rfl ?_
          refine iv_aload_n (pc := 156) X dX5_operate_156 rfl ?_
          refine gF_X5_12_38 (pc := 157) X dX5_operate_157 ?_
          refine gF_X5_182_40 (pc := 160) X dX5_operate_160 ?_
          refine iv_iload_n (pc := 163) X dX5_operate_163 rfl ?_
          obtain ⟨hg, hm⟩ := gd_some hm
          refine aL_42 (pc := 164) X dX5_operate_164 hg (x := (S27.1 42) x2.toNatClampNeg) rfl ?_
          refine iv_lload (pc := 165) X dX5_operate_165 rfl ?_
          obtain ⟨⟨r31, S30⟩, hc32, hm⟩ := bd_some hm
          refine cV_X5_188_38 (pc := 167) X [.int x1, .int x2, .int ((S27.1 42) x2.toNatClampNeg), .long r28] [] 4 rfl (f_X5_send_e l g ad x1 x2 ((S27.1 42) x2.toNatClampNeg) r28 S27 _ _ hc32) (by decide) (by decide) (Nat.le_of_ble_eq_true rfl) rfl dX5_operate_167 ?_
          cases hm
          exact is_vret (pc := 170) X dX5_operate_170
        · rw [if_neg hb26] at hm
          refine iv_aload_n (pc := 101) X dX5_operate_101 rfl ?_
          refine gF_X5_21_38 (pc := 102) X dX5_operate_102 ?_
          refine gF_X5_160_64 (pc := 105) X dX5_operate_105 ?_
          refine iv_iload (pc := 108) X dX5_operate_108 rfl ?_
          obtain ⟨hg, hm⟩ := gd_some hm
          refine aL_66 (pc := 110) X dX5_operate_110 hg (x := (S4.2.1 66) r5.toNatClampNeg) rfl ?_
          refine iv_lconst (pc := 111) X dX5_operate_111 lc_0 ?_
          refine iv_lcmp (pc := 112) X dX5_operate_112 ?_
          refine iv_if_ne (pc := 113) X dX5_operate_113 (tgt := 127) rfl (fun hb33 => ?_) (fun hb33 => ?_)
          · rw [if_pos hb33] at hm
            refine iv_iload (pc := 127) X dX5_operate_127 rfl ?_
            refine iv_aload_n (pc := 129) X dX5_operate_129 rfl ?_
            refine gF_X5_21_38 (pc := 130) X dX5_operate_130 ?_
            refine gF_X5_160_64 (pc := 133) X dX5_operate_133 ?_
            refine iv_iload_n (pc := 136) X dX5_operate_136 rfl ?_
            obtain ⟨hg, hm⟩ := gd_some hm
            refine aL_66 (pc := 137) X dX5_operate_137 hg (x := (S4.2.1 66) r2.toNatClampNeg) rfl ?_
            refine iv_aload_n (pc := 138) X dX5_operate_138 rfl ?_
            refine gF_X5_21_38 (pc := 139) X dX5_operate_139 ?_
            refine gF_X5_160_64 (pc := 142) X dX5_operate_142 ?_
            refine iv_iload (pc := 145) X dX5_operate_145 rfl ?_
            obtain ⟨hg, hm⟩ := gd_some hm
            refine aL_66 (pc := 147) X dX5_operate_147 hg (x := (S4.2.1 66) r5.toNatClampNeg) rfl ?_
            obtain ⟨⟨r35, S34⟩, hc36, hm⟩ := bd_some hm
            refine cS_X5_297 (pc := 148) X [.int (((S4.2.1 55) x2.toNatClampNeg).toInt32), .long ((S4.2.1 66) r2.toNatClampNeg), .long ((S4.2.1 66) r5.toNatClampNeg)] [] 3 rfl (f_X5_calculate_e l g ad (((S4.2.1 55) x2.toNatClampNeg).toInt32) ((S4.2.1 66) r2.toNatClampNeg) ((S4.2.1 66) r5.toNatClampNeg) S4 _ _ hc36) (by decide) (by decide) (Nat.le_of_ble_eq_true rfl) rfl dX5_operate_148 ?_
            refine iv_lstore (pc := 151) X dX5_operate_151 (by decide) (lv' := [(6, .long r35), (5, .int (((S4.2.1 55) x2.toNatClampNeg).toInt32)), (4, .int r5), (3, .int r2), (0, .ref (ad 38)), (1, .int x1), (2, .int x2)]) rfl ?_
            refine iv_aload_n (pc := 153) X dX5_operate_153 rfl ?_
            refine iv_iload_n (pc := 154) X dX5_operate_154 rfl ?_
            refine iv_iload_n (pc := 155) X dX5_operate_155 rfl ?_
            refine iv_aload_n (pc := 156) X dX5_operate_156 rfl ?_
            refine gF_X5_12_38 (pc := 157) X dX5_operate_157 ?_
            refine gF_X5_182_40 (pc := 160) X dX5_operate_160 ?_
            refine iv_iload_n (pc := 163) X dX5_operate_163 rfl ?_
            obtain ⟨hg, hm⟩ := gd_some hm
            refine aL_42 (pc := 164) X dX5_operate_164 hg (x := (S34.1 42) x2.toNatClampNeg) rfl ?_
            refine iv_lload (pc := 165) X dX5_operate_165 rfl ?_
            obtain ⟨⟨r38, S37⟩, hc39, hm⟩ := bd_some hm
            refine cV_X5_188_38 (pc := 167) X [.int x1, .int x2, .int ((S34.1 42) x2.toNatClampNeg), .long r35] [] 4 rfl (f_X5_send_e l g ad x1 x2 ((S34.1 42) x2.toNatClampNeg) r35 S34 _ _ hc39) (by decide) (by decide) (Nat.le_of_ble_eq_true rfl) rfl dX5_operate_167 ?_
            cases hm
            exact is_vret (pc := 170) X dX5_operate_170
          · rw [if_neg hb33] at hm
            refine iv_aload_n (pc := 116) X dX5_operate_116 rfl ?_
            refine iv_iload_n (pc := 117) X dX5_operate_117 rfl ?_
            refine iv_iload_n (pc := 118) X dX5_operate_118 rfl ?_
            refine iv_iconst (pc := 119) X dX5_operate_119 ic_4 ?_
            refine iv_lconst (pc := 120) X dX5_operate_120 lc_1 ?_
            obtain ⟨⟨r41, S40⟩, hc42, hm⟩ := bd_some hm
            refine cV_X5_188_38 (pc := 121) X [.int x1, .int x2, .int 4, .long 1] [] 4 rfl (f_X5_send_e l g ad x1 x2 4 1 S4 _ _ hc42) (by decide) (by decide) (Nat.le_of_ble_eq_true rfl) rfl dX5_operate_121 ?_
            refine iv_goto (pc := 124) X dX5_operate_124 (tgt := 170) rfl ?_
            cases hm
            exact is_vret (pc := 170) X dX5_operate_170
    · rw [if_neg hb14] at hm
      refine iv_aload_n (pc := 70) X dX5_operate_70 rfl ?_
      refine iv_iload_n (pc := 71) X dX5_operate_71 rfl ?_
      refine iv_iload_n (pc := 72) X dX5_operate_72 rfl ?_
      refine iv_iconst (pc := 73) X dX5_operate_73 ic_4 ?_
      refine iv_aload_n (pc := 74) X dX5_operate_74 rfl ?_
      refine iv_iload_n (pc := 75) X dX5_operate_75 rfl ?_
      refine iv_iload (pc := 76) X dX5_operate_76 rfl ?_
      obtain ⟨⟨r44, S43⟩, hc45, hm⟩ := bd_some hm
      refine cV_X5_293_38 (pc := 78) X [.int r2, .int r5] [.int 4, .int x2, .int x1, .ref (ad 38)] 2 rfl (f_X5_leastError_e l g ad r2 r5 S4 _ _ hc45) (by decide) (by decide) (Nat.le_of_ble_eq_true rfl) rfl dX5_operate_78 ?_
      obtain ⟨⟨r47, S46⟩, hc48, hm⟩ := bd_some hm
      refine cV_X5_188_38 (pc := 81) X [.int x1, .int x2, .int 4, .long r44] [] 4 rfl (f_X5_send_e l g ad x1 x2 4 r44 S43 _ _ hc48) (by decide) (by decide) (Nat.le_of_ble_eq_true rfl) rfl dX5_operate_81 ?_
      refine iv_goto (pc := 84) X dX5_operate_84 (tgt := 170) rfl ?_
      cases hm
      exact is_vret (pc := 170) X dX5_operate_170
def f_X5_pickCell (x1 : Int32) (x2 : Int32) (S : im_S) : Option (Unit × im_S) := gd (in_b x2 512) ((f_X5_slotOf x1 ((S.1 46) x2.toNatClampNeg) S).bind (fun qS1 => gd (in_b x2 512) ((f_X5_slotOf x1 ((qS1.2.1 47) x2.toNatClampNeg) qS1.2).bind (fun qS4 => (f_X5_cellAt qS1.1 qS4.1 qS4.2).bind (fun qS7 => gd (in_b qS1.1 (qS7.2.2.2 65)) (if ((qS7.2.1 65) qS1.1.toNatClampNeg : Int32) = 4 then ((f_X5_leastError qS1.1 qS4.1 qS7.2).bind (fun qS11 => (f_X5_send x1 x2 4 qS11.1 qS11.2).bind (fun qS14 => some ((), qS14.2)))) else (gd (in_b qS4.1 (qS7.2.2.2 65)) (if ((qS7.2.1 65) qS4.1.toNatClampNeg : Int32) ≠ 4 then (if (qS7.1 : Int32) ≠ (-1) then (gd (in_b qS7.1 (qS7.2.2.2 65)) (gd (in_b qS7.1 (qS7.2.2.2 66)) ((f_X5_send x1 x2 ((qS7.2.1 65) qS7.1.toNatClampNeg) ((qS7.2.2.1 66) qS7.1.toNatClampNeg) qS7.2).bind (fun qS19 => some ((), qS19.2))))) else ((f_X5_send x1 x2 4 2 qS7.2).bind (fun qS22 => some ((), qS22.2)))) else ((f_X5_leastError qS1.1 qS4.1 qS7.2).bind (fun qS25 => (f_X5_send x1 x2 4 qS25.1 qS25.2).bind (fun qS28 => some ((), qS28.2))))))))))))
set_option maxHeartbeats 4000000 in
set_option maxRecDepth 100000 in
theorem f_X5_pickCell_e (l : Launch) (g : im_G) (ad : Nat → Nat) (x1 : Int32) (x2 : Int32) (S : im_S) (r : Unit) (S' : im_S) (hm : f_X5_pickCell x1 x2 S = some (r, S')) : im_E l g ad 2 yX5_pickCell cX5_pickCell 6 none [.ref (ad 38), .int x1, .int x2] S none S' := by
  unfold f_X5_pickCell at hm
  refine is_met (own := RX5) (by decide +kernel) rfl (Nat.le_of_ble_eq_true rfl) (fun p e s m below meth c X => ?_)
  refine iv_aload_n (pc := 0) X dX5_pickCell_0 rfl ?_
  refine iv_iload_n (pc := 1) X dX5_pickCell_1 rfl ?_
  refine iv_aload_n (pc := 2) X dX5_pickCell_2 rfl ?_
  refine gF_X5_12_38 (pc := 3) X dX5_pickCell_3 ?_
  refine gF_X5_201_40 (pc := 6) X dX5_pickCell_6 ?_
  refine iv_iload_n (pc := 9) X dX5_pickCell_9 rfl ?_
  obtain ⟨hg, hm⟩ := gd_some hm
  refine aL_46 (pc := 10) X dX5_pickCell_10 hg (x := (S.1 46) x2.toNatClampNeg) rfl ?_
  obtain ⟨⟨r2, S1⟩, hc3, hm⟩ := bd_some hm
  refine cV_X5_84_38 (pc := 11) X [.int x1, .int ((S.1 46) x2.toNatClampNeg)] [] 2 rfl (f_X5_slotOf_e l g ad x1 ((S.1 46) x2.toNatClampNeg) S _ _ hc3) (by decide) (by decide) (Nat.le_of_ble_eq_true rfl) rfl dX5_pickCell_11 ?_
  refine iv_istore_n (pc := 14) X dX5_pickCell_14 (by decide) (lv' := [(3, .int r2), (0, .ref (ad 38)), (1, .int x1), (2, .int x2)]) rfl ?_
  refine iv_aload_n (pc := 15) X dX5_pickCell_15 rfl ?_
  refine iv_iload_n (pc := 16) X dX5_pickCell_16 rfl ?_
  refine iv_aload_n (pc := 17) X dX5_pickCell_17 rfl ?_
  refine gF_X5_12_38 (pc := 18) X dX5_pickCell_18 ?_
  refine gF_X5_254_40 (pc := 21) X dX5_pickCell_21 ?_
  refine iv_iload_n (pc := 24) X dX5_pickCell_24 rfl ?_
  obtain ⟨hg, hm⟩ := gd_some hm
  refine aL_47 (pc := 25) X dX5_pickCell_25 hg (x := (S1.1 47) x2.toNatClampNeg) rfl ?_
  obtain ⟨⟨r5, S4⟩, hc6, hm⟩ := bd_some hm
  refine cV_X5_84_38 (pc := 26) X [.int x1, .int ((S1.1 47) x2.toNatClampNeg)] [] 2 rfl (f_X5_slotOf_e l g ad x1 ((S1.1 47) x2.toNatClampNeg) S1 _ _ hc6) (by decide) (by decide) (Nat.le_of_ble_eq_true rfl) rfl dX5_pickCell_26 ?_
  refine iv_istore (pc := 29) X dX5_pickCell_29 (by decide) (lv' := [(4, .int r5), (3, .int r2), (0, .ref (ad 38)), (1, .int x1), (2, .int x2)]) rfl ?_
  refine iv_aload_n (pc := 31) X dX5_pickCell_31 rfl ?_
  refine iv_iload_n (pc := 32) X dX5_pickCell_32 rfl ?_
  refine iv_iload (pc := 33) X dX5_pickCell_33 rfl ?_
  obtain ⟨⟨r8, S7⟩, hc9, hm⟩ := bd_some hm
  refine cV_X5_257_38 (pc := 35) X [.int r2, .int r5] [] 2 rfl (f_X5_cellAt_e l g ad r2 r5 S4 _ _ hc9) (by decide) (by decide) (Nat.le_of_ble_eq_true rfl) rfl dX5_pickCell_35 ?_
  refine iv_istore (pc := 38) X dX5_pickCell_38 (by decide) (lv' := [(5, .int r8), (4, .int r5), (3, .int r2), (0, .ref (ad 38)), (1, .int x1), (2, .int x2)]) rfl ?_
  refine iv_aload_n (pc := 40) X dX5_pickCell_40 rfl ?_
  refine gF_X5_21_38 (pc := 41) X dX5_pickCell_41 ?_
  refine gF_X5_211_64 (pc := 44) X dX5_pickCell_44 ?_
  refine iv_iload_n (pc := 47) X dX5_pickCell_47 rfl ?_
  obtain ⟨hg, hm⟩ := gd_some hm
  refine aL_65 (pc := 48) X dX5_pickCell_48 hg (x := (S7.1 65) r2.toNatClampNeg) rfl ?_
  refine iv_iconst (pc := 49) X dX5_pickCell_49 ic_4 ?_
  refine iv_icmp_eq (pc := 50) X dX5_pickCell_50 (tgt := 67) rfl (fun hb10 => ?_) (fun hb10 => ?_)
  · rw [if_pos hb10] at hm
    refine iv_aload_n (pc := 67) X dX5_pickCell_67 rfl ?_
    refine iv_iload_n (pc := 68) X dX5_pickCell_68 rfl ?_
    refine iv_iload_n (pc := 69) X dX5_pickCell_69 rfl ?_
    refine iv_iconst (pc := 70) X dX5_pickCell_70 ic_4 ?_
    refine iv_aload_n (pc := 71) X dX5_pickCell_71 rfl ?_
    refine iv_iload_n (pc := 72) X dX5_pickCell_72 rfl ?_
    refine iv_iload (pc := 73) X dX5_pickCell_73 rfl ?_
    obtain ⟨⟨r12, S11⟩, hc13, hm⟩ := bd_some hm
    refine cV_X5_293_38 (pc := 75) X [.int r2, .int r5] [.int 4, .int x2, .int x1, .ref (ad 38)] 2 rfl (f_X5_leastError_e l g ad r2 r5 S7 _ _ hc13) (by decide) (by decide) (Nat.le_of_ble_eq_true rfl) rfl dX5_pickCell_75 ?_
    obtain ⟨⟨r15, S14⟩, hc16, hm⟩ := bd_some hm
    refine cV_X5_188_38 (pc := 78) X [.int x1, .int x2, .int 4, .long r12] [] 4 rfl (f_X5_send_e l g ad x1 x2 4 r12 S11 _ _ hc16) (by decide) (by decide) (Nat.le_of_ble_eq_true rfl) rfl dX5_pickCell_78 ?_
    refine iv_goto (pc := 81) X dX5_pickCell_81 (tgt := 129) rfl ?_
    cases hm
    exact is_vret (pc := 129) X dX5_pickCell_129
  · rw [if_neg hb10] at hm
    refine iv_aload_n (pc := 53) X dX5_pickCell_53 rfl ?_
    refine gF_X5_21_38 (pc := 54) X dX5_pickCell_54 ?_
    refine gF_X5_211_64 (pc := 57) X dX5_pickCell_57 ?_
    refine iv_iload (pc := 60) X dX5_pickCell_60 rfl ?_
    obtain ⟨hg, hm⟩ := gd_some hm
    refine aL_65 (pc := 62) X dX5_pickCell_62 hg (x := (S7.1 65) r5.toNatClampNeg) rfl ?_
    refine iv_iconst (pc := 63) X dX5_pickCell_63 ic_4 ?_
    refine iv_icmp_ne (pc := 64) X dX5_pickCell_64 (tgt := 84) rfl (fun hb17 => ?_) (fun hb17 => ?_)
    · rw [if_pos hb17] at hm
      refine iv_iload (pc := 84) X dX5_pickCell_84 rfl ?_
      refine iv_iconst (pc := 86) X dX5_pickCell_86 ic_m1 ?_
      refine iv_icmp_ne (pc := 87) X dX5_pickCell_87 (tgt := 103) rfl (fun hb18 => ?_) (fun hb18 => ?_)
      · rw [if_pos hb18] at hm
        refine iv_aload_n (pc := 103) X dX5_pickCell_103 rfl ?_
        refine iv_iload_n (pc := 104) X dX5_pickCell_104 rfl ?_
        refine iv_iload_n (pc := 105) X dX5_pickCell_105 rfl ?_
        refine iv_aload_n (pc := 106) X dX5_pickCell_106 rfl ?_
        refine gF_X5_21_38 (pc := 107) X dX5_pickCell_107 ?_
        refine gF_X5_211_64 (pc := 110) X dX5_pickCell_110 ?_
        refine iv_iload (pc := 113) X dX5_pickCell_113 rfl ?_
        obtain ⟨hg, hm⟩ := gd_some hm
        refine aL_65 (pc := 115) X dX5_pickCell_115 hg (x := (S7.1 65) r8.toNatClampNeg) rfl ?_
        refine iv_aload_n (pc := 116) X dX5_pickCell_116 rfl ?_
        refine gF_X5_21_38 (pc := 117) X dX5_pickCell_117 ?_
        refine gF_X5_160_64 (pc := 120) X dX5_pickCell_120 ?_
        refine iv_iload (pc := 123) X dX5_pickCell_123 rfl ?_
        obtain ⟨hg, hm⟩ := gd_some hm
        refine aL_66 (pc := 125) X dX5_pickCell_125 hg (x := (S7.2.1 66) r8.toNatClampNeg) rfl ?_
        obtain ⟨⟨r20, S19⟩, hc21, hm⟩ := bd_some hm
        refine cV_X5_188_38 (pc := 126) X [.int x1, .int x2, .int ((S7.1 65) r8.toNatClampNeg), .long ((S7.2.1 66) r8.toNatClampNeg)] [] 4 rfl (f_X5_send_e l g ad x1 x2 ((S7.1 65) r8.toNatClampNeg) ((S7.2.1 66) r8.toNatClampNeg) S7 _ _ hc21) (by decide) (by decide) (Nat.le_of_ble_eq_true rfl) rfl dX5_pickCell_126 ?_
        cases hm
        exact is_vret (pc := 129) X dX5_pickCell_129
      · rw [if_neg hb18] at hm
        refine iv_aload_n (pc := 90) X dX5_pickCell_90 rfl ?_
        refine iv_iload_n (pc := 91) X dX5_pickCell_91 rfl ?_
        refine iv_iload_n (pc := 92) X dX5_pickCell_92 rfl ?_
        refine iv_iconst (pc := 93) X dX5_pickCell_93 ic_4 ?_
        refine iv_ldc2 (pc := 94) X wk_X5_304 dX5_pickCell_94 ?_
        obtain ⟨⟨r23, S22⟩, hc24, hm⟩ := bd_some hm
        refine cV_X5_188_38 (pc := 97) X [.int x1, .int x2, .int 4, .long 2] [] 4 rfl (f_X5_send_e l g ad x1 x2 4 2 S7 _ _ hc24) (by decide) (by decide) (Nat.le_of_ble_eq_true rfl) rfl dX5_pickCell_97 ?_
        refine iv_goto (pc := 100) X dX5_pickCell_100 (tgt := 129) rfl ?_
        cases hm
        exact is_vret (pc := 129) X dX5_pickCell_129
    · rw [if_neg hb17] at hm
      refine iv_aload_n (pc := 67) X dX5_pickCell_67 rfl ?_
      refine iv_iload_n (pc := 68) X dX5_pickCell_68 rfl ?_
      refine iv_iload_n (pc := 69) X dX5_pickCell_69 rfl ?_
      refine iv_iconst (pc := 70) X dX5_pickCell_70 ic_4 ?_
      refine iv_aload_n (pc := 71) X dX5_pickCell_71 rfl ?_
      refine iv_iload_n (pc := 72) X dX5_pickCell_72 rfl ?_
      refine iv_iload (pc := 73) X dX5_pickCell_73 rfl ?_
      obtain ⟨⟨r26, S25⟩, hc27, hm⟩ := bd_some hm
      refine cV_X5_293_38 (pc := 75) X [.int r2, .int r5] [.int 4, .int x2, .int x1, .ref (ad 38)] 2 rfl (f_X5_leastError_e l g ad r2 r5 S7 _ _ hc27) (by decide) (by decide) (Nat.le_of_ble_eq_true rfl) rfl dX5_pickCell_75 ?_
      obtain ⟨⟨r29, S28⟩, hc30, hm⟩ := bd_some hm
      refine cV_X5_188_38 (pc := 78) X [.int x1, .int x2, .int 4, .long r26] [] 4 rfl (f_X5_send_e l g ad x1 x2 4 r26 S25 _ _ hc30) (by decide) (by decide) (Nat.le_of_ble_eq_true rfl) rfl dX5_pickCell_78 ?_
      refine iv_goto (pc := 81) X dX5_pickCell_81 (tgt := 129) rfl ?_
      cases hm
      exact is_vret (pc := 129) X dX5_pickCell_129
