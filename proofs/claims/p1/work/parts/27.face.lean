/-! written by program (wip/whole/walk.py): methods as functions, and their contracts -/
def f_X10_byteOf (x0 : Int64) (x2 : Int32) (S : im_S) : Option (Int32 × im_S) := some ((((x0.toUInt64 >>> ((8 * x2).toInt64.toUInt64 &&& Int64.toUInt64 63)).toInt64).toInt32) &&& 255, S)
set_option maxHeartbeats 4000000 in
set_option maxRecDepth 100000 in
theorem f_X10_byteOf_e (l : Launch) (g : im_G) (ad : Nat → Nat) (x0 : Int64) (x2 : Int32) (S : im_S) (r : Int32) (S' : im_S) (hm : f_X10_byteOf x0 x2 S = some (r, S')) : im_E l g ad 0 yX10_byteOf cX10_byteOf 3 (some Jvm.ClassFile.FieldType.int) [.long x0, .int x2] S (some (.int r)) S' := by
  unfold f_X10_byteOf at hm
  refine is_met (own := RX10) (by decide +kernel) rfl (Nat.le_of_ble_eq_true rfl) (fun p e s m below meth c X => ?_)
  refine iv_lload_n (pc := 0) X dX10_byteOf_0 rfl ?_
  refine iv_bipush (pc := 1) X dX10_byteOf_1 bc_8 ?_
  refine iv_iload_n (pc := 3) X dX10_byteOf_3 rfl ?_
  refine iv_imul (pc := 4) X dX10_byteOf_4 ?_
  refine iv_lushr (pc := 5) X dX10_byteOf_5 rfl ?_
  refine iv_l2i (pc := 6) X dX10_byteOf_6 rfl ?_
  refine iv_sipush (pc := 7) X dX10_byteOf_7 sc_255 ?_
  refine iv_iand (pc := 10) X dX10_byteOf_10 ?_
  cases hm
  exact is_iret (pc := 11) X dX10_byteOf_11
def f_X10_fault (x1 : Int32) (S : im_S) : Option (Int32 × im_S) := if x1 = (0 : Int32) then (some (S.1 5 0, S)) else (if x1 = (1 : Int32) then (some (S.1 5 1, S)) else (some ((-1), S)))
set_option maxHeartbeats 4000000 in
set_option maxRecDepth 100000 in
theorem f_X10_fault_e (l : Launch) (g : im_G) (ad : Nat → Nat) (x1 : Int32) (S : im_S) (r : Int32) (S' : im_S) (hm : f_X10_fault x1 S = some (r, S')) : im_E l g ad 0 yX10_fault cX10_fault 2 (some Jvm.ClassFile.FieldType.int) [.ref (ad 0), .int x1] S (some (.int r)) S' := by
  unfold f_X10_fault at hm
  refine is_met (own := RX10) (by decide +kernel) rfl (Nat.le_of_ble_eq_true rfl) (fun p e s m below meth c X => ?_)
  refine iv_iload_n (pc := 0) X dX10_fault_0 rfl ?_
  by_cases hb1 : x1 = (0 : Int32)
  · rw [if_pos hb1] at hm
    refine iv_lookup X dX10_fault_1 (off := 27) (tgt := 28) (by decide) (by rw [hb1]; decide) (by decide) ?_
    refine iv_aload_n (pc := 28) X dX10_fault_28 rfl ?_
    refine gF_X10_20_0 (pc := 29) X dX10_fault_29 ?_
    refine gF_X10_66_3 (pc := 32) X dX10_fault_32 ?_
    refine gF_X10_70_5 (pc := 35) X dX10_fault_35 (x := S.1 5 0) rfl ?_
    cases hm
    exact is_iret (pc := 38) X dX10_fault_38
  · rw [if_neg hb1] at hm
    by_cases hb2 : x1 = (1 : Int32)
    · rw [if_pos hb2] at hm
      refine iv_lookup X dX10_fault_1 (off := 38) (tgt := 39) (by decide) (by rw [hb2]; decide) (by decide) ?_
      refine iv_aload_n (pc := 39) X dX10_fault_39 rfl ?_
      refine gF_X10_20_0 (pc := 40) X dX10_fault_40 ?_
      refine gF_X10_66_3 (pc := 43) X dX10_fault_43 ?_
      refine gF_X10_75_5 (pc := 46) X dX10_fault_46 (x := S.1 5 1) rfl ?_
      cases hm
      exact is_iret (pc := 49) X dX10_fault_49
    · rw [if_neg hb2] at hm
      have k0 := sw_ne hb1 (n := 0) (by decide)
      have k1 := sw_ne hb2 (n := 1) (by decide)
      refine iv_lookup X dX10_fault_1 (off := 49) (tgt := 50) (by decide) (by simp [Op.lookupswitch.offset, k0, k0.symm, k1, k1.symm]) (by decide) ?_
      refine iv_iconst (pc := 50) X dX10_fault_50 ic_m1 ?_
      cases hm
      exact is_iret (pc := 51) X dX10_fault_51
def f_X10_state (S : im_S) : Option (Int32 × im_S) := (f_X5_condition S).bind (fun qS1 => some (qS1.1, qS1.2))
set_option maxHeartbeats 4000000 in
set_option maxRecDepth 100000 in
theorem f_X10_state_e (l : Launch) (g : im_G) (ad : Nat → Nat) (S : im_S) (r : Int32) (S' : im_S) (hm : f_X10_state  S = some (r, S')) : im_E l g ad 1 yX10_state cX10_state 1 (some Jvm.ClassFile.FieldType.int) [.ref (ad 0)] S (some (.int r)) S' := by
  unfold f_X10_state at hm
  refine is_met (own := RX10) (by decide +kernel) rfl (Nat.le_of_ble_eq_true rfl) (fun p e s m below meth c X => ?_)
  refine iv_aload_n (pc := 0) X dX10_state_0 rfl ?_
  refine gF_X10_27_0 (pc := 1) X dX10_state_1 ?_
  obtain ⟨⟨r2, S1⟩, hc3, hm⟩ := bd_some hm
  refine cV_X10_89_38 (pc := 4) X [] [] 0 rfl (f_X5_condition_e l g ad  S _ _ hc3) (by decide) (by decide) (Nat.le_of_ble_eq_true rfl) rfl dX10_state_4 ?_
  cases hm
  exact is_iret (pc := 7) X dX10_state_7
def f_X10_kind (S : im_S) : Option (Int32 × im_S) := (f_X5_condition S).bind (fun qS1 => if (qS1.1 : Int32) ≠ 2 then (some (0, qS1.2)) else (some (qS1.2.1 38 3, qS1.2)))
set_option maxHeartbeats 4000000 in
set_option maxRecDepth 100000 in
theorem f_X10_kind_e (l : Launch) (g : im_G) (ad : Nat → Nat) (S : im_S) (r : Int32) (S' : im_S) (hm : f_X10_kind  S = some (r, S')) : im_E l g ad 1 yX10_kind cX10_kind 1 (some Jvm.ClassFile.FieldType.int) [.ref (ad 0)] S (some (.int r)) S' := by
  unfold f_X10_kind at hm
  refine is_met (own := RX10) (by decide +kernel) rfl (Nat.le_of_ble_eq_true rfl) (fun p e s m below meth c X => ?_)
  refine iv_aload_n (pc := 0) X dX10_kind_0 rfl ?_
  refine gF_X10_27_0 (pc := 1) X dX10_kind_1 ?_
  obtain ⟨⟨r2, S1⟩, hc3, hm⟩ := bd_some hm
  refine cV_X10_89_38 (pc := 4) X [] [] 0 rfl (f_X5_condition_e l g ad  S _ _ hc3) (by decide) (by decide) (Nat.le_of_ble_eq_true rfl) rfl dX10_kind_4 ?_
  refine iv_iconst (pc := 7) X dX10_kind_7 ic_2 ?_
  refine iv_icmp_ne (pc := 8) X dX10_kind_8 (tgt := 21) rfl (fun hb4 => ?_) (fun hb4 => ?_)
  · rw [if_pos hb4] at hm
    refine iv_iconst (pc := 21) X dX10_kind_21 ic_0 ?_
    cases hm
    exact is_iret (pc := 22) X dX10_kind_22
  · rw [if_neg hb4] at hm
    refine iv_aload_n (pc := 11) X dX10_kind_11 rfl ?_
    refine gF_X10_27_0 (pc := 12) X dX10_kind_12 ?_
    refine gF_X10_115_38 (pc := 15) X dX10_kind_15 (x := S1.1 38 3) rfl ?_
    refine iv_goto (pc := 18) X dX10_kind_18 (tgt := 22) rfl ?_
    cases hm
    exact is_iret (pc := 22) X dX10_kind_22
def f_X10_count (x1 : Int32) (S : im_S) : Option (Int32 × im_S) := if x1 = (0 : Int32) then (some (S.1 38 2, S)) else (if x1 = (1 : Int32) then (some (S.1 0 5, S)) else (if x1 = (2 : Int32) then (some (S.1 56 3, S)) else (if x1 = (3 : Int32) then (some (S.1 0 6, S)) else (some ((-1), S)))))
set_option maxHeartbeats 4000000 in
set_option maxRecDepth 100000 in
theorem f_X10_count_e (l : Launch) (g : im_G) (ad : Nat → Nat) (x1 : Int32) (S : im_S) (r : Int32) (S' : im_S) (hm : f_X10_count x1 S = some (r, S')) : im_E l g ad 0 yX10_count cX10_count 2 (some Jvm.ClassFile.FieldType.int) [.ref (ad 0), .int x1] S (some (.int r)) S' := by
  unfold f_X10_count at hm
  refine is_met (own := RX10) (by decide +kernel) rfl (Nat.le_of_ble_eq_true rfl) (fun p e s m below meth c X => ?_)
  refine iv_iload_n (pc := 0) X dX10_count_0 rfl ?_
  by_cases hb1 : x1 = (0 : Int32)
  · rw [if_pos hb1] at hm
    refine iv_tableIn X dX10_count_1 (off := 31) (tgt := 32) (by rw [hb1]; decide) (by rw [hb1]; decide) (by rw [hb1]; decide) (by decide) ?_
    refine iv_aload_n (pc := 32) X dX10_count_32 rfl ?_
    refine gF_X10_27_0 (pc := 33) X dX10_count_33 ?_
    refine gF_X10_102_38 (pc := 36) X dX10_count_36 (x := S.1 38 2) rfl ?_
    cases hm
    exact is_iret (pc := 39) X dX10_count_39
  · rw [if_neg hb1] at hm
    by_cases hb2 : x1 = (1 : Int32)
    · rw [if_pos hb2] at hm
      refine iv_tableIn X dX10_count_1 (off := 39) (tgt := 40) (by rw [hb2]; decide) (by rw [hb2]; decide) (by rw [hb2]; decide) (by decide) ?_
      refine iv_aload_n (pc := 40) X dX10_count_40 rfl ?_
      refine gF_X10_96_0 (pc := 41) X dX10_count_41 (x := S.1 0 5) rfl ?_
      cases hm
      exact is_iret (pc := 44) X dX10_count_44
    · rw [if_neg hb2] at hm
      by_cases hb3 : x1 = (2 : Int32)
      · rw [if_pos hb3] at hm
        refine iv_tableIn X dX10_count_1 (off := 44) (tgt := 45) (by rw [hb3]; decide) (by rw [hb3]; decide) (by rw [hb3]; decide) (by decide) ?_
        refine iv_aload_n (pc := 45) X dX10_count_45 rfl ?_
        refine gF_X10_27_0 (pc := 46) X dX10_count_46 ?_
        refine gF_X10_46_38 (pc := 49) X dX10_count_49 ?_
        refine gF_X10_55_40 (pc := 52) X dX10_count_52 ?_
        refine gF_X10_61_56 (pc := 55) X dX10_count_55 (x := S.1 56 3) rfl ?_
        cases hm
        exact is_iret (pc := 58) X dX10_count_58
      · rw [if_neg hb3] at hm
        by_cases hb4 : x1 = (3 : Int32)
        · rw [if_pos hb4] at hm
          refine iv_tableIn X dX10_count_1 (off := 58) (tgt := 59) (by rw [hb4]; decide) (by rw [hb4]; decide) (by rw [hb4]; decide) (by decide) ?_
          refine iv_aload_n (pc := 59) X dX10_count_59 rfl ?_
          refine gF_X10_86_0 (pc := 60) X dX10_count_60 (x := S.1 0 6) rfl ?_
          cases hm
          exact is_iret (pc := 63) X dX10_count_63
        · rw [if_neg hb4] at hm
          have k0 := sw_ne hb1 (n := 0) (by decide)
          have k1 := sw_ne hb2 (n := 1) (by decide)
          have k2 := sw_ne hb3 (n := 2) (by decide)
          have k3 := sw_ne hb4 (n := 3) (by decide)
          refine iv_tableOut X dX10_count_1 (tgt := 64) (by omega) (by decide) ?_
          refine iv_iconst (pc := 64) X dX10_count_64 ic_m1 ?_
          cases hm
          exact is_iret (pc := 65) X dX10_count_65
def f_X10_type_L69 (fu : Nat) : Nat → Int64 → Int32 → Int32 → im_S → Option (Int32 × im_S)
  | 0, _, _, _, _ => none
  | nf + 1, z1, z3, z4, S => if (z4 : Int32) < 0 then (some (1, S)) else ((f_X10_byteOf z1 z4 S).bind (fun qS2 => gd (in_b (S.1 0 4) 500) (f_X10_type_L69 fu nf z1 z3 (z4 + (-1)) (uI (uI qS2.2 1 ((S.1 0 4).toNatClampNeg) (vp_nar .byte qS2.1.toInt8.toInt32)) 0 4 ((qS2.2.1 0 4) + 1)))))
set_option maxHeartbeats 4000000 in
set_option maxRecDepth 100000 in
theorem f_X10_type_L69_w {fu : Nat} (l : Launch) (g : im_G) (ad : Nat → Nat) {p : Program} {e : Env} {s : State} {m : MethodId} {below : List Frame} {meth : Method} {c : Code} {args : Array Value} (X : im_X p l s m args meth c g cX10_type 6 RX10 (some Jvm.ClassFile.FieldType.boolean)) : ∀ (nf : Nat) (z1 : Int64) (z3 : Int32) (z4 : Int32) (S : im_S) (r : Int32) (S' : im_S), f_X10_type_L69 fu nf z1 z3 z4 S = some (r, S') → im_V p l e (im_R 1 0 0) s m args below meth c g 6 (im_Z below g ad args s (some (.int r)) S') ad im_N (im_cn g ad S) 0 0 69 [(0, .ref (ad 0)), (1, .long z1), (3, .int z3), (4, .int z4)] [] := by
  intro nf
  induction nf with
  | zero =>
    intro z1 z3 z4 S r S' hm
    cases hm
  | succ nf ih =>
    intro z1 z3 z4 S r S' hm
    unfold f_X10_type_L69 at hm
    refine iv_iload (pc := 69) X dX10_type_69 rfl ?_
    refine iv_if_lt (pc := 71) X dX10_type_71 (tgt := 106) rfl (fun hb1 => ?_) (fun hb1 => ?_)
    · rw [if_pos hb1] at hm
      refine iv_iconst (pc := 106) X dX10_type_106 ic_1 ?_
      cases hm
      exact is_zret (pc := 107) X dX10_type_107 rfl
    · rw [if_neg hb1] at hm
      refine iv_aload_n (pc := 74) X dX10_type_74 rfl ?_
      refine gF_X10_9_0 (pc := 75) X dX10_type_75 ?_
      refine iv_aload_n (pc := 78) X dX10_type_78 rfl ?_
      refine gF_X10_31_0 (pc := 79) X dX10_type_79 (x := S.1 0 4) rfl ?_
      refine iv_lload_n (pc := 82) X dX10_type_82 rfl ?_
      refine iv_iload (pc := 83) X dX10_type_83 rfl ?_
      obtain ⟨⟨r3, S2⟩, hc4, hm⟩ := bd_some hm
      refine cS_X10_35 (pc := 85) X [.long z1, .int z4] [.int (S.1 0 4), .ref (ad 1)] 2 rfl (f_X10_byteOf_e l g ad z1 z4 S _ _ hc4) (by decide) (by decide) (Nat.le_of_ble_eq_true rfl) rfl dX10_type_85 ?_
      refine iv_i2b (pc := 88) X dX10_type_88 rfl ?_
      obtain ⟨hg, hm⟩ := gd_some hm
      refine aS_1 (pc := 89) X dX10_type_89 hg ?_
      refine iv_aload_n (pc := 90) X dX10_type_90 rfl ?_
      refine iv_dup (pc := 91) X dX10_type_91 rfl ?_
      refine gF_X10_31_0 (pc := 92) X dX10_type_92 (x := S2.1 0 4) rfl ?_
      refine iv_iconst (pc := 95) X dX10_type_95 ic_1 ?_
      refine iv_iadd (pc := 96) X dX10_type_96 ?_
      refine pF_X10_31_0 (pc := 97) X dX10_type_97 ?_
      refine iv_iinc (pc := 100) X dX10_type_100 rfl (by decide) (v := z4 + (-1)) rfl (lv' := [(4, .int (z4 + (-1))), (0, .ref (ad 0)), (1, .long z1), (3, .int z3)]) rfl ?_
      refine iv_goto (pc := 103) X dX10_type_103 (tgt := 69) rfl ?_
      refine iv_sub [1, 2, 3, 0] (lv2 := [(0, .ref (ad 0)), (1, .long z1), (3, .int z3), (4, .int (z4 + (-1)))]) rfl ?_
      exact ih z1 z3 (z4 + (-1)) (uI (uI S2 1 ((S.1 0 4).toNatClampNeg) (vp_nar .byte r3.toInt8.toInt32)) 0 4 ((S2.1 0 4) + 1)) _ _ hm
def f_X10_type_L28 (fu : Nat) : Nat → Int64 → Int32 → Int32 → im_S → Option (Int32 × im_S)
  | 0, _, _, _, _ => none
  | nf + 1, z1, z3, z4, S => if (z3 : Int32) ≤ z4 then (f_X10_type_L69 fu fu z1 z3 (z3 - 1) S) else ((f_X10_byteOf z1 z4 S).bind (fun qS2 => if (qS2.1 : Int32) < 32 then (some (0, qS2.2)) else (if (qS2.1 : Int32) ≤ 126 then (f_X10_type_L28 fu nf z1 z3 (z4 + 1) qS2.2) else (some (0, qS2.2)))))
set_option maxHeartbeats 4000000 in
set_option maxRecDepth 100000 in
theorem f_X10_type_L28_w {fu : Nat} (l : Launch) (g : im_G) (ad : Nat → Nat) {p : Program} {e : Env} {s : State} {m : MethodId} {below : List Frame} {meth : Method} {c : Code} {args : Array Value} (X : im_X p l s m args meth c g cX10_type 6 RX10 (some Jvm.ClassFile.FieldType.boolean)) : ∀ (nf : Nat) (z1 : Int64) (z3 : Int32) (z4 : Int32) (S : im_S) (r : Int32) (S' : im_S), f_X10_type_L28 fu nf z1 z3 z4 S = some (r, S') → im_V p l e (im_R 1 0 0) s m args below meth c g 6 (im_Z below g ad args s (some (.int r)) S') ad im_N (im_cn g ad S) 0 0 28 [(0, .ref (ad 0)), (1, .long z1), (3, .int z3), (4, .int z4)] [] := by
  intro nf
  induction nf with
  | zero =>
    intro z1 z3 z4 S r S' hm
    cases hm
  | succ nf ih =>
    intro z1 z3 z4 S r S' hm
    unfold f_X10_type_L28 at hm
    refine iv_iload (pc := 28) X dX10_type_28 rfl ?_
    refine iv_iload_n (pc := 30) X dX10_type_30 rfl ?_
    refine iv_icmp_ge (pc := 31) X dX10_type_31 (tgt := 64) rfl (fun hb1 => ?_) (fun hb1 => ?_)
    · rw [if_pos hb1] at hm
      refine iv_iload_n (pc := 64) X dX10_type_64 rfl ?_
      refine iv_iconst (pc := 65) X dX10_type_65 ic_1 ?_
      refine iv_isub (pc := 66) X dX10_type_66 ?_
      refine iv_istore (pc := 67) X dX10_type_67 (by decide) (lv' := [(4, .int (z3 - 1)), (0, .ref (ad 0)), (1, .long z1), (3, .int z3)]) rfl ?_
      refine iv_sub [1, 2, 3, 0] (lv2 := [(0, .ref (ad 0)), (1, .long z1), (3, .int z3), (4, .int (z3 - 1))]) rfl ?_
      exact f_X10_type_L69_w (fu := fu) l g ad X fu z1 z3 (z3 - 1) S _ _ hm
    · rw [if_neg hb1] at hm
      refine iv_lload_n (pc := 34) X dX10_type_34 rfl ?_
      refine iv_iload (pc := 35) X dX10_type_35 rfl ?_
      obtain ⟨⟨r3, S2⟩, hc4, hm⟩ := bd_some hm
      refine cS_X10_35 (pc := 37) X [.long z1, .int z4] [] 2 rfl (f_X10_byteOf_e l g ad z1 z4 S _ _ hc4) (by decide) (by decide) (Nat.le_of_ble_eq_true rfl) rfl dX10_type_37 ?_
      refine iv_istore (pc := 40) X dX10_type_40 (by decide) (lv' := [(5, .int r3), (0, .ref (ad 0)), (1, .long z1), (3, .int z3), (4, .int z4)]) rfl ?_
      refine iv_iload (pc := 42) X dX10_type_42 rfl ?_
      refine iv_bipush (pc := 44) X dX10_type_44 bc_32 ?_
      refine iv_icmp_lt (pc := 46) X dX10_type_46 (tgt := 56) rfl (fun hb5 => ?_) (fun hb5 => ?_)
      · rw [if_pos hb5] at hm
        refine iv_iconst (pc := 56) X dX10_type_56 ic_0 ?_
        cases hm
        exact is_zret (pc := 57) X dX10_type_57 rfl
      · rw [if_neg hb5] at hm
        refine iv_iload (pc := 49) X dX10_type_49 rfl ?_
        refine iv_bipush (pc := 51) X dX10_type_51 bc_126 ?_
        refine iv_icmp_le (pc := 53) X dX10_type_53 (tgt := 58) rfl (fun hb6 => ?_) (fun hb6 => ?_)
        · rw [if_pos hb6] at hm
          refine iv_iinc (pc := 58) X dX10_type_58 rfl (by decide) (v := z4 + 1) rfl (lv' := [(4, .int (z4 + 1)), (5, .int r3), (0, .ref (ad 0)), (1, .long z1), (3, .int z3)]) rfl ?_
          refine iv_goto (pc := 61) X dX10_type_61 (tgt := 28) rfl ?_
          refine iv_sub [2, 3, 4, 0] (lv2 := [(0, .ref (ad 0)), (1, .long z1), (3, .int z3), (4, .int (z4 + 1))]) rfl ?_
          exact ih z1 z3 (z4 + 1) S2 _ _ hm
        · rw [if_neg hb6] at hm
          refine iv_iconst (pc := 56) X dX10_type_56 ic_0 ?_
          cases hm
          exact is_zret (pc := 57) X dX10_type_57 rfl
def f_X10_type (fu : Nat) (x1 : Int64) (x3 : Int32) (S : im_S) : Option (Int32 × im_S) := if (x3 : Int32) < 1 then (some (0, S)) else (if (8 : Int32) < x3 then (some (0, S)) else (if ((S.1 0 4) + x3 : Int32) ≤ 500 then (f_X10_type_L28 fu fu x1 x3 0 S) else (some (0, S))))
set_option maxHeartbeats 4000000 in
set_option maxRecDepth 100000 in
theorem f_X10_type_e (l : Launch) (g : im_G) (ad : Nat → Nat) (fu : Nat) (x1 : Int64) (x3 : Int32) (S : im_S) (r : Int32) (S' : im_S) (hm : f_X10_type fu x1 x3 S = some (r, S')) : im_E l g ad 1 yX10_type cX10_type 6 (some Jvm.ClassFile.FieldType.boolean) [.ref (ad 0), .long x1, .int x3] S (some (.int r)) S' := by
  unfold f_X10_type at hm
  refine is_met (own := RX10) (by decide +kernel) rfl (Nat.le_of_ble_eq_true rfl) (fun p e s m below meth c X => ?_)
  refine iv_iload_n (pc := 0) X dX10_type_0 rfl ?_
  refine iv_iconst (pc := 1) X dX10_type_1 ic_1 ?_
  refine iv_icmp_lt (pc := 2) X dX10_type_2 (tgt := 23) rfl (fun hb1 => ?_) (fun hb1 => ?_)
  · rw [if_pos hb1] at hm
    refine iv_iconst (pc := 23) X dX10_type_23 ic_0 ?_
    cases hm
    exact is_zret (pc := 24) X dX10_type_24 rfl
  · rw [if_neg hb1] at hm
    refine iv_iload_n (pc := 5) X dX10_type_5 rfl ?_
    refine iv_bipush (pc := 6) X dX10_type_6 bc_8 ?_
    refine iv_icmp_gt (pc := 8) X dX10_type_8 (tgt := 23) rfl (fun hb2 => ?_) (fun hb2 => ?_)
    · rw [if_pos hb2] at hm
      refine iv_iconst (pc := 23) X dX10_type_23 ic_0 ?_
      cases hm
      exact is_zret (pc := 24) X dX10_type_24 rfl
    · rw [if_neg hb2] at hm
      refine iv_aload_n (pc := 11) X dX10_type_11 rfl ?_
      refine gF_X10_31_0 (pc := 12) X dX10_type_12 (x := S.1 0 4) rfl ?_
      refine iv_iload_n (pc := 15) X dX10_type_15 rfl ?_
      refine iv_iadd (pc := 16) X dX10_type_16 ?_
      refine iv_sipush (pc := 17) X dX10_type_17 sc_500 ?_
      refine iv_icmp_le (pc := 20) X dX10_type_20 (tgt := 25) rfl (fun hb3 => ?_) (fun hb3 => ?_)
      · rw [if_pos hb3] at hm
        refine iv_iconst (pc := 25) X dX10_type_25 ic_0 ?_
        refine iv_istore (pc := 26) X dX10_type_26 (by decide) (lv' := [(4, .int 0), (0, .ref (ad 0)), (1, .long x1), (3, .int x3)]) rfl ?_
        refine iv_sub [1, 2, 3, 0] (lv2 := [(0, .ref (ad 0)), (1, .long x1), (3, .int x3), (4, .int 0)]) rfl ?_
        exact f_X10_type_L28_w (fu := fu) l g ad X fu x1 x3 0 S _ _ hm
      · rw [if_neg hb3] at hm
        refine iv_iconst (pc := 23) X dX10_type_23 ic_0 ?_
        cases hm
        exact is_zret (pc := 24) X dX10_type_24 rfl
