/-! written by program (wip/whole/walk.py): methods as functions, and their contracts -/
def f_X11_thrown (S : im_S) : Option (Int32 × im_S) := some (S.1 75 0, S)
set_option maxHeartbeats 4000000 in
set_option maxRecDepth 100000 in
theorem f_X11_thrown_e (l : Launch) (g : im_G) (ad : Nat → Nat) (S : im_S) (r : Int32) (S' : im_S) (hm : f_X11_thrown  S = some (r, S')) : im_E l g ad 0 yX11_thrown cX11_thrown 1 (some Jvm.ClassFile.FieldType.int) [.ref (ad 75)] S (some (.int r)) S' := by
  unfold f_X11_thrown at hm
  refine is_met (own := RX11) (by decide +kernel) rfl (Nat.le_of_ble_eq_true rfl) (fun p e s m below meth c X => ?_)
  refine iv_aload_n (pc := 0) X dX11_thrown_0 rfl ?_
  refine gF_X11_186_75 (pc := 1) X dX11_thrown_1 (x := S.1 75 0) rfl ?_
  cases hm
  exact is_iret (pc := 4) X dX11_thrown_4
def f_X11_raise (x1 : Int32) (S : im_S) : Option (Int32 × im_S) := some (0, (uI S 75 0 x1))
set_option maxHeartbeats 4000000 in
set_option maxRecDepth 100000 in
theorem f_X11_raise_e (l : Launch) (g : im_G) (ad : Nat → Nat) (x1 : Int32) (S : im_S) (r : Int32) (S' : im_S) (hm : f_X11_raise x1 S = some (r, S')) : im_E l g ad 0 yX11_raise cX11_raise 2 (some Jvm.ClassFile.FieldType.int) [.ref (ad 75), .int x1] S (some (.int r)) S' := by
  unfold f_X11_raise at hm
  refine is_met (own := RX11) (by decide +kernel) rfl (Nat.le_of_ble_eq_true rfl) (fun p e s m below meth c X => ?_)
  refine iv_aload_n (pc := 0) X dX11_raise_0 rfl ?_
  refine iv_iload_n (pc := 1) X dX11_raise_1 rfl ?_
  refine pF_X11_186_75 (pc := 2) X dX11_raise_2 ?_
  refine iv_iconst (pc := 5) X dX11_raise_5 ic_0 ?_
  cases hm
  exact is_iret (pc := 6) X dX11_raise_6
def f_X11_type_L80 (fu : Nat) : Nat → Int64 → Int32 → Int32 → im_S → Option (Int32 × im_S)
  | 0, _, _, _, _ => none
  | nf + 1, z1, z3, z4, S => if (z4 : Int32) < 0 then (some (1, S)) else (gd (in_b (S.1 75 2) 500) (f_X11_type_L80 fu nf z1 z3 (z4 + (-1)) (uI (uI S 76 ((S.1 75 2).toNatClampNeg) (((z1 >>> ((8 * z4).toInt64 &&& 63)) &&& 255).toInt32)) 75 2 ((S.1 75 2) + 1))))
set_option maxHeartbeats 4000000 in
set_option maxRecDepth 100000 in
theorem f_X11_type_L80_w {fu : Nat} (l : Launch) (g : im_G) (ad : Nat → Nat) {p : Program} {e : Env} {s : State} {m : MethodId} {below : List Frame} {meth : Method} {c : Code} {args : Array Value} (X : im_X p l s m args meth c g cX11_type 6 RX11 (some Jvm.ClassFile.FieldType.boolean)) : ∀ (nf : Nat) (z1 : Int64) (z3 : Int32) (z4 : Int32) (S : im_S) (r : Int32) (S' : im_S), f_X11_type_L80 fu nf z1 z3 z4 S = some (r, S') → im_V p l e (im_R 0 0 0) s m args below meth c g 6 (im_Z below g ad args s (some (.int r)) S') ad im_N (im_cn g ad S) 0 0 80 [(0, .ref (ad 75)), (1, .long z1), (3, .int z3), (4, .int z4)] [] := by
  intro nf
  induction nf with
  | zero =>
    intro z1 z3 z4 S r S' hm
    cases hm
  | succ nf ih =>
    intro z1 z3 z4 S r S' hm
    unfold f_X11_type_L80 at hm
    refine iv_iload (pc := 80) X dX11_type_80 rfl ?_
    refine iv_if_lt (pc := 82) X dX11_type_82 (tgt := 122) rfl (fun hb1 => ?_) (fun hb1 => ?_)
    · rw [if_pos hb1] at hm
      refine iv_iconst (pc := 122) X dX11_type_122 ic_1 ?_
      cases hm
      exact is_zret (pc := 123) X dX11_type_123 rfl
    · rw [if_neg hb1] at hm
      refine iv_aload_n (pc := 85) X dX11_type_85 rfl ?_
      refine gF_X11_7_75 (pc := 86) X dX11_type_86 ?_
      refine iv_aload_n (pc := 89) X dX11_type_89 rfl ?_
      refine gF_X11_190_75 (pc := 90) X dX11_type_90 (x := S.1 75 2) rfl ?_
      refine iv_lload_n (pc := 93) X dX11_type_93 rfl ?_
      refine iv_bipush (pc := 94) X dX11_type_94 bc_8 ?_
      refine iv_iload (pc := 96) X dX11_type_96 rfl ?_
      refine iv_imul (pc := 98) X dX11_type_98 ?_
      refine iv_lshr (pc := 99) X dX11_type_99 rfl ?_
      refine iv_ldc2 (pc := 100) X wk_X11_193 dX11_type_100 ?_
      refine iv_land (pc := 103) X dX11_type_103 ?_
      refine iv_l2i (pc := 104) X dX11_type_104 rfl ?_
      obtain ⟨hg, hm⟩ := gd_some hm
      refine aS_76 (pc := 105) X dX11_type_105 hg ?_
      refine iv_aload_n (pc := 106) X dX11_type_106 rfl ?_
      refine iv_dup (pc := 107) X dX11_type_107 rfl ?_
      refine gF_X11_190_75 (pc := 108) X dX11_type_108 (x := S.1 75 2) rfl ?_
      refine iv_iconst (pc := 111) X dX11_type_111 ic_1 ?_
      refine iv_iadd (pc := 112) X dX11_type_112 ?_
      refine pF_X11_190_75 (pc := 113) X dX11_type_113 ?_
      refine iv_iinc (pc := 116) X dX11_type_116 rfl (by decide) (v := z4 + (-1)) rfl (lv' := [(4, .int (z4 + (-1))), (0, .ref (ad 75)), (1, .long z1), (3, .int z3)]) rfl ?_
      refine iv_goto (pc := 119) X dX11_type_119 (tgt := 80) rfl ?_
      refine iv_sub [1, 2, 3, 0] (lv2 := [(0, .ref (ad 75)), (1, .long z1), (3, .int z3), (4, .int (z4 + (-1)))]) rfl ?_
      exact ih z1 z3 (z4 + (-1)) (uI (uI S 76 ((S.1 75 2).toNatClampNeg) (((z1 >>> ((8 * z4).toInt64 &&& 63)) &&& 255).toInt32)) 75 2 ((S.1 75 2) + 1)) _ _ hm
def f_X11_type_L33 (fu : Nat) : Nat → Int64 → Int32 → Int32 → im_S → Option (Int32 × im_S)
  | 0, _, _, _, _ => none
  | nf + 1, z1, z3, z4, S => if (z3 : Int32) ≤ z4 then (f_X11_type_L80 fu fu z1 z3 (z3 - 1) S) else (if (((z1 >>> ((8 * z4).toInt64 &&& 63)) &&& 255).toInt32 : Int32) < 32 then (some (0, S)) else (if (((z1 >>> ((8 * z4).toInt64 &&& 63)) &&& 255).toInt32 : Int32) ≤ 126 then (f_X11_type_L33 fu nf z1 z3 (z4 + 1) S) else (some (0, S))))
set_option maxHeartbeats 4000000 in
set_option maxRecDepth 100000 in
theorem f_X11_type_L33_w {fu : Nat} (l : Launch) (g : im_G) (ad : Nat → Nat) {p : Program} {e : Env} {s : State} {m : MethodId} {below : List Frame} {meth : Method} {c : Code} {args : Array Value} (X : im_X p l s m args meth c g cX11_type 6 RX11 (some Jvm.ClassFile.FieldType.boolean)) : ∀ (nf : Nat) (z1 : Int64) (z3 : Int32) (z4 : Int32) (S : im_S) (r : Int32) (S' : im_S), f_X11_type_L33 fu nf z1 z3 z4 S = some (r, S') → im_V p l e (im_R 0 0 0) s m args below meth c g 6 (im_Z below g ad args s (some (.int r)) S') ad im_N (im_cn g ad S) 0 0 33 [(0, .ref (ad 75)), (1, .long z1), (3, .int z3), (4, .int z4)] [] := by
  intro nf
  induction nf with
  | zero =>
    intro z1 z3 z4 S r S' hm
    cases hm
  | succ nf ih =>
    intro z1 z3 z4 S r S' hm
    unfold f_X11_type_L33 at hm
    refine iv_iload (pc := 33) X dX11_type_33 rfl ?_
    refine iv_iload_n (pc := 35) X dX11_type_35 rfl ?_
    refine iv_icmp_ge (pc := 36) X dX11_type_36 (tgt := 75) rfl (fun hb1 => ?_) (fun hb1 => ?_)
    · rw [if_pos hb1] at hm
      refine iv_iload_n (pc := 75) X dX11_type_75 rfl ?_
      refine iv_iconst (pc := 76) X dX11_type_76 ic_1 ?_
      refine iv_isub (pc := 77) X dX11_type_77 ?_
      refine iv_istore (pc := 78) X dX11_type_78 (by decide) (lv' := [(4, .int (z3 - 1)), (0, .ref (ad 75)), (1, .long z1), (3, .int z3)]) rfl ?_
      refine iv_sub [1, 2, 3, 0] (lv2 := [(0, .ref (ad 75)), (1, .long z1), (3, .int z3), (4, .int (z3 - 1))]) rfl ?_
      exact f_X11_type_L80_w (fu := fu) l g ad X fu z1 z3 (z3 - 1) S _ _ hm
    · rw [if_neg hb1] at hm
      refine iv_lload_n (pc := 39) X dX11_type_39 rfl ?_
      refine iv_bipush (pc := 40) X dX11_type_40 bc_8 ?_
      refine iv_iload (pc := 42) X dX11_type_42 rfl ?_
      refine iv_imul (pc := 44) X dX11_type_44 ?_
      refine iv_lshr (pc := 45) X dX11_type_45 rfl ?_
      refine iv_ldc2 (pc := 46) X wk_X11_193 dX11_type_46 ?_
      refine iv_land (pc := 49) X dX11_type_49 ?_
      refine iv_l2i (pc := 50) X dX11_type_50 rfl ?_
      refine iv_istore (pc := 51) X dX11_type_51 (by decide) (lv' := [(5, .int (((z1 >>> ((8 * z4).toInt64 &&& 63)) &&& 255).toInt32)), (0, .ref (ad 75)), (1, .long z1), (3, .int z3), (4, .int z4)]) rfl ?_
      refine iv_iload (pc := 53) X dX11_type_53 rfl ?_
      refine iv_bipush (pc := 55) X dX11_type_55 bc_32 ?_
      refine iv_icmp_lt (pc := 57) X dX11_type_57 (tgt := 67) rfl (fun hb2 => ?_) (fun hb2 => ?_)
      · rw [if_pos hb2] at hm
        refine iv_iconst (pc := 67) X dX11_type_67 ic_0 ?_
        cases hm
        exact is_zret (pc := 68) X dX11_type_68 rfl
      · rw [if_neg hb2] at hm
        refine iv_iload (pc := 60) X dX11_type_60 rfl ?_
        refine iv_bipush (pc := 62) X dX11_type_62 bc_126 ?_
        refine iv_icmp_le (pc := 64) X dX11_type_64 (tgt := 69) rfl (fun hb3 => ?_) (fun hb3 => ?_)
        · rw [if_pos hb3] at hm
          refine iv_iinc (pc := 69) X dX11_type_69 rfl (by decide) (v := z4 + 1) rfl (lv' := [(4, .int (z4 + 1)), (5, .int (((z1 >>> ((8 * z4).toInt64 &&& 63)) &&& 255).toInt32)), (0, .ref (ad 75)), (1, .long z1), (3, .int z3)]) rfl ?_
          refine iv_goto (pc := 72) X dX11_type_72 (tgt := 33) rfl ?_
          refine iv_sub [2, 3, 4, 0] (lv2 := [(0, .ref (ad 75)), (1, .long z1), (3, .int z3), (4, .int (z4 + 1))]) rfl ?_
          exact ih z1 z3 (z4 + 1) S _ _ hm
        · rw [if_neg hb3] at hm
          refine iv_iconst (pc := 67) X dX11_type_67 ic_0 ?_
          cases hm
          exact is_zret (pc := 68) X dX11_type_68 rfl
def f_X11_type (fu : Nat) (x1 : Int64) (x3 : Int32) (S : im_S) : Option (Int32 × im_S) := if (x3 : Int32) < 1 then (some (0, (uI S 75 0 0))) else (if (8 : Int32) < x3 then (some (0, (uI S 75 0 0))) else (if ((S.1 75 2) + x3 : Int32) ≤ 500 then (f_X11_type_L33 fu fu x1 x3 0 (uI S 75 0 0)) else (some (0, (uI S 75 0 0)))))
set_option maxHeartbeats 4000000 in
set_option maxRecDepth 100000 in
theorem f_X11_type_e (l : Launch) (g : im_G) (ad : Nat → Nat) (fu : Nat) (x1 : Int64) (x3 : Int32) (S : im_S) (r : Int32) (S' : im_S) (hm : f_X11_type fu x1 x3 S = some (r, S')) : im_E l g ad 0 yX11_type cX11_type 6 (some Jvm.ClassFile.FieldType.boolean) [.ref (ad 75), .long x1, .int x3] S (some (.int r)) S' := by
  unfold f_X11_type at hm
  refine is_met (own := RX11) (by decide +kernel) rfl (Nat.le_of_ble_eq_true rfl) (fun p e s m below meth c X => ?_)
  refine iv_aload_n (pc := 0) X dX11_type_0 rfl ?_
  refine iv_iconst (pc := 1) X dX11_type_1 ic_0 ?_
  refine pF_X11_186_75 (pc := 2) X dX11_type_2 ?_
  refine iv_iload_n (pc := 5) X dX11_type_5 rfl ?_
  refine iv_iconst (pc := 6) X dX11_type_6 ic_1 ?_
  refine iv_icmp_lt (pc := 7) X dX11_type_7 (tgt := 28) rfl (fun hb1 => ?_) (fun hb1 => ?_)
  · rw [if_pos hb1] at hm
    refine iv_iconst (pc := 28) X dX11_type_28 ic_0 ?_
    cases hm
    exact is_zret (pc := 29) X dX11_type_29 rfl
  · rw [if_neg hb1] at hm
    refine iv_iload_n (pc := 10) X dX11_type_10 rfl ?_
    refine iv_bipush (pc := 11) X dX11_type_11 bc_8 ?_
    refine iv_icmp_gt (pc := 13) X dX11_type_13 (tgt := 28) rfl (fun hb2 => ?_) (fun hb2 => ?_)
    · rw [if_pos hb2] at hm
      refine iv_iconst (pc := 28) X dX11_type_28 ic_0 ?_
      cases hm
      exact is_zret (pc := 29) X dX11_type_29 rfl
    · rw [if_neg hb2] at hm
      refine iv_aload_n (pc := 16) X dX11_type_16 rfl ?_
      refine gF_X11_190_75 (pc := 17) X dX11_type_17 (x := S.1 75 2) rfl ?_
      refine iv_iload_n (pc := 20) X dX11_type_20 rfl ?_
      refine iv_iadd (pc := 21) X dX11_type_21 ?_
      refine iv_sipush (pc := 22) X dX11_type_22 sc_500 ?_
      refine iv_icmp_le (pc := 25) X dX11_type_25 (tgt := 30) rfl (fun hb3 => ?_) (fun hb3 => ?_)
      · rw [if_pos hb3] at hm
        refine iv_iconst (pc := 30) X dX11_type_30 ic_0 ?_
        refine iv_istore (pc := 31) X dX11_type_31 (by decide) (lv' := [(4, .int 0), (0, .ref (ad 75)), (1, .long x1), (3, .int x3)]) rfl ?_
        refine iv_sub [1, 2, 3, 0] (lv2 := [(0, .ref (ad 75)), (1, .long x1), (3, .int x3), (4, .int 0)]) rfl ?_
        exact f_X11_type_L33_w (fu := fu) l g ad X fu x1 x3 0 (uI S 75 0 0) _ _ hm
      · rw [if_neg hb3] at hm
        refine iv_iconst (pc := 28) X dX11_type_28 ic_0 ?_
        cases hm
        exact is_zret (pc := 29) X dX11_type_29 rfl
def f_X11_character (x1 : Int32) (S : im_S) : Option (Int32 × im_S) := if (S.1 75 2 : Int32) ≤ x1 then (some (0, S)) else (gd (in_b x1 500) (some ((S.1 76) x1.toNatClampNeg, S)))
set_option maxHeartbeats 4000000 in
set_option maxRecDepth 100000 in
theorem f_X11_character_e (l : Launch) (g : im_G) (ad : Nat → Nat) (x1 : Int32) (S : im_S) (r : Int32) (S' : im_S) (hm : f_X11_character x1 S = some (r, S')) : im_E l g ad 0 yX11_character cX11_character 2 (some Jvm.ClassFile.FieldType.int) [.ref (ad 75), .int x1] S (some (.int r)) S' := by
  unfold f_X11_character at hm
  refine is_met (own := RX11) (by decide +kernel) rfl (Nat.le_of_ble_eq_true rfl) (fun p e s m below meth c X => ?_)
  refine iv_iload_n (pc := 0) X dX11_character_0 rfl ?_
  refine iv_aload_n (pc := 1) X dX11_character_1 rfl ?_
  refine gF_X11_190_75 (pc := 2) X dX11_character_2 (x := S.1 75 2) rfl ?_
  refine iv_icmp_ge (pc := 5) X dX11_character_5 (tgt := 17) rfl (fun hb1 => ?_) (fun hb1 => ?_)
  · rw [if_pos hb1] at hm
    refine iv_iconst (pc := 17) X dX11_character_17 ic_0 ?_
    cases hm
    exact is_iret (pc := 18) X dX11_character_18
  · rw [if_neg hb1] at hm
    refine iv_aload_n (pc := 8) X dX11_character_8 rfl ?_
    refine gF_X11_7_75 (pc := 9) X dX11_character_9 ?_
    refine iv_iload_n (pc := 12) X dX11_character_12 rfl ?_
    obtain ⟨hg, hm⟩ := gd_some hm
    refine aL_76 (pc := 13) X dX11_character_13 hg (x := (S.1 76) x1.toNatClampNeg) rfl ?_
    refine iv_goto (pc := 14) X dX11_character_14 (tgt := 18) rfl ?_
    cases hm
    exact is_iret (pc := 18) X dX11_character_18
def f_X11_isDigit (x0 : Int32) (S : im_S) : Option (Int32 × im_S) := if (x0 : Int32) < 48 then (some (0, S)) else (if (57 : Int32) < x0 then (some (0, S)) else (some (1, S)))
set_option maxHeartbeats 4000000 in
set_option maxRecDepth 100000 in
theorem f_X11_isDigit_e (l : Launch) (g : im_G) (ad : Nat → Nat) (x0 : Int32) (S : im_S) (r : Int32) (S' : im_S) (hm : f_X11_isDigit x0 S = some (r, S')) : im_E l g ad 0 yX11_isDigit cX11_isDigit 1 (some Jvm.ClassFile.FieldType.boolean) [.int x0] S (some (.int r)) S' := by
  unfold f_X11_isDigit at hm
  refine is_met (own := RX11) (by decide +kernel) rfl (Nat.le_of_ble_eq_true rfl) (fun p e s m below meth c X => ?_)
  refine iv_iload_n (pc := 0) X dX11_isDigit_0 rfl ?_
  refine iv_bipush (pc := 1) X dX11_isDigit_1 bc_48 ?_
  refine iv_icmp_lt (pc := 3) X dX11_isDigit_3 (tgt := 16) rfl (fun hb1 => ?_) (fun hb1 => ?_)
  · rw [if_pos hb1] at hm
    refine iv_iconst (pc := 16) X dX11_isDigit_16 ic_0 ?_
    cases hm
    exact is_zret (pc := 17) X dX11_isDigit_17 rfl
  · rw [if_neg hb1] at hm
    refine iv_iload_n (pc := 6) X dX11_isDigit_6 rfl ?_
    refine iv_bipush (pc := 7) X dX11_isDigit_7 bc_57 ?_
    refine iv_icmp_gt (pc := 9) X dX11_isDigit_9 (tgt := 16) rfl (fun hb2 => ?_) (fun hb2 => ?_)
    · rw [if_pos hb2] at hm
      refine iv_iconst (pc := 16) X dX11_isDigit_16 ic_0 ?_
      cases hm
      exact is_zret (pc := 17) X dX11_isDigit_17 rfl
    · rw [if_neg hb2] at hm
      refine iv_iconst (pc := 12) X dX11_isDigit_12 ic_1 ?_
      refine iv_goto (pc := 13) X dX11_isDigit_13 (tgt := 17) rfl ?_
      cases hm
      exact is_zret (pc := 17) X dX11_isDigit_17 rfl
def f_X11_isSmall (x0 : Int32) (S : im_S) : Option (Int32 × im_S) := if (x0 : Int32) < 97 then (some (0, S)) else (if (122 : Int32) < x0 then (some (0, S)) else (some (1, S)))
set_option maxHeartbeats 4000000 in
set_option maxRecDepth 100000 in
theorem f_X11_isSmall_e (l : Launch) (g : im_G) (ad : Nat → Nat) (x0 : Int32) (S : im_S) (r : Int32) (S' : im_S) (hm : f_X11_isSmall x0 S = some (r, S')) : im_E l g ad 0 yX11_isSmall cX11_isSmall 1 (some Jvm.ClassFile.FieldType.boolean) [.int x0] S (some (.int r)) S' := by
  unfold f_X11_isSmall at hm
  refine is_met (own := RX11) (by decide +kernel) rfl (Nat.le_of_ble_eq_true rfl) (fun p e s m below meth c X => ?_)
  refine iv_iload_n (pc := 0) X dX11_isSmall_0 rfl ?_
  refine iv_bipush (pc := 1) X dX11_isSmall_1 bc_97 ?_
  refine iv_icmp_lt (pc := 3) X dX11_isSmall_3 (tgt := 16) rfl (fun hb1 => ?_) (fun hb1 => ?_)
  · rw [if_pos hb1] at hm
    refine iv_iconst (pc := 16) X dX11_isSmall_16 ic_0 ?_
    cases hm
    exact is_zret (pc := 17) X dX11_isSmall_17 rfl
  · rw [if_neg hb1] at hm
    refine iv_iload_n (pc := 6) X dX11_isSmall_6 rfl ?_
    refine iv_bipush (pc := 7) X dX11_isSmall_7 bc_122 ?_
    refine iv_icmp_gt (pc := 9) X dX11_isSmall_9 (tgt := 16) rfl (fun hb2 => ?_) (fun hb2 => ?_)
    · rw [if_pos hb2] at hm
      refine iv_iconst (pc := 16) X dX11_isSmall_16 ic_0 ?_
      cases hm
      exact is_zret (pc := 17) X dX11_isSmall_17 rfl
    · rw [if_neg hb2] at hm
      refine iv_iconst (pc := 12) X dX11_isSmall_12 ic_1 ?_
      refine iv_goto (pc := 13) X dX11_isSmall_13 (tgt := 17) rfl ?_
      cases hm
      exact is_zret (pc := 17) X dX11_isSmall_17 rfl
def f_X11_packed (x0 : Int32) (x1 : Int32) (x2 : Int32) (x3 : Int32) (x4 : Int32) (S : im_S) : Option (Int64 × im_S) := some (((((((x0.toInt64 <<< ((8 : Int32).toInt64 &&& 63)) ||| x1.toInt64) <<< ((8 : Int32).toInt64 &&& 63)) ||| x2.toInt64) <<< ((16 : Int32).toInt64 &&& 63)) ||| ((x3 <<< (8 &&& 31)).toInt64)) ||| x4.toInt64, S)
set_option maxHeartbeats 4000000 in
set_option maxRecDepth 100000 in
theorem f_X11_packed_e (l : Launch) (g : im_G) (ad : Nat → Nat) (x0 : Int32) (x1 : Int32) (x2 : Int32) (x3 : Int32) (x4 : Int32) (S : im_S) (r : Int64) (S' : im_S) (hm : f_X11_packed x0 x1 x2 x3 x4 S = some (r, S')) : im_E l g ad 0 yX11_packed cX11_packed 5 (some Jvm.ClassFile.FieldType.long) [.int x0, .int x1, .int x2, .int x3, .int x4] S (some (.long r)) S' := by
  unfold f_X11_packed at hm
  refine is_met (own := RX11) (by decide +kernel) rfl (Nat.le_of_ble_eq_true rfl) (fun p e s m below meth c X => ?_)
  refine iv_iload_n (pc := 0) X dX11_packed_0 rfl ?_
  refine iv_i2l (pc := 1) X dX11_packed_1 rfl ?_
  refine iv_bipush (pc := 2) X dX11_packed_2 bc_8 ?_
  refine iv_lshl (pc := 4) X dX11_packed_4 rfl ?_
  refine iv_iload_n (pc := 5) X dX11_packed_5 rfl ?_
  refine iv_i2l (pc := 6) X dX11_packed_6 rfl ?_
  refine iv_lor (pc := 7) X dX11_packed_7 ?_
  refine iv_bipush (pc := 8) X dX11_packed_8 bc_8 ?_
  refine iv_lshl (pc := 10) X dX11_packed_10 rfl ?_
  refine iv_iload_n (pc := 11) X dX11_packed_11 rfl ?_
  refine iv_i2l (pc := 12) X dX11_packed_12 rfl ?_
  refine iv_lor (pc := 13) X dX11_packed_13 ?_
  refine iv_bipush (pc := 14) X dX11_packed_14 bc_16 ?_
  refine iv_lshl (pc := 16) X dX11_packed_16 rfl ?_
  refine iv_iload_n (pc := 17) X dX11_packed_17 rfl ?_
  refine iv_bipush (pc := 18) X dX11_packed_18 bc_8 ?_
  refine iv_ishl (pc := 20) X dX11_packed_20 ?_
  refine iv_i2l (pc := 21) X dX11_packed_21 rfl ?_
  refine iv_lor (pc := 22) X dX11_packed_22 ?_
  refine iv_iload (pc := 23) X dX11_packed_23 rfl ?_
  refine iv_i2l (pc := 25) X dX11_packed_25 rfl ?_
  refine iv_lor (pc := 26) X dX11_packed_26 ?_
  cases hm
  exact is_lret (pc := 27) X dX11_packed_27
def f_X11_wordOf (x0 : Int64) (S : im_S) : Option (Int32 × im_S) := (f_X11_packed 0 0 108 101 116 S).bind (fun qS1 => if (lg_cmp x0 qS1.1 : Int32) ≠ 0 then ((f_X11_packed 0 0 0 105 110 qS1.2).bind (fun qS5 => if (lg_cmp x0 qS5.1 : Int32) ≠ 0 then ((f_X11_packed 0 0 0 105 102 qS5.2).bind (fun qS9 => if (lg_cmp x0 qS9.1 : Int32) ≠ 0 then ((f_X11_packed 0 116 104 101 110 qS9.2).bind (fun qS13 => if (lg_cmp x0 qS13.1 : Int32) ≠ 0 then ((f_X11_packed 0 101 108 115 101 qS13.2).bind (fun qS17 => if (lg_cmp x0 qS17.1 : Int32) ≠ 0 then ((f_X11_packed 0 108 111 111 112 qS17.2).bind (fun qS21 => if (lg_cmp x0 qS21.1 : Int32) ≠ 0 then ((f_X11_packed 119 104 105 108 101 qS21.2).bind (fun qS25 => if (lg_cmp x0 qS25.1 : Int32) ≠ 0 then ((f_X11_packed 0 110 101 120 116 qS25.2).bind (fun qS29 => if (lg_cmp x0 qS29.1 : Int32) ≠ 0 then ((f_X11_packed 0 103 105 118 101 qS29.2).bind (fun qS33 => if (lg_cmp x0 qS33.1 : Int32) ≠ 0 then ((f_X11_packed 0 0 116 97 98 qS33.2).bind (fun qS37 => if (lg_cmp x0 qS37.1 : Int32) ≠ 0 then ((f_X11_packed 0 0 0 111 102 qS37.2).bind (fun qS41 => if (lg_cmp x0 qS41.1 : Int32) ≠ 0 then ((f_X11_packed 0 116 114 117 101 qS41.2).bind (fun qS45 => if (lg_cmp x0 qS45.1 : Int32) ≠ 0 then ((f_X11_packed 102 97 108 115 101 qS45.2).bind (fun qS49 => if (lg_cmp x0 qS49.1 : Int32) ≠ 0 then (some (0, qS49.2)) else (some (13, qS49.2)))) else (some (12, qS45.2)))) else (some (11, qS41.2)))) else (some (10, qS37.2)))) else (some (9, qS33.2)))) else (some (8, qS29.2)))) else (some (7, qS25.2)))) else (some (6, qS21.2)))) else (some (5, qS17.2)))) else (some (4, qS13.2)))) else (some (3, qS9.2)))) else (some (2, qS5.2)))) else (some (1, qS1.2)))
set_option maxHeartbeats 4000000 in
set_option maxRecDepth 100000 in
theorem f_X11_wordOf_e (l : Launch) (g : im_G) (ad : Nat → Nat) (x0 : Int64) (S : im_S) (r : Int32) (S' : im_S) (hm : f_X11_wordOf x0 S = some (r, S')) : im_E l g ad 1 yX11_wordOf cX11_wordOf 2 (some Jvm.ClassFile.FieldType.int) [.long x0] S (some (.int r)) S' := by
  unfold f_X11_wordOf at hm
  refine is_met (own := RX11) (by decide +kernel) rfl (Nat.le_of_ble_eq_true rfl) (fun p e s m below meth c X => ?_)
  refine iv_lload_n (pc := 0) X dX11_wordOf_0 rfl ?_
  refine iv_iconst (pc := 1) X dX11_wordOf_1 ic_0 ?_
  refine iv_iconst (pc := 2) X dX11_wordOf_2 ic_0 ?_
  refine iv_bipush (pc := 3) X dX11_wordOf_3 bc_108 ?_
  refine iv_bipush (pc := 5) X dX11_wordOf_5 bc_101 ?_
  refine iv_bipush (pc := 7) X dX11_wordOf_7 bc_116 ?_
  obtain ⟨⟨r2, S1⟩, hc3, hm⟩ := bd_some hm
  refine cS_X11_195 (pc := 9) X [.int 0, .int 0, .int 108, .int 101, .int 116] [.long x0] 5 rfl (f_X11_packed_e l g ad 0 0 108 101 116 S _ _ hc3) (by decide) (by decide) (Nat.le_of_ble_eq_true rfl) rfl dX11_wordOf_9 ?_
  refine iv_lcmp (pc := 12) X dX11_wordOf_12 ?_
  refine iv_if_ne (pc := 13) X dX11_wordOf_13 (tgt := 18) rfl (fun hb4 => ?_) (fun hb4 => ?_)
  · rw [if_pos hb4] at hm
    refine iv_lload_n (pc := 18) X dX11_wordOf_18 rfl ?_
    refine iv_iconst (pc := 19) X dX11_wordOf_19 ic_0 ?_
    refine iv_iconst (pc := 20) X dX11_wordOf_20 ic_0 ?_
    refine iv_iconst (pc := 21) X dX11_wordOf_21 ic_0 ?_
    refine iv_bipush (pc := 22) X dX11_wordOf_22 bc_105 ?_
    refine iv_bipush (pc := 24) X dX11_wordOf_24 bc_110 ?_
    obtain ⟨⟨r6, S5⟩, hc7, hm⟩ := bd_some hm
    refine cS_X11_195 (pc := 26) X [.int 0, .int 0, .int 0, .int 105, .int 110] [.long x0] 5 rfl (f_X11_packed_e l g ad 0 0 0 105 110 S1 _ _ hc7) (by decide) (by decide) (Nat.le_of_ble_eq_true rfl) rfl dX11_wordOf_26 ?_
    refine iv_lcmp (pc := 29) X dX11_wordOf_29 ?_
    refine iv_if_ne (pc := 30) X dX11_wordOf_30 (tgt := 35) rfl (fun hb8 => ?_) (fun hb8 => ?_)
    · rw [if_pos hb8] at hm
      refine iv_lload_n (pc := 35) X dX11_wordOf_35 rfl ?_
      refine iv_iconst (pc := 36) X dX11_wordOf_36 ic_0 ?_
      refine iv_iconst (pc := 37) X dX11_wordOf_37 ic_0 ?_
      refine iv_iconst (pc := 38) X dX11_wordOf_38 ic_0 ?_
      refine iv_bipush (pc := 39) X dX11_wordOf_39 bc_105 ?_
      refine iv_bipush (pc := 41) X dX11_wordOf_41 bc_102 ?_
      obtain ⟨⟨r10, S9⟩, hc11, hm⟩ := bd_some hm
      refine cS_X11_195 (pc := 43) X [.int 0, .int 0, .int 0, .int 105, .int 102] [.long x0] 5 rfl (f_X11_packed_e l g ad 0 0 0 105 102 S5 _ _ hc11) (by decide) (by decide) (Nat.le_of_ble_eq_true rfl) rfl dX11_wordOf_43 ?_
      refine iv_lcmp (pc := 46) X dX11_wordOf_46 ?_
      refine iv_if_ne (pc := 47) X dX11_wordOf_47 (tgt := 52) rfl (fun hb12 => ?_) (fun hb12 => ?_)
      · rw [if_pos hb12] at hm
        refine iv_lload_n (pc := 52) X dX11_wordOf_52 rfl ?_
        refine iv_iconst (pc := 53) X dX11_wordOf_53 ic_0 ?_
        refine iv_bipush (pc := 54) X dX11_wordOf_54 bc_116 ?_
        refine iv_bipush (pc := 56) X dX11_wordOf_56 bc_104 ?_
        refine iv_bipush (pc := 58) X dX11_wordOf_58 bc_101 ?_
        refine iv_bipush (pc := 60) X dX11_wordOf_60 bc_110 ?_
        obtain ⟨⟨r14, S13⟩, hc15, hm⟩ := bd_some hm
        refine cS_X11_195 (pc := 62) X [.int 0, .int 116, .int 104, .int 101, .int 110] [.long x0] 5 rfl (f_X11_packed_e l g ad 0 116 104 101 110 S9 _ _ hc15) (by decide) (by decide) (Nat.le_of_ble_eq_true rfl) rfl dX11_wordOf_62 ?_
        refine iv_lcmp (pc := 65) X dX11_wordOf_65 ?_
        refine iv_if_ne (pc := 66) X dX11_wordOf_66 (tgt := 71) rfl (fun hb16 => ?_) (fun hb16 => ?_)
        · rw [if_pos hb16] at hm
          refine iv_lload_n (pc := 71) X dX11_wordOf_71 rfl ?_
          refine iv_iconst (pc := 72) X dX11_wordOf_72 ic_0 ?_
          refine iv_bipush (pc := 73) X dX11_wordOf_73 bc_101 ?_
          refine iv_bipush (pc := 75) X dX11_wordOf_75 bc_108 ?_
          refine iv_bipush (pc := 77) X dX11_wordOf_77 bc_115 ?_
          refine iv_bipush (pc := 79) X dX11_wordOf_79 bc_101 ?_
          obtain ⟨⟨r18, S17⟩, hc19, hm⟩ := bd_some hm
          refine cS_X11_195 (pc := 81) X [.int 0, .int 101, .int 108, .int 115, .int 101] [.long x0] 5 rfl (f_X11_packed_e l g ad 0 101 108 115 101 S13 _ _ hc19) (by decide) (by decide) (Nat.le_of_ble_eq_true rfl) rfl dX11_wordOf_81 ?_
          refine iv_lcmp (pc := 84) X dX11_wordOf_84 ?_
          refine iv_if_ne (pc := 85) X dX11_wordOf_85 (tgt := 90) rfl (fun hb20 => ?_) (fun hb20 => ?_)
          · rw [if_pos hb20] at hm
            refine iv_lload_n (pc := 90) X dX11_wordOf_90 rfl ?_
            refine iv_iconst (pc := 91) X dX11_wordOf_91 ic_0 ?_
            refine iv_bipush (pc := 92) X dX11_wordOf_92 bc_108 ?_
            refine iv_bipush (pc := 94) X dX11_wordOf_94 bc_111 ?_
            refine iv_bipush (pc := 96) X dX11_wordOf_96 bc_111 ?_
            refine iv_bipush (pc := 98) X dX11_wordOf_98 bc_112 ?_
            obtain ⟨⟨r22, S21⟩, hc23, hm⟩ := bd_some hm
            refine cS_X11_195 (pc := 100) X [.int 0, .int 108, .int 111, .int 111, .int 112] [.long x0] 5 rfl (f_X11_packed_e l g ad 0 108 111 111 112 S17 _ _ hc23) (by decide) (by decide) (Nat.le_of_ble_eq_true rfl) rfl dX11_wordOf_100 ?_
            refine iv_lcmp (pc := 103) X dX11_wordOf_103 ?_
            refine iv_if_ne (pc := 104) X dX11_wordOf_104 (tgt := 110) rfl (fun hb24 => ?_) (fun hb24 => ?_)
            · rw [if_pos hb24] at hm
              refine iv_lload_n (pc := 110) X dX11_wordOf_110 rfl ?_
              refine iv_bipush (pc := 111) X dX11_wordOf_111 bc_119 ?_
              refine iv_bipush (pc := 113) X dX11_wordOf_113 bc_104 ?_
              refine iv_bipush (pc := 115) X dX11_wordOf_115 bc_105 ?_
              refine iv_bipush (pc := 117) X dX11_wordOf_117 bc_108 ?_
              refine iv_bipush (pc := 119) X dX11_wordOf_119 bc_101 ?_
              obtain ⟨⟨r26, S25⟩, hc27, hm⟩ := bd_some hm
              refine cS_X11_195 (pc := 121) X [.int 119, .int 104, .int 105, .int 108, .int 101] [.long x0] 5 rfl (f_X11_packed_e l g ad 119 104 105 108 101 S21 _ _ hc27) (by decide) (by decide) (Nat.le_of_ble_eq_true rfl) rfl dX11_wordOf_121 ?_
              refine iv_lcmp (pc := 124) X dX11_wordOf_124 ?_
              refine iv_if_ne (pc := 125) X dX11_wordOf_125 (tgt := 131) rfl (fun hb28 => ?_) (fun hb28 => ?_)
              · rw [if_pos hb28] at hm
                refine iv_lload_n (pc := 131) X dX11_wordOf_131 rfl ?_
                refine iv_iconst (pc := 132) X dX11_wordOf_132 ic_0 ?_
                refine iv_bipush (pc := 133) X dX11_wordOf_133 bc_110 ?_
                refine iv_bipush (pc := 135) X dX11_wordOf_135 bc_101 ?_
                refine iv_bipush (pc := 137) X dX11_wordOf_137 bc_120 ?_
                refine iv_bipush (pc := 139) X dX11_wordOf_139 bc_116 ?_
                obtain ⟨⟨r30, S29⟩, hc31, hm⟩ := bd_some hm
                refine cS_X11_195 (pc := 141) X [.int 0, .int 110, .int 101, .int 120, .int 116] [.long x0] 5 rfl (f_X11_packed_e l g ad 0 110 101 120 116 S25 _ _ hc31) (by decide) (by decide) (Nat.le_of_ble_eq_true rfl) rfl dX11_wordOf_141 ?_
                refine iv_lcmp (pc := 144) X dX11_wordOf_144 ?_
                refine iv_if_ne (pc := 145) X dX11_wordOf_145 (tgt := 151) rfl (fun hb32 => ?_) (fun hb32 => ?_)
                · rw [if_pos hb32] at hm
                  refine iv_lload_n (pc := 151) X dX11_wordOf_151 rfl ?_
                  refine iv_iconst (pc := 152) X dX11_wordOf_152 ic_0 ?_
                  refine iv_bipush (pc := 153) X dX11_wordOf_153 bc_103 ?_
                  refine iv_bipush (pc := 155) X dX11_wordOf_155 bc_105 ?_
                  refine iv_bipush (pc := 157) X dX11_wordOf_157 bc_118 ?_
                  refine iv_bipush (pc := 159) X dX11_wordOf_159 bc_101 ?_
                  obtain ⟨⟨r34, S33⟩, hc35, hm⟩ := bd_some hm
                  refine cS_X11_195 (pc := 161) X [.int 0, .int 103, .int 105, .int 118, .int 101] [.long x0] 5 rfl (f_X11_packed_e l g ad 0 103 105 118 101 S29 _ _ hc35) (by decide) (by decide) (Nat.le_of_ble_eq_true rfl) rfl dX11_wordOf_161 ?_
                  refine iv_lcmp (pc := 164) X dX11_wordOf_164 ?_
                  refine iv_if_ne (pc := 165) X dX11_wordOf_165 (tgt := 171) rfl (fun hb36 => ?_) (fun hb36 => ?_)
                  · rw [if_pos hb36] at hm
                    refine iv_lload_n (pc := 171) X dX11_wordOf_171 rfl ?_
                    refine iv_iconst (pc := 172) X dX11_wordOf_172 ic_0 ?_
                    refine iv_iconst (pc := 173) X dX11_wordOf_173 ic_0 ?_
                    refine iv_bipush (pc := 174) X dX11_wordOf_174 bc_116 ?_
                    refine iv_bipush (pc := 176) X dX11_wordOf_176 bc_97 ?_
                    refine iv_bipush (pc := 178) X dX11_wordOf_178 bc_98 ?_
                    obtain ⟨⟨r38, S37⟩, hc39, hm⟩ := bd_some hm
                    refine cS_X11_195 (pc := 180) X [.int 0, .int 0, .int 116, .int 97, .int 98] [.long x0] 5 rfl (f_X11_packed_e l g ad 0 0 116 97 98 S33 _ _ hc39) (by decide) (by decide) (Nat.le_of_ble_eq_true rfl) rfl dX11_wordOf_180 ?_
                    refine iv_lcmp (pc := 183) X dX11_wordOf_183 ?_
                    refine iv_if_ne (pc := 184) X dX11_wordOf_184 (tgt := 190) rfl (fun hb40 => ?_) (fun hb40 => ?_)
                    · rw [if_pos hb40] at hm
                      refine iv_lload_n (pc := 190) X dX11_wordOf_190 rfl ?_
                      refine iv_iconst (pc := 191) X dX11_wordOf_191 ic_0 ?_
                      refine iv_iconst (pc := 192) X dX11_wordOf_192 ic_0 ?_
                      refine iv_iconst (pc := 193) X dX11_wordOf_193 ic_0 ?_
                      refine iv_bipush (pc := 194) X dX11_wordOf_194 bc_111 ?_
                      refine iv_bipush (pc := 196) X dX11_wordOf_196 bc_102 ?_
                      obtain ⟨⟨r42, S41⟩, hc43, hm⟩ := bd_some hm
                      refine cS_X11_195 (pc := 198) X [.int 0, .int 0, .int 0, .int 111, .int 102] [.long x0] 5 rfl (f_X11_packed_e l g ad 0 0 0 111 102 S37 _ _ hc43) (by decide) (by decide) (Nat.le_of_ble_eq_true rfl) rfl dX11_wordOf_198 ?_
                      refine iv_lcmp (pc := 201) X dX11_wordOf_201 ?_
                      refine iv_if_ne (pc := 202) X dX11_wordOf_202 (tgt := 208) rfl (fun hb44 => ?_) (fun hb44 => ?_)
                      · rw [if_pos hb44] at hm
                        refine iv_lload_n (pc := 208) X dX11_wordOf_208 rfl ?_
                        refine iv_iconst (pc := 209) X dX11_wordOf_209 ic_0 ?_
                        refine iv_bipush (pc := 210) X dX11_wordOf_210 bc_116 ?_
                        refine iv_bipush (pc := 212) X dX11_wordOf_212 bc_114 ?_
                        refine iv_bipush (pc := 214) X dX11_wordOf_214 bc_117 ?_
                        refine iv_bipush (pc := 216) X dX11_wordOf_216 bc_101 ?_
                        obtain ⟨⟨r46, S45⟩, hc47, hm⟩ := bd_some hm
                        refine cS_X11_195 (pc := 218) X [.int 0, .int 116, .int 114, .int 117, .int 101] [.long x0] 5 rfl (f_X11_packed_e l g ad 0 116 114 117 101 S41 _ _ hc47) (by decide) (by decide) (Nat.le_of_ble_eq_true rfl) rfl dX11_wordOf_218 ?_
                        refine iv_lcmp (pc := 221) X dX11_wordOf_221 ?_
                        refine iv_if_ne (pc := 222) X dX11_wordOf_222 (tgt := 228) rfl (fun hb48 => ?_) (fun hb48 => ?_)
                        · rw [if_pos hb48] at hm
                          refine iv_lload_n (pc := 228) X dX11_wordOf_228 rfl ?_
                          refine iv_bipush (pc := 229) X dX11_wordOf_229 bc_102 ?_
                          refine iv_bipush (pc := 231) X dX11_wordOf_231 bc_97 ?_
                          refine iv_bipush (pc := 233) X dX11_wordOf_233 bc_108 ?_
                          refine iv_bipush (pc := 235) X dX11_wordOf_235 bc_115 ?_
                          refine iv_bipush (pc := 237) X dX11_wordOf_237 bc_101 ?_
                          obtain ⟨⟨r50, S49⟩, hc51, hm⟩ := bd_some hm
                          refine cS_X11_195 (pc := 239) X [.int 102, .int 97, .int 108, .int 115, .int 101] [.long x0] 5 rfl (f_X11_packed_e l g ad 102 97 108 115 101 S45 _ _ hc51) (by decide) (by decide) (Nat.le_of_ble_eq_true rfl) rfl dX11_wordOf_239 ?_
                          refine iv_lcmp (pc := 242) X dX11_wordOf_242 ?_
                          refine iv_if_ne (pc := 243) X dX11_wordOf_243 (tgt := 251) rfl (fun hb52 => ?_) (fun hb52 => ?_)
                          · rw [if_pos hb52] at hm
                            refine iv_iconst (pc := 251) X dX11_wordOf_251 ic_0 ?_
                            cases hm
                            exact is_iret (pc := 252) X dX11_wordOf_252
                          · rw [if_neg hb52] at hm
                            refine iv_bipush (pc := 246) X dX11_wordOf_246 bc_13 ?_
                            refine iv_goto (pc := 248) X dX11_wordOf_248 (tgt := 252) rfl ?_
                            cases hm
                            exact is_iret (pc := 252) X dX11_wordOf_252
                        · rw [if_neg hb48] at hm
                          refine iv_bipush (pc := 225) X dX11_wordOf_225 bc_12 ?_
                          cases hm
                          exact is_iret (pc := 227) X dX11_wordOf_227
                      · rw [if_neg hb44] at hm
                        refine iv_bipush (pc := 205) X dX11_wordOf_205 bc_11 ?_
                        cases hm
                        exact is_iret (pc := 207) X dX11_wordOf_207
                    · rw [if_neg hb40] at hm
                      refine iv_bipush (pc := 187) X dX11_wordOf_187 bc_10 ?_
                      cases hm
                      exact is_iret (pc := 189) X dX11_wordOf_189
                  · rw [if_neg hb36] at hm
                    refine iv_bipush (pc := 168) X dX11_wordOf_168 bc_9 ?_
                    cases hm
                    exact is_iret (pc := 170) X dX11_wordOf_170
                · rw [if_neg hb32] at hm
                  refine iv_bipush (pc := 148) X dX11_wordOf_148 bc_8 ?_
                  cases hm
                  exact is_iret (pc := 150) X dX11_wordOf_150
              · rw [if_neg hb28] at hm
                refine iv_bipush (pc := 128) X dX11_wordOf_128 bc_7 ?_
                cases hm
                exact is_iret (pc := 130) X dX11_wordOf_130
            · rw [if_neg hb24] at hm
              refine iv_bipush (pc := 107) X dX11_wordOf_107 bc_6 ?_
              cases hm
              exact is_iret (pc := 109) X dX11_wordOf_109
          · rw [if_neg hb20] at hm
            refine iv_iconst (pc := 88) X dX11_wordOf_88 ic_5 ?_
            cases hm
            exact is_iret (pc := 89) X dX11_wordOf_89
        · rw [if_neg hb16] at hm
          refine iv_iconst (pc := 69) X dX11_wordOf_69 ic_4 ?_
          cases hm
          exact is_iret (pc := 70) X dX11_wordOf_70
      · rw [if_neg hb12] at hm
        refine iv_iconst (pc := 50) X dX11_wordOf_50 ic_3 ?_
        cases hm
        exact is_iret (pc := 51) X dX11_wordOf_51
    · rw [if_neg hb8] at hm
      refine iv_iconst (pc := 33) X dX11_wordOf_33 ic_2 ?_
      cases hm
      exact is_iret (pc := 34) X dX11_wordOf_34
  · rw [if_neg hb4] at hm
    refine iv_iconst (pc := 16) X dX11_wordOf_16 ic_1 ?_
    cases hm
    exact is_iret (pc := 17) X dX11_wordOf_17
def f_X11_token (x1 : Int32) (x2 : Int32) (x3 : Int32) (x4 : Int64) (S : im_S) : Option (Unit × im_S) := gd (in_b (S.1 75 5) 502) (gd (in_b (S.1 75 5) 502) (gd (in_b (S.1 75 5) 502) (gd (in_b (S.1 75 5) 502) (some ((), (uI (uJ (uI (uI (uI S 77 ((S.1 75 5).toNatClampNeg) x1) 78 ((S.1 75 5).toNatClampNeg) x2) 79 ((S.1 75 5).toNatClampNeg) x3) 80 ((S.1 75 5).toNatClampNeg) x4) 75 5 ((S.1 75 5) + 1)))))))
set_option maxHeartbeats 4000000 in
set_option maxRecDepth 100000 in
theorem f_X11_token_e (l : Launch) (g : im_G) (ad : Nat → Nat) (x1 : Int32) (x2 : Int32) (x3 : Int32) (x4 : Int64) (S : im_S) (r : Unit) (S' : im_S) (hm : f_X11_token x1 x2 x3 x4 S = some (r, S')) : im_E l g ad 0 yX11_token cX11_token 6 none [.ref (ad 75), .int x1, .int x2, .int x3, .long x4] S none S' := by
  unfold f_X11_token at hm
  refine is_met (own := RX11) (by decide +kernel) rfl (Nat.le_of_ble_eq_true rfl) (fun p e s m below meth c X => ?_)
  refine iv_aload_n (pc := 0) X dX11_token_0 rfl ?_
  refine gF_X11_13_75 (pc := 1) X dX11_token_1 ?_
  refine iv_aload_n (pc := 4) X dX11_token_4 rfl ?_
  refine gF_X11_199_75 (pc := 5) X dX11_token_5 (x := S.1 75 5) rfl ?_
  refine iv_iload_n (pc := 8) X dX11_token_8 rfl ?_
  obtain ⟨hg, hm⟩ := gd_some hm
  refine aS_77 (pc := 9) X dX11_token_9 hg ?_
  refine iv_aload_n (pc := 10) X dX11_token_10 rfl ?_
  refine gF_X11_16_75 (pc := 11) X dX11_token_11 ?_
  refine iv_aload_n (pc := 14) X dX11_token_14 rfl ?_
  refine gF_X11_199_75 (pc := 15) X dX11_token_15 (x := S.1 75 5) rfl ?_
  refine iv_iload_n (pc := 18) X dX11_token_18 rfl ?_
  obtain ⟨hg, hm⟩ := gd_some hm
  refine aS_78 (pc := 19) X dX11_token_19 hg ?_
  refine iv_aload_n (pc := 20) X dX11_token_20 rfl ?_
  refine gF_X11_19_75 (pc := 21) X dX11_token_21 ?_
  refine iv_aload_n (pc := 24) X dX11_token_24 rfl ?_
  refine gF_X11_199_75 (pc := 25) X dX11_token_25 (x := S.1 75 5) rfl ?_
  refine iv_iload_n (pc := 28) X dX11_token_28 rfl ?_
  obtain ⟨hg, hm⟩ := gd_some hm
  refine aS_79 (pc := 29) X dX11_token_29 hg ?_
  refine iv_aload_n (pc := 30) X dX11_token_30 rfl ?_
  refine gF_X11_22_75 (pc := 31) X dX11_token_31 ?_
  refine iv_aload_n (pc := 34) X dX11_token_34 rfl ?_
  refine gF_X11_199_75 (pc := 35) X dX11_token_35 (x := S.1 75 5) rfl ?_
  refine iv_lload (pc := 38) X dX11_token_38 rfl ?_
  obtain ⟨hg, hm⟩ := gd_some hm
  refine aS_80 (pc := 40) X dX11_token_40 hg ?_
  refine iv_aload_n (pc := 41) X dX11_token_41 rfl ?_
  refine iv_dup (pc := 42) X dX11_token_42 rfl ?_
  refine gF_X11_199_75 (pc := 43) X dX11_token_43 (x := S.1 75 5) rfl ?_
  refine iv_iconst (pc := 46) X dX11_token_46 ic_1 ?_
  refine iv_iadd (pc := 47) X dX11_token_47 ?_
  refine pF_X11_199_75 (pc := 48) X dX11_token_48 ?_
  cases hm
  exact is_vret (pc := 51) X dX11_token_51
def f_X11_oneToken_L108 (fu : Nat) : Nat → Int32 → Int32 → Int32 → Int64 → im_S → Option (Int32 × im_S)
  | 0, _, _, _, _, _ => none
  | nf + 1, z1, z2, z3, z4, S => (f_X11_character z3 S).bind (fun qS1 => (f_X11_isSmall qS1.1 qS1.2).bind (fun qS4 => if (qS4.1 : Int32) ≠ 0 then (if (7 : Int32) ≤ (z3 - z1) then (f_X11_oneToken_L108 fu nf z1 z2 (z3 + 1) z4 qS4.2) else ((f_X11_character z3 qS4.2).bind (fun qS9 => f_X11_oneToken_L108 fu nf z1 z2 (z3 + 1) ((z4 <<< ((8 : Int32).toInt64 &&& 63)) ||| qS9.1.toInt64) qS9.2))) else ((f_X11_character z3 qS4.2).bind (fun qS12 => (f_X11_isDigit qS12.1 qS12.2).bind (fun qS15 => if (qS15.1 : Int32) = 0 then (if (z3 - z1 : Int32) ≤ 5 then ((f_X11_wordOf z4 qS15.2).bind (fun qS20 => if (qS20.1 : Int32) ≤ 0 then (if (z3 - z1 : Int32) ≤ 6 then ((f_X11_token 1 qS20.1 z1 z4 qS20.2).bind (fun qS25 => some (z3, qS25.2))) else ((f_X11_token 9 qS20.1 z1 z4 qS20.2).bind (fun qS28 => some (z3, qS28.2)))) else ((f_X11_token 4 qS20.1 z1 z4 qS20.2).bind (fun qS31 => some (z3, qS31.2))))) else (if (z3 - z1 : Int32) ≤ 6 then ((f_X11_token 1 0 z1 z4 qS15.2).bind (fun qS36 => some (z3, qS36.2))) else ((f_X11_token 9 0 z1 z4 qS15.2).bind (fun qS39 => some (z3, qS39.2))))) else (if (7 : Int32) ≤ (z3 - z1) then (f_X11_oneToken_L108 fu nf z1 z2 (z3 + 1) z4 qS15.2) else ((f_X11_character z3 qS15.2).bind (fun qS43 => f_X11_oneToken_L108 fu nf z1 z2 (z3 + 1) ((z4 <<< ((8 : Int32).toInt64 &&& 63)) ||| qS43.1.toInt64) qS43.2))))))))
set_option maxHeartbeats 4000000 in
set_option maxRecDepth 100000 in
theorem f_X11_oneToken_L108_w {fu : Nat} (l : Launch) (g : im_G) (ad : Nat → Nat) {p : Program} {e : Env} {s : State} {m : MethodId} {below : List Frame} {meth : Method} {c : Code} {args : Array Value} (X : im_X p l s m args meth c g cX11_oneToken 7 RX11 (some Jvm.ClassFile.FieldType.int)) : ∀ (nf : Nat) (z1 : Int32) (z2 : Int32) (z3 : Int32) (z4 : Int64) (S : im_S) (r : Int32) (S' : im_S), f_X11_oneToken_L108 fu nf z1 z2 z3 z4 S = some (r, S') → im_V p l e (im_R 2 0 0) s m args below meth c g 7 (im_Z below g ad args s (some (.int r)) S') ad im_N (im_cn g ad S) 0 0 108 [(0, .ref (ad 75)), (1, .int z1), (2, .int z2), (3, .int z3), (4, .long z4)] [] := by
  intro nf
  induction nf with
  | zero =>
    intro z1 z2 z3 z4 S r S' hm
    cases hm
  | succ nf ih =>
    intro z1 z2 z3 z4 S r S' hm
    unfold f_X11_oneToken_L108 at hm
    refine iv_aload_n (pc := 108) X dX11_oneToken_108 rfl ?_
    refine iv_iload_n (pc := 109) X dX11_oneToken_109 rfl ?_
    obtain ⟨⟨r2, S1⟩, hc3, hm⟩ := bd_some hm
    refine cV_X11_202_75 (pc := 110) X [.int z3] [] 1 rfl (f_X11_character_e l g ad z3 S _ _ hc3) (by decide) (by decide) (Nat.le_of_ble_eq_true rfl) rfl dX11_oneToken_110 ?_
    obtain ⟨⟨r5, S4⟩, hc6, hm⟩ := bd_some hm
    refine cS_X11_221 (pc := 113) X [.int r2] [] 1 rfl (f_X11_isSmall_e l g ad r2 S1 _ _ hc6) (by decide) (by decide) (Nat.le_of_ble_eq_true rfl) rfl dX11_oneToken_113 ?_
    refine iv_if_ne (pc := 116) X dX11_oneToken_116 (tgt := 130) rfl (fun hb7 => ?_) (fun hb7 => ?_)
    · rw [if_pos hb7] at hm
      refine iv_iload_n (pc := 130) X dX11_oneToken_130 rfl ?_
      refine iv_iload_n (pc := 131) X dX11_oneToken_131 rfl ?_
      refine iv_isub (pc := 132) X dX11_oneToken_132 ?_
      refine iv_bipush (pc := 133) X dX11_oneToken_133 bc_7 ?_
      refine iv_icmp_ge (pc := 135) X dX11_oneToken_135 (tgt := 153) rfl (fun hb8 => ?_) (fun hb8 => ?_)
      · rw [if_pos hb8] at hm
        refine iv_lload (pc := 153) X dX11_oneToken_153 rfl ?_
        refine iv_lstore (pc := 155) X dX11_oneToken_155 (by decide) (lv' := [(4, .long z4), (0, .ref (ad 75)), (1, .int z1), (2, .int z2), (3, .int z3)]) rfl ?_
        refine iv_iinc (pc := 157) X dX11_oneToken_157 rfl (by decide) (v := z3 + 1) rfl (lv' := [(3, .int (z3 + 1)), (4, .long z4), (0, .ref (ad 75)), (1, .int z1), (2, .int z2)]) rfl ?_
        refine iv_goto (pc := 160) X dX11_oneToken_160 (tgt := 108) rfl ?_
        refine iv_sub [2, 3, 4, 0, 1] (lv2 := [(0, .ref (ad 75)), (1, .int z1), (2, .int z2), (3, .int (z3 + 1)), (4, .long z4)]) rfl ?_
        exact ih z1 z2 (z3 + 1) z4 S4 _ _ hm
      · rw [if_neg hb8] at hm
        refine iv_lload (pc := 138) X dX11_oneToken_138 rfl ?_
        refine iv_bipush (pc := 140) X dX11_oneToken_140 bc_8 ?_
        refine iv_lshl (pc := 142) X dX11_oneToken_142 rfl ?_
        refine iv_aload_n (pc := 143) X dX11_oneToken_143 rfl ?_
        refine iv_iload_n (pc := 144) X dX11_oneToken_144 rfl ?_
        obtain ⟨⟨r10, S9⟩, hc11, hm⟩ := bd_some hm
        refine cV_X11_202_75 (pc := 145) X [.int z3] [.long (z4 <<< ((8 : Int32).toInt64 &&& 63))] 1 rfl (f_X11_character_e l g ad z3 S4 _ _ hc11) (by decide) (by decide) (Nat.le_of_ble_eq_true rfl) rfl dX11_oneToken_145 ?_
        refine iv_i2l (pc := 148) X dX11_oneToken_148 rfl ?_
        refine iv_lor (pc := 149) X dX11_oneToken_149 ?_
        refine iv_goto (pc := 150) X dX11_oneToken_150 (tgt := 155) rfl ?_
        refine iv_lstore (pc := 155) X dX11_oneToken_155 (by decide) (lv' := [(4, .long ((z4 <<< ((8 : Int32).toInt64 &&& 63)) ||| r10.toInt64)), (0, .ref (ad 75)), (1, .int z1), (2, .int z2), (3, .int z3)]) rfl ?_
        refine iv_iinc (pc := 157) X dX11_oneToken_157 rfl (by decide) (v := z3 + 1) rfl (lv' := [(3, .int (z3 + 1)), (4, .long ((z4 <<< ((8 : Int32).toInt64 &&& 63)) ||| r10.toInt64)), (0, .ref (ad 75)), (1, .int z1), (2, .int z2)]) rfl ?_
        refine iv_goto (pc := 160) X dX11_oneToken_160 (tgt := 108) rfl ?_
        refine iv_sub [2, 3, 4, 0, 1] (lv2 := [(0, .ref (ad 75)), (1, .int z1), (2, .int z2), (3, .int (z3 + 1)), (4, .long ((z4 <<< ((8 : Int32).toInt64 &&& 63)) ||| r10.toInt64))]) rfl ?_
        exact ih z1 z2 (z3 + 1) ((z4 <<< ((8 : Int32).toInt64 &&& 63)) ||| r10.toInt64) S9 _ _ hm
    · rw [if_neg hb7] at hm
      refine iv_aload_n (pc := 119) X dX11_oneToken_119 rfl ?_
      refine iv_iload_n (pc := 120) X dX11_oneToken_120 rfl ?_
      obtain ⟨⟨r13, S12⟩, hc14, hm⟩ := bd_some hm
      refine cV_X11_202_75 (pc := 121) X [.int z3] [] 1 rfl (f_X11_character_e l g ad z3 S4 _ _ hc14) (by decide) (by decide) (Nat.le_of_ble_eq_true rfl) rfl dX11_oneToken_121 ?_
      obtain ⟨⟨r16, S15⟩, hc17, hm⟩ := bd_some hm
      refine cS_X11_213 (pc := 124) X [.int r13] [] 1 rfl (f_X11_isDigit_e l g ad r13 S12 _ _ hc17) (by decide) (by decide) (Nat.le_of_ble_eq_true rfl) rfl dX11_oneToken_124 ?_
      refine iv_if_eq (pc := 127) X dX11_oneToken_127 (tgt := 163) rfl (fun hb18 => ?_) (fun hb18 => ?_)
      · rw [if_pos hb18] at hm
        refine iv_iload_n (pc := 163) X dX11_oneToken_163 rfl ?_
        refine iv_iload_n (pc := 164) X dX11_oneToken_164 rfl ?_
        refine iv_isub (pc := 165) X dX11_oneToken_165 ?_
        refine iv_iconst (pc := 166) X dX11_oneToken_166 ic_5 ?_
        refine iv_icmp_le (pc := 167) X dX11_oneToken_167 (tgt := 174) rfl (fun hb19 => ?_) (fun hb19 => ?_)
        · rw [if_pos hb19] at hm
          refine iv_lload (pc := 174) X dX11_oneToken_174 rfl ?_
          obtain ⟨⟨r21, S20⟩, hc22, hm⟩ := bd_some hm
          refine cS_X11_224 (pc := 176) X [.long z4] [] 1 rfl (f_X11_wordOf_e l g ad z4 S15 _ _ hc22) (by decide) (by decide) (Nat.le_of_ble_eq_true rfl) rfl dX11_oneToken_176 ?_
          refine iv_istore (pc := 179) X dX11_oneToken_179 (by decide) (lv' := [(6, .int r21), (0, .ref (ad 75)), (1, .int z1), (2, .int z2), (3, .int z3), (4, .long z4)]) rfl ?_
          refine iv_aload_n (pc := 181) X dX11_oneToken_181 rfl ?_
          refine iv_iload (pc := 182) X dX11_oneToken_182 rfl ?_
          refine iv_if_le (pc := 184) X dX11_oneToken_184 (tgt := 191) rfl (fun hb23 => ?_) (fun hb23 => ?_)
          · rw [if_pos hb23] at hm
            refine iv_iload_n (pc := 191) X dX11_oneToken_191 rfl ?_
            refine iv_iload_n (pc := 192) X dX11_oneToken_192 rfl ?_
            refine iv_isub (pc := 193) X dX11_oneToken_193 ?_
            refine iv_bipush (pc := 194) X dX11_oneToken_194 bc_6 ?_
            refine iv_icmp_le (pc := 196) X dX11_oneToken_196 (tgt := 204) rfl (fun hb24 => ?_) (fun hb24 => ?_)
            · rw [if_pos hb24] at hm
              refine iv_iconst (pc := 204) X dX11_oneToken_204 ic_1 ?_
              refine iv_iload (pc := 205) X dX11_oneToken_205 rfl ?_
              refine iv_iload_n (pc := 207) X dX11_oneToken_207 rfl ?_
              refine iv_lload (pc := 208) X dX11_oneToken_208 rfl ?_
              obtain ⟨⟨r26, S25⟩, hc27, hm⟩ := bd_some hm
              refine cV_X11_209_75 (pc := 210) X [.int 1, .int r21, .int z1, .long z4] [] 4 rfl (f_X11_token_e l g ad 1 r21 z1 z4 S20 _ _ hc27) (by decide) (by decide) (Nat.le_of_ble_eq_true rfl) rfl dX11_oneToken_210 ?_
              refine iv_iload_n (pc := 213) X dX11_oneToken_213 rfl ?_
              cases hm
              exact is_iret (pc := 214) X dX11_oneToken_214
            · rw [if_neg hb24] at hm
              refine iv_bipush (pc := 199) X dX11_oneToken_199 bc_9 ?_
              refine iv_goto (pc := 201) X dX11_oneToken_201 (tgt := 205) rfl ?_
              refine iv_iload (pc := 205) X dX11_oneToken_205 rfl ?_
              refine iv_iload_n (pc := 207) X dX11_oneToken_207 rfl ?_
              refine iv_lload (pc := 208) X dX11_oneToken_208 rfl ?_
              obtain ⟨⟨r29, S28⟩, hc30, hm⟩ := bd_some hm
              refine cV_X11_209_75 (pc := 210) X [.int 9, .int r21, .int z1, .long z4] [] 4 rfl (f_X11_token_e l g ad 9 r21 z1 z4 S20 _ _ hc30) (by decide) (by decide) (Nat.le_of_ble_eq_true rfl) rfl dX11_oneToken_210 ?_
              refine iv_iload_n (pc := 213) X dX11_oneToken_213 rfl ?_
              cases hm
              exact is_iret (pc := 214) X dX11_oneToken_214
          · rw [if_neg hb23] at hm
            refine iv_iconst (pc := 187) X dX11_oneToken_187 ic_4 ?_
            refine iv_goto (pc := 188) X dX11_oneToken_188 (tgt := 205) rfl ?_
            refine iv_iload (pc := 205) X dX11_oneToken_205 rfl ?_
            refine iv_iload_n (pc := 207) X dX11_oneToken_207 rfl ?_
            refine iv_lload (pc := 208) X dX11_oneToken_208 rfl ?_
            obtain ⟨⟨r32, S31⟩, hc33, hm⟩ := bd_some hm
            refine cV_X11_209_75 (pc := 210) X [.int 4, .int r21, .int z1, .long z4] [] 4 rfl (f_X11_token_e l g ad 4 r21 z1 z4 S20 _ _ hc33) (by decide) (by decide) (Nat.le_of_ble_eq_true rfl) rfl dX11_oneToken_210 ?_
            refine iv_iload_n (pc := 213) X dX11_oneToken_213 rfl ?_
            cases hm
            exact is_iret (pc := 214) X dX11_oneToken_214
        · rw [if_neg hb19] at hm
          refine iv_iconst (pc := 170) X dX11_oneToken_170 ic_0 ?_
          refine iv_goto (pc := 171) X dX11_oneToken_171 (tgt := 179) rfl ?_
          refine iv_istore (pc := 179) X dX11_oneToken_179 (by decide) (lv' := [(6, .int 0), (0, .ref (ad 75)), (1, .int z1), (2, .int z2), (3, .int z3), (4, .long z4)]) rfl ?_
          refine iv_aload_n (pc := 181) X dX11_oneToken_181 rfl ?_
          refine iv_iload (pc := 182) X dX11_oneToken_182 rfl ?_
          refine iv_if_le (pc := 184) X dX11_oneToken_184 (tgt := 191) rfl (fun _ => ?_) (fun hb => absurd (by decide) hb)
          refine iv_iload_n (pc := 191) X dX11_oneToken_191 rfl ?_
          refine iv_iload_n (pc := 192) X dX11_oneToken_192 rfl ?_
          refine iv_isub (pc := 193) X dX11_oneToken_193 ?_
          refine iv_bipush (pc := 194) X dX11_oneToken_194 bc_6 ?_
          refine iv_icmp_le (pc := 196) X dX11_oneToken_196 (tgt := 204) rfl (fun hb35 => ?_) (fun hb35 => ?_)
          · rw [if_pos hb35] at hm
            refine iv_iconst (pc := 204) X dX11_oneToken_204 ic_1 ?_
            refine iv_iload (pc := 205) X dX11_oneToken_205 rfl ?_
            refine iv_iload_n (pc := 207) X dX11_oneToken_207 rfl ?_
            refine iv_lload (pc := 208) X dX11_oneToken_208 rfl ?_
            obtain ⟨⟨r37, S36⟩, hc38, hm⟩ := bd_some hm
            refine cV_X11_209_75 (pc := 210) X [.int 1, .int 0, .int z1, .long z4] [] 4 rfl (f_X11_token_e l g ad 1 0 z1 z4 S15 _ _ hc38) (by decide) (by decide) (Nat.le_of_ble_eq_true rfl) rfl dX11_oneToken_210 ?_
            refine iv_iload_n (pc := 213) X dX11_oneToken_213 rfl ?_
            cases hm
            exact is_iret (pc := 214) X dX11_oneToken_214
          · rw [if_neg hb35] at hm
            refine iv_bipush (pc := 199) X dX11_oneToken_199 bc_9 ?_
            refine iv_goto (pc := 201) X dX11_oneToken_201 (tgt := 205) rfl ?_
            refine iv_iload (pc := 205) X dX11_oneToken_205 rfl ?_
            refine iv_iload_n (pc := 207) X dX11_oneToken_207 rfl ?_
            refine iv_lload (pc := 208) X dX11_oneToken_208 rfl ?_
            obtain ⟨⟨r40, S39⟩, hc41, hm⟩ := bd_some hm
            refine cV_X11_209_75 (pc := 210) X [.int 9, .int 0, .int z1, .long z4] [] 4 rfl (f_X11_token_e l g ad 9 0 z1 z4 S15 _ _ hc41) (by decide) (by decide) (Nat.le_of_ble_eq_true rfl) rfl dX11_oneToken_210 ?_
            refine iv_iload_n (pc := 213) X dX11_oneToken_213 rfl ?_
            cases hm
            exact is_iret (pc := 214) X dX11_oneToken_214
      · rw [if_neg hb18] at hm
        refine iv_iload_n (pc := 130) X dX11_oneToken_130 rfl ?_
        refine iv_iload_n (pc := 131) X dX11_oneToken_131 rfl ?_
        refine iv_isub (pc := 132) X dX11_oneToken_132 ?_
        refine iv_bipush (pc := 133) X dX11_oneToken_133 bc_7 ?_
        refine iv_icmp_ge (pc := 135) X dX11_oneToken_135 (tgt := 153) rfl (fun hb42 => ?_) (fun hb42 => ?_)
        · rw [if_pos hb42] at hm
          refine iv_lload (pc := 153) X dX11_oneToken_153 rfl ?_
          refine iv_lstore (pc := 155) X dX11_oneToken_155 (by decide) (lv' := [(4, .long z4), (0, .ref (ad 75)), (1, .int z1), (2, .int z2), (3, .int z3)]) rfl ?_
          refine iv_iinc (pc := 157) X dX11_oneToken_157 rfl (by decide) (v := z3 + 1) rfl (lv' := [(3, .int (z3 + 1)), (4, .long z4), (0, .ref (ad 75)), (1, .int z1), (2, .int z2)]) rfl ?_
          refine iv_goto (pc := 160) X dX11_oneToken_160 (tgt := 108) rfl ?_
          refine iv_sub [2, 3, 4, 0, 1] (lv2 := [(0, .ref (ad 75)), (1, .int z1), (2, .int z2), (3, .int (z3 + 1)), (4, .long z4)]) rfl ?_
          exact ih z1 z2 (z3 + 1) z4 S15 _ _ hm
        · rw [if_neg hb42] at hm
          refine iv_lload (pc := 138) X dX11_oneToken_138 rfl ?_
          refine iv_bipush (pc := 140) X dX11_oneToken_140 bc_8 ?_
          refine iv_lshl (pc := 142) X dX11_oneToken_142 rfl ?_
          refine iv_aload_n (pc := 143) X dX11_oneToken_143 rfl ?_
          refine iv_iload_n (pc := 144) X dX11_oneToken_144 rfl ?_
          obtain ⟨⟨r44, S43⟩, hc45, hm⟩ := bd_some hm
          refine cV_X11_202_75 (pc := 145) X [.int z3] [.long (z4 <<< ((8 : Int32).toInt64 &&& 63))] 1 rfl (f_X11_character_e l g ad z3 S15 _ _ hc45) (by decide) (by decide) (Nat.le_of_ble_eq_true rfl) rfl dX11_oneToken_145 ?_
          refine iv_i2l (pc := 148) X dX11_oneToken_148 rfl ?_
          refine iv_lor (pc := 149) X dX11_oneToken_149 ?_
          refine iv_goto (pc := 150) X dX11_oneToken_150 (tgt := 155) rfl ?_
          refine iv_lstore (pc := 155) X dX11_oneToken_155 (by decide) (lv' := [(4, .long ((z4 <<< ((8 : Int32).toInt64 &&& 63)) ||| r44.toInt64)), (0, .ref (ad 75)), (1, .int z1), (2, .int z2), (3, .int z3)]) rfl ?_
          refine iv_iinc (pc := 157) X dX11_oneToken_157 rfl (by decide) (v := z3 + 1) rfl (lv' := [(3, .int (z3 + 1)), (4, .long ((z4 <<< ((8 : Int32).toInt64 &&& 63)) ||| r44.toInt64)), (0, .ref (ad 75)), (1, .int z1), (2, .int z2)]) rfl ?_
          refine iv_goto (pc := 160) X dX11_oneToken_160 (tgt := 108) rfl ?_
          refine iv_sub [2, 3, 4, 0, 1] (lv2 := [(0, .ref (ad 75)), (1, .int z1), (2, .int z2), (3, .int (z3 + 1)), (4, .long ((z4 <<< ((8 : Int32).toInt64 &&& 63)) ||| r44.toInt64))]) rfl ?_
          exact ih z1 z2 (z3 + 1) ((z4 <<< ((8 : Int32).toInt64 &&& 63)) ||| r44.toInt64) S43 _ _ hm
def f_X11_oneToken_L24 (fu : Nat) : Nat → Int32 → Int32 → Int32 → Int64 → im_S → Option (Int32 × im_S)
  | 0, _, _, _, _, _ => none
  | nf + 1, z1, z2, z3, z4, S => (f_X11_character z3 S).bind (fun qS1 => (f_X11_isDigit qS1.1 qS1.2).bind (fun qS4 => if (qS4.1 : Int32) = 0 then (if (z3 - z1 : Int32) ≤ 10 then ((f_X11_token 2 0 z1 z4 qS4.2).bind (fun qS9 => some (z3, qS9.2))) else ((f_X11_token 9 0 z1 z4 qS4.2).bind (fun qS12 => some (z3, qS12.2)))) else (if (12 : Int32) ≤ (z3 - z1) then (f_X11_oneToken_L24 fu nf z1 z2 (z3 + 1) z4 qS4.2) else ((f_X11_character z3 qS4.2).bind (fun qS16 => f_X11_oneToken_L24 fu nf z1 z2 (z3 + 1) (((10 * z4) + qS16.1.toInt64) - 48) qS16.2)))))
set_option maxHeartbeats 4000000 in
set_option maxRecDepth 100000 in
theorem f_X11_oneToken_L24_w {fu : Nat} (l : Launch) (g : im_G) (ad : Nat → Nat) {p : Program} {e : Env} {s : State} {m : MethodId} {below : List Frame} {meth : Method} {c : Code} {args : Array Value} (X : im_X p l s m args meth c g cX11_oneToken 7 RX11 (some Jvm.ClassFile.FieldType.int)) : ∀ (nf : Nat) (z1 : Int32) (z2 : Int32) (z3 : Int32) (z4 : Int64) (S : im_S) (r : Int32) (S' : im_S), f_X11_oneToken_L24 fu nf z1 z2 z3 z4 S = some (r, S') → im_V p l e (im_R 2 0 0) s m args below meth c g 7 (im_Z below g ad args s (some (.int r)) S') ad im_N (im_cn g ad S) 0 0 24 [(0, .ref (ad 75)), (1, .int z1), (2, .int z2), (3, .int z3), (4, .long z4)] [] := by
  intro nf
  induction nf with
  | zero =>
    intro z1 z2 z3 z4 S r S' hm
    cases hm
  | succ nf ih =>
    intro z1 z2 z3 z4 S r S' hm
    unfold f_X11_oneToken_L24 at hm
    refine iv_aload_n (pc := 24) X dX11_oneToken_24 rfl ?_
    refine iv_iload_n (pc := 25) X dX11_oneToken_25 rfl ?_
    obtain ⟨⟨r2, S1⟩, hc3, hm⟩ := bd_some hm
    refine cV_X11_202_75 (pc := 26) X [.int z3] [] 1 rfl (f_X11_character_e l g ad z3 S _ _ hc3) (by decide) (by decide) (Nat.le_of_ble_eq_true rfl) rfl dX11_oneToken_26 ?_
    obtain ⟨⟨r5, S4⟩, hc6, hm⟩ := bd_some hm
    refine cS_X11_213 (pc := 29) X [.int r2] [] 1 rfl (f_X11_isDigit_e l g ad r2 S1 _ _ hc6) (by decide) (by decide) (Nat.le_of_ble_eq_true rfl) rfl dX11_oneToken_29 ?_
    refine iv_if_eq (pc := 32) X dX11_oneToken_32 (tgt := 73) rfl (fun hb7 => ?_) (fun hb7 => ?_)
    · rw [if_pos hb7] at hm
      refine iv_aload_n (pc := 73) X dX11_oneToken_73 rfl ?_
      refine iv_iload_n (pc := 74) X dX11_oneToken_74 rfl ?_
      refine iv_iload_n (pc := 75) X dX11_oneToken_75 rfl ?_
      refine iv_isub (pc := 76) X dX11_oneToken_76 ?_
      refine iv_bipush (pc := 77) X dX11_oneToken_77 bc_10 ?_
      refine iv_icmp_le (pc := 79) X dX11_oneToken_79 (tgt := 87) rfl (fun hb8 => ?_) (fun hb8 => ?_)
      · rw [if_pos hb8] at hm
        refine iv_iconst (pc := 87) X dX11_oneToken_87 ic_2 ?_
        refine iv_iconst (pc := 88) X dX11_oneToken_88 ic_0 ?_
        refine iv_iload_n (pc := 89) X dX11_oneToken_89 rfl ?_
        refine iv_lload (pc := 90) X dX11_oneToken_90 rfl ?_
        obtain ⟨⟨r10, S9⟩, hc11, hm⟩ := bd_some hm
        refine cV_X11_209_75 (pc := 92) X [.int 2, .int 0, .int z1, .long z4] [] 4 rfl (f_X11_token_e l g ad 2 0 z1 z4 S4 _ _ hc11) (by decide) (by decide) (Nat.le_of_ble_eq_true rfl) rfl dX11_oneToken_92 ?_
        refine iv_iload_n (pc := 95) X dX11_oneToken_95 rfl ?_
        cases hm
        exact is_iret (pc := 96) X dX11_oneToken_96
      · rw [if_neg hb8] at hm
        refine iv_bipush (pc := 82) X dX11_oneToken_82 bc_9 ?_
        refine iv_goto (pc := 84) X dX11_oneToken_84 (tgt := 88) rfl ?_
        refine iv_iconst (pc := 88) X dX11_oneToken_88 ic_0 ?_
        refine iv_iload_n (pc := 89) X dX11_oneToken_89 rfl ?_
        refine iv_lload (pc := 90) X dX11_oneToken_90 rfl ?_
        obtain ⟨⟨r13, S12⟩, hc14, hm⟩ := bd_some hm
        refine cV_X11_209_75 (pc := 92) X [.int 9, .int 0, .int z1, .long z4] [] 4 rfl (f_X11_token_e l g ad 9 0 z1 z4 S4 _ _ hc14) (by decide) (by decide) (Nat.le_of_ble_eq_true rfl) rfl dX11_oneToken_92 ?_
        refine iv_iload_n (pc := 95) X dX11_oneToken_95 rfl ?_
        cases hm
        exact is_iret (pc := 96) X dX11_oneToken_96
    · rw [if_neg hb7] at hm
      refine iv_iload_n (pc := 35) X dX11_oneToken_35 rfl ?_
      refine iv_iload_n (pc := 36) X dX11_oneToken_36 rfl ?_
      refine iv_isub (pc := 37) X dX11_oneToken_37 ?_
      refine iv_bipush (pc := 38) X dX11_oneToken_38 bc_12 ?_
      refine iv_icmp_ge (pc := 40) X dX11_oneToken_40 (tgt := 63) rfl (fun hb15 => ?_) (fun hb15 => ?_)
      · rw [if_pos hb15] at hm
        refine iv_lload (pc := 63) X dX11_oneToken_63 rfl ?_
        refine iv_lstore (pc := 65) X dX11_oneToken_65 (by decide) (lv' := [(4, .long z4), (0, .ref (ad 75)), (1, .int z1), (2, .int z2), (3, .int z3)]) rfl ?_
        refine iv_iinc (pc := 67) X dX11_oneToken_67 rfl (by decide) (v := z3 + 1) rfl (lv' := [(3, .int (z3 + 1)), (4, .long z4), (0, .ref (ad 75)), (1, .int z1), (2, .int z2)]) rfl ?_
        refine iv_goto (pc := 70) X dX11_oneToken_70 (tgt := 24) rfl ?_
        refine iv_sub [2, 3, 4, 0, 1] (lv2 := [(0, .ref (ad 75)), (1, .int z1), (2, .int z2), (3, .int (z3 + 1)), (4, .long z4)]) rfl ?_
        exact ih z1 z2 (z3 + 1) z4 S4 _ _ hm
      · rw [if_neg hb15] at hm
        refine iv_ldc2 (pc := 43) X wk_X11_217 dX11_oneToken_43 ?_
        refine iv_lload (pc := 46) X dX11_oneToken_46 rfl ?_
        refine iv_lmul (pc := 48) X dX11_oneToken_48 ?_
        refine iv_aload_n (pc := 49) X dX11_oneToken_49 rfl ?_
        refine iv_iload_n (pc := 50) X dX11_oneToken_50 rfl ?_
        obtain ⟨⟨r17, S16⟩, hc18, hm⟩ := bd_some hm
        refine cV_X11_202_75 (pc := 51) X [.int z3] [.long (10 * z4)] 1 rfl (f_X11_character_e l g ad z3 S4 _ _ hc18) (by decide) (by decide) (Nat.le_of_ble_eq_true rfl) rfl dX11_oneToken_51 ?_
        refine iv_i2l (pc := 54) X dX11_oneToken_54 rfl ?_
        refine iv_ladd (pc := 55) X dX11_oneToken_55 ?_
        refine iv_ldc2 (pc := 56) X wk_X11_219 dX11_oneToken_56 ?_
        refine iv_lsub (pc := 59) X dX11_oneToken_59 ?_
        refine iv_goto (pc := 60) X dX11_oneToken_60 (tgt := 65) rfl ?_
        refine iv_lstore (pc := 65) X dX11_oneToken_65 (by decide) (lv' := [(4, .long (((10 * z4) + r17.toInt64) - 48)), (0, .ref (ad 75)), (1, .int z1), (2, .int z2), (3, .int z3)]) rfl ?_
        refine iv_iinc (pc := 67) X dX11_oneToken_67 rfl (by decide) (v := z3 + 1) rfl (lv' := [(3, .int (z3 + 1)), (4, .long (((10 * z4) + r17.toInt64) - 48)), (0, .ref (ad 75)), (1, .int z1), (2, .int z2)]) rfl ?_
        refine iv_goto (pc := 70) X dX11_oneToken_70 (tgt := 24) rfl ?_
        refine iv_sub [2, 3, 4, 0, 1] (lv2 := [(0, .ref (ad 75)), (1, .int z1), (2, .int z2), (3, .int (z3 + 1)), (4, .long (((10 * z4) + r17.toInt64) - 48))]) rfl ?_
        exact ih z1 z2 (z3 + 1) (((10 * z4) + r17.toInt64) - 48) S16 _ _ hm
def f_X11_oneToken (fu : Nat) (x1 : Int32) (S : im_S) : Option (Int32 × im_S) := (f_X11_character x1 S).bind (fun qS1 => (f_X11_isDigit qS1.1 qS1.2).bind (fun qS4 => if (qS4.1 : Int32) = 0 then ((f_X11_isSmall qS1.1 qS4.2).bind (fun qS8 => if (qS8.1 : Int32) = 0 then (if (qS1.1 : Int32) = 40 then ((f_X11_token 3 qS1.1 x1 0 qS8.2).bind (fun qS14 => some (x1 + 1, qS14.2))) else (if (qS1.1 : Int32) = 41 then ((f_X11_token 3 qS1.1 x1 0 qS8.2).bind (fun qS19 => some (x1 + 1, qS19.2))) else (if (qS1.1 : Int32) = 91 then ((f_X11_token 3 qS1.1 x1 0 qS8.2).bind (fun qS24 => some (x1 + 1, qS24.2))) else (if (qS1.1 : Int32) = 93 then ((f_X11_token 3 qS1.1 x1 0 qS8.2).bind (fun qS29 => some (x1 + 1, qS29.2))) else (if (qS1.1 : Int32) = 44 then ((f_X11_token 3 qS1.1 x1 0 qS8.2).bind (fun qS34 => some (x1 + 1, qS34.2))) else (if (qS1.1 : Int32) = 59 then ((f_X11_token 3 qS1.1 x1 0 qS8.2).bind (fun qS39 => some (x1 + 1, qS39.2))) else (if (qS1.1 : Int32) = 61 then ((f_X11_token 3 qS1.1 x1 0 qS8.2).bind (fun qS44 => some (x1 + 1, qS44.2))) else (if (qS1.1 : Int32) = 60 then ((f_X11_token 3 qS1.1 x1 0 qS8.2).bind (fun qS49 => some (x1 + 1, qS49.2))) else (if (qS1.1 : Int32) = 43 then ((f_X11_token 3 qS1.1 x1 0 qS8.2).bind (fun qS54 => some (x1 + 1, qS54.2))) else (if (qS1.1 : Int32) = 45 then ((f_X11_token 3 qS1.1 x1 0 qS8.2).bind (fun qS59 => some (x1 + 1, qS59.2))) else (if (qS1.1 : Int32) = 42 then ((f_X11_token 3 qS1.1 x1 0 qS8.2).bind (fun qS64 => some (x1 + 1, qS64.2))) else (if (qS1.1 : Int32) = 47 then ((f_X11_token 3 qS1.1 x1 0 qS8.2).bind (fun qS69 => some (x1 + 1, qS69.2))) else (if (qS1.1 : Int32) = 37 then ((f_X11_token 3 qS1.1 x1 0 qS8.2).bind (fun qS74 => some (x1 + 1, qS74.2))) else (if (qS1.1 : Int32) = 38 then ((f_X11_token 3 qS1.1 x1 0 qS8.2).bind (fun qS79 => some (x1 + 1, qS79.2))) else (if (qS1.1 : Int32) = 124 then ((f_X11_token 3 qS1.1 x1 0 qS8.2).bind (fun qS84 => some (x1 + 1, qS84.2))) else (if (qS1.1 : Int32) ≠ 33 then ((f_X11_token 9 qS1.1 x1 0 qS8.2).bind (fun qS89 => some (x1 + 1, qS89.2))) else ((f_X11_token 3 qS1.1 x1 0 qS8.2).bind (fun qS93 => some (x1 + 1, qS93.2))))))))))))))))))) else (f_X11_oneToken_L108 fu fu x1 qS1.1 (x1 + 1) qS1.1.toInt64 qS8.2))) else (f_X11_oneToken_L24 fu fu x1 qS1.1 (x1 + 1) ((qS1.1 - 48).toInt64) qS4.2)))
set_option maxHeartbeats 4000000 in
set_option maxRecDepth 100000 in
theorem f_X11_oneToken_e (l : Launch) (g : im_G) (ad : Nat → Nat) (fu : Nat) (x1 : Int32) (S : im_S) (r : Int32) (S' : im_S) (hm : f_X11_oneToken fu x1 S = some (r, S')) : im_E l g ad 2 yX11_oneToken cX11_oneToken 7 (some Jvm.ClassFile.FieldType.int) [.ref (ad 75), .int x1] S (some (.int r)) S' := by
  unfold f_X11_oneToken at hm
  refine is_met (own := RX11) (by decide +kernel) rfl (Nat.le_of_ble_eq_true rfl) (fun p e s m below meth c X => ?_)
  refine iv_aload_n (pc := 0) X dX11_oneToken_0 rfl ?_
  refine iv_iload_n (pc := 1) X dX11_oneToken_1 rfl ?_
  obtain ⟨⟨r2, S1⟩, hc3, hm⟩ := bd_some hm
  refine cV_X11_202_75 (pc := 2) X [.int x1] [] 1 rfl (f_X11_character_e l g ad x1 S _ _ hc3) (by decide) (by decide) (Nat.le_of_ble_eq_true rfl) rfl dX11_oneToken_2 ?_
  refine iv_istore_n (pc := 5) X dX11_oneToken_5 (by decide) (lv' := [(2, .int r2), (0, .ref (ad 75)), (1, .int x1)]) rfl ?_
  refine iv_iload_n (pc := 6) X dX11_oneToken_6 rfl ?_
  refine iv_iconst (pc := 7) X dX11_oneToken_7 ic_1 ?_
  refine iv_iadd (pc := 8) X dX11_oneToken_8 ?_
  refine iv_istore_n (pc := 9) X dX11_oneToken_9 (by decide) (lv' := [(3, .int (x1 + 1)), (2, .int r2), (0, .ref (ad 75)), (1, .int x1)]) rfl ?_
  refine iv_iload_n (pc := 10) X dX11_oneToken_10 rfl ?_
  obtain ⟨⟨r5, S4⟩, hc6, hm⟩ := bd_some hm
  refine cS_X11_213 (pc := 11) X [.int r2] [] 1 rfl (f_X11_isDigit_e l g ad r2 S1 _ _ hc6) (by decide) (by decide) (Nat.le_of_ble_eq_true rfl) rfl dX11_oneToken_11 ?_
  refine iv_if_eq (pc := 14) X dX11_oneToken_14 (tgt := 97) rfl (fun hb7 => ?_) (fun hb7 => ?_)
  · rw [if_pos hb7] at hm
    refine iv_iload_n (pc := 97) X dX11_oneToken_97 rfl ?_
    obtain ⟨⟨r9, S8⟩, hc10, hm⟩ := bd_some hm
    refine cS_X11_221 (pc := 98) X [.int r2] [] 1 rfl (f_X11_isSmall_e l g ad r2 S4 _ _ hc10) (by decide) (by decide) (Nat.le_of_ble_eq_true rfl) rfl dX11_oneToken_98 ?_
    refine iv_if_eq (pc := 101) X dX11_oneToken_101 (tgt := 215) rfl (fun hb11 => ?_) (fun hb11 => ?_)
    · rw [if_pos hb11] at hm
      refine iv_iload_n (pc := 215) X dX11_oneToken_215 rfl ?_
      refine iv_bipush (pc := 216) X dX11_oneToken_216 bc_40 ?_
      refine iv_icmp_eq (pc := 218) X dX11_oneToken_218 (tgt := 311) rfl (fun hb12 => ?_) (fun hb12 => ?_)
      · rw [if_pos hb12] at hm
        refine iv_iconst (pc := 311) X dX11_oneToken_311 ic_1 ?_
        refine iv_goto (pc := 312) X dX11_oneToken_312 (tgt := 316) rfl ?_
        refine iv_istore (pc := 316) X dX11_oneToken_316 (by decide) (lv' := [(4, .int 1), (3, .int (x1 + 1)), (2, .int r2), (0, .ref (ad 75)), (1, .int x1)]) rfl ?_
        refine iv_aload_n (pc := 318) X dX11_oneToken_318 rfl ?_
        refine iv_iload (pc := 319) X dX11_oneToken_319 rfl ?_
        refine iv_if_eq (pc := 321) X dX11_oneToken_321 (tgt := 328) rfl (fun hb => absurd hb (by decide)) (fun _ => ?_)
        refine iv_iconst (pc := 324) X dX11_oneToken_324 ic_3 ?_
        refine iv_goto (pc := 325) X dX11_oneToken_325 (tgt := 330) rfl ?_
        refine iv_iload_n (pc := 330) X dX11_oneToken_330 rfl ?_
        refine iv_iload_n (pc := 331) X dX11_oneToken_331 rfl ?_
        refine iv_lconst (pc := 332) X dX11_oneToken_332 lc_0 ?_
        obtain ⟨⟨r15, S14⟩, hc16, hm⟩ := bd_some hm
        refine cV_X11_209_75 (pc := 333) X [.int 3, .int r2, .int x1, .long 0] [] 4 rfl (f_X11_token_e l g ad 3 r2 x1 0 S8 _ _ hc16) (by decide) (by decide) (Nat.le_of_ble_eq_true rfl) rfl dX11_oneToken_333 ?_
        refine iv_iload_n (pc := 336) X dX11_oneToken_336 rfl ?_
        cases hm
        exact is_iret (pc := 337) X dX11_oneToken_337
      · rw [if_neg hb12] at hm
        refine iv_iload_n (pc := 221) X dX11_oneToken_221 rfl ?_
        refine iv_bipush (pc := 222) X dX11_oneToken_222 bc_41 ?_
        refine iv_icmp_eq (pc := 224) X dX11_oneToken_224 (tgt := 311) rfl (fun hb17 => ?_) (fun hb17 => ?_)
        · rw [if_pos hb17] at hm
          refine iv_iconst (pc := 311) X dX11_oneToken_311 ic_1 ?_
          refine iv_goto (pc := 312) X dX11_oneToken_312 (tgt := 316) rfl ?_
          refine iv_istore (pc := 316) X dX11_oneToken_316 (by decide) (lv' := [(4, .int 1), (3, .int (x1 + 1)), (2, .int r2), (0, .ref (ad 75)), (1, .int x1)]) rfl ?_
          refine iv_aload_n (pc := 318) X dX11_oneToken_318 rfl ?_
          refine iv_iload (pc := 319) X dX11_oneToken_319 rfl ?_
          refine iv_if_eq (pc := 321) X dX11_oneToken_321 (tgt := 328) rfl (fun hb => absurd hb (by decide)) (fun _ => ?_)
          refine iv_iconst (pc := 324) X dX11_oneToken_324 ic_3 ?_
          refine iv_goto (pc := 325) X dX11_oneToken_325 (tgt := 330) rfl ?_
          refine iv_iload_n (pc := 330) X dX11_oneToken_330 rfl ?_
          refine iv_iload_n (pc := 331) X dX11_oneToken_331 rfl ?_
          refine iv_lconst (pc := 332) X dX11_oneToken_332 lc_0 ?_
          obtain ⟨⟨r20, S19⟩, hc21, hm⟩ := bd_some hm
          refine cV_X11_209_75 (pc := 333) X [.int 3, .int r2, .int x1, .long 0] [] 4 rfl (f_X11_token_e l g ad 3 r2 x1 0 S8 _ _ hc21) (by decide) (by decide) (Nat.le_of_ble_eq_true rfl) rfl dX11_oneToken_333 ?_
          refine iv_iload_n (pc := 336) X dX11_oneToken_336 rfl ?_
          cases hm
          exact is_iret (pc := 337) X dX11_oneToken_337
        · rw [if_neg hb17] at hm
          refine iv_iload_n (pc := 227) X dX11_oneToken_227 rfl ?_
          refine iv_bipush (pc := 228) X dX11_oneToken_228 bc_91 ?_
          refine iv_icmp_eq (pc := 230) X dX11_oneToken_230 (tgt := 311) rfl (fun hb22 => ?_) (fun hb22 => ?_)
          · rw [if_pos hb22] at hm
            refine iv_iconst (pc := 311) X dX11_oneToken_311 ic_1 ?_
            refine iv_goto (pc := 312) X dX11_oneToken_312 (tgt := 316) rfl ?_
            refine iv_istore (pc := 316) X dX11_oneToken_316 (by decide) (lv' := [(4, .int 1), (3, .int (x1 + 1)), (2, .int r2), (0, .ref (ad 75)), (1, .int x1)]) rfl ?_
            refine iv_aload_n (pc := 318) X dX11_oneToken_318 rfl ?_
            refine iv_iload (pc := 319) X dX11_oneToken_319 rfl ?_
            refine iv_if_eq (pc := 321) X dX11_oneToken_321 (tgt := 328) rfl (fun hb => absurd hb (by decide)) (fun _ => ?_)
            refine iv_iconst (pc := 324) X dX11_oneToken_324 ic_3 ?_
            refine iv_goto (pc := 325) X dX11_oneToken_325 (tgt := 330) rfl ?_
            refine iv_iload_n (pc := 330) X dX11_oneToken_330 rfl ?_
            refine iv_iload_n (pc := 331) X dX11_oneToken_331 rfl ?_
            refine iv_lconst (pc := 332) X dX11_oneToken_332 lc_0 ?_
            obtain ⟨⟨r25, S24⟩, hc26, hm⟩ := bd_some hm
            refine cV_X11_209_75 (pc := 333) X [.int 3, .int r2, .int x1, .long 0] [] 4 rfl (f_X11_token_e l g ad 3 r2 x1 0 S8 _ _ hc26) (by decide) (by decide) (Nat.le_of_ble_eq_true rfl) rfl dX11_oneToken_333 ?_
            refine iv_iload_n (pc := 336) X dX11_oneToken_336 rfl ?_
            cases hm
            exact is_iret (pc := 337) X dX11_oneToken_337
          · rw [if_neg hb22] at hm
            refine iv_iload_n (pc := 233) X dX11_oneToken_233 rfl ?_
            refine iv_bipush (pc := 234) X dX11_oneToken_234 bc_93 ?_
            refine iv_icmp_eq (pc := 236) X dX11_oneToken_236 (tgt := 311) rfl (fun hb27 => ?_) (fun hb27 => ?_)
            · rw [if_pos hb27] at hm
              refine iv_iconst (pc := 311) X dX11_oneToken_311 ic_1 ?_
              refine iv_goto (pc := 312) X dX11_oneToken_312 (tgt := 316) rfl ?_
              refine iv_istore (pc := 316) X dX11_oneToken_316 (by decide) (lv' := [(4, .int 1), (3, .int (x1 + 1)), (2, .int r2), (0, .ref (ad 75)), (1, .int x1)]) rfl ?_
              refine iv_aload_n (pc := 318) X dX11_oneToken_318 rfl ?_
              refine iv_iload (pc := 319) X dX11_oneToken_319 rfl ?_
              refine iv_if_eq (pc := 321) X dX11_oneToken_321 (tgt := 328) rfl (fun hb => absurd hb (by decide)) (fun _ => ?_)
              refine iv_iconst (pc := 324) X dX11_oneToken_324 ic_3 ?_
              refine iv_goto (pc := 325) X dX11_oneToken_325 (tgt := 330) rfl ?_
              refine iv_iload_n (pc := 330) X dX11_oneToken_330 rfl ?_
              refine iv_iload_n (pc := 331) X dX11_oneToken_331 rfl ?_
              refine iv_lconst (pc := 332) X dX11_oneToken_332 lc_0 ?_
              obtain ⟨⟨r30, S29⟩, hc31, hm⟩ := bd_some hm
              refine cV_X11_209_75 (pc := 333) X [.int 3, .int r2, .int x1, .long 0] [] 4 rfl (f_X11_token_e l g ad 3 r2 x1 0 S8 _ _ hc31) (by decide) (by decide) (Nat.le_of_ble_eq_true rfl) rfl dX11_oneToken_333 ?_
              refine iv_iload_n (pc := 336) X dX11_oneToken_336 rfl ?_
              cases hm
              exact is_iret (pc := 337) X dX11_oneToken_337
            · rw [if_neg hb27] at hm
              refine iv_iload_n (pc := 239) X dX11_oneToken_239 rfl ?_
              refine iv_bipush (pc := 240) X dX11_oneToken_240 bc_44 ?_
              refine iv_icmp_eq (pc := 242) X dX11_oneToken_242 (tgt := 311) rfl (fun hb32 => ?_) (fun hb32 => ?_)
              · rw [if_pos hb32] at hm
                refine iv_iconst (pc := 311) X dX11_oneToken_311 ic_1 ?_
                refine iv_goto (pc := 312) X dX11_oneToken_312 (tgt := 316) rfl ?_
                refine iv_istore (pc := 316) X dX11_oneToken_316 (by decide) (lv' := [(4, .int 1), (3, .int (x1 + 1)), (2, .int r2), (0, .ref (ad 75)), (1, .int x1)]) rfl ?_
                refine iv_aload_n (pc := 318) X dX11_oneToken_318 rfl ?_
                refine iv_iload (pc := 319) X dX11_oneToken_319 rfl ?_
                refine iv_if_eq (pc := 321) X dX11_oneToken_321 (tgt := 328) rfl (fun hb => absurd hb (by decide)) (fun _ => ?_)
                refine iv_iconst (pc := 324) X dX11_oneToken_324 ic_3 ?_
                refine iv_goto (pc := 325) X dX11_oneToken_325 (tgt := 330) rfl ?_
                refine iv_iload_n (pc := 330) X dX11_oneToken_330 rfl ?_
                refine iv_iload_n (pc := 331) X dX11_oneToken_331 rfl ?_
                refine iv_lconst (pc := 332) X dX11_oneToken_332 lc_0 ?_
                obtain ⟨⟨r35, S34⟩, hc36, hm⟩ := bd_some hm
                refine cV_X11_209_75 (pc := 333) X [.int 3, .int r2, .int x1, .long 0] [] 4 rfl (f_X11_token_e l g ad 3 r2 x1 0 S8 _ _ hc36) (by decide) (by decide) (Nat.le_of_ble_eq_true rfl) rfl dX11_oneToken_333 ?_
                refine iv_iload_n (pc := 336) X dX11_oneToken_336 rfl ?_
                cases hm
                exact is_iret (pc := 337) X dX11_oneToken_337
              · rw [if_neg hb32] at hm
                refine iv_iload_n (pc := 245) X dX11_oneToken_245 rfl ?_
                refine iv_bipush (pc := 246) X dX11_oneToken_246 bc_59 ?_
                refine iv_icmp_eq (pc := 248) X dX11_oneToken_248 (tgt := 311) rfl (fun hb37 => ?_) (fun hb37 => ?_)
                · rw [if_pos hb37] at hm
                  refine iv_iconst (pc := 311) X dX11_oneToken_311 ic_1 ?_
                  refine iv_goto (pc := 312) X dX11_oneToken_312 (tgt := 316) rfl ?_
                  refine iv_istore (pc := 316) X dX11_oneToken_316 (by decide) (lv' := [(4, .int 1), (3, .int (x1 + 1)), (2, .int r2), (0, .ref (ad 75)), (1, .int x1)]) rfl ?_
                  refine iv_aload_n (pc := 318) X dX11_oneToken_318 rfl ?_
                  refine iv_iload (pc := 319) X dX11_oneToken_319 rfl ?_
                  refine iv_if_eq (pc := 321) X dX11_oneToken_321 (tgt := 328) rfl (fun hb => absurd hb (by decide)) (fun _ => ?_)
                  refine iv_iconst (pc := 324) X dX11_oneToken_324 ic_3 ?_
                  refine iv_goto (pc := 325) X dX11_oneToken_325 (tgt := 330) rfl ?_
                  refine iv_iload_n (pc := 330) X dX11_oneToken_330 rfl ?_
                  refine iv_iload_n (pc := 331) X dX11_oneToken_331 rfl ?_
                  refine iv_lconst (pc := 332) X dX11_oneToken_332 lc_0 ?_
                  obtain ⟨⟨r40, S39⟩, hc41, hm⟩ := bd_some hm
                  refine cV_X11_209_75 (pc := 333) X [.int 3, .int r2, .int x1, .long 0] [] 4 rfl (f_X11_token_e l g ad 3 r2 x1 0 S8 _ _ hc41) (by decide) (by decide) (Nat.le_of_ble_eq_true rfl) rfl dX11_oneToken_333 ?_
                  refine iv_iload_n (pc := 336) X dX11_oneToken_336 rfl ?_
                  cases hm
                  exact is_iret (pc := 337) X dX11_oneToken_337
                · rw [if_neg hb37] at hm
                  refine iv_iload_n (pc := 251) X dX11_oneToken_251 rfl ?_
                  refine iv_bipush (pc := 252) X dX11_oneToken_252 bc_61 ?_
                  refine iv_icmp_eq (pc := 254) X dX11_oneToken_254 (tgt := 311) rfl (fun hb42 => ?_) (fun hb42 => ?_)
                  · rw [if_pos hb42] at hm
                    refine iv_iconst (pc := 311) X dX11_oneToken_311 ic_1 ?_
                    refine iv_goto (pc := 312) X dX11_oneToken_312 (tgt := 316) rfl ?_
                    refine iv_istore (pc := 316) X dX11_oneToken_316 (by decide) (lv' := [(4, .int 1), (3, .int (x1 + 1)), (2, .int r2), (0, .ref (ad 75)), (1, .int x1)]) rfl ?_
                    refine iv_aload_n (pc := 318) X dX11_oneToken_318 rfl ?_
                    refine iv_iload (pc := 319) X dX11_oneToken_319 rfl ?_
                    refine iv_if_eq (pc := 321) X dX11_oneToken_321 (tgt := 328) rfl (fun hb => absurd hb (by decide)) (fun _ => ?_)
                    refine iv_iconst (pc := 324) X dX11_oneToken_324 ic_3 ?_
                    refine iv_goto (pc := 325) X dX11_oneToken_325 (tgt := 330) rfl ?_
                    refine iv_iload_n (pc := 330) X dX11_oneToken_330 rfl ?_
                    refine iv_iload_n (pc := 331) X dX11_oneToken_331 rfl ?_
                    refine iv_lconst (pc := 332) X dX11_oneToken_332 lc_0 ?_
                    obtain ⟨⟨r45, S44⟩, hc46, hm⟩ := bd_some hm
                    refine cV_X11_209_75 (pc := 333) X [.int 3, .int r2, .int x1, .long 0] [] 4 rfl (f_X11_token_e l g ad 3 r2 x1 0 S8 _ _ hc46) (by decide) (by decide) (Nat.le_of_ble_eq_true rfl) rfl dX11_oneToken_333 ?_
                    refine iv_iload_n (pc := 336) X dX11_oneToken_336 rfl ?_
                    cases hm
                    exact is_iret (pc := 337) X dX11_oneToken_337
                  · rw [if_neg hb42] at hm
                    refine iv_iload_n (pc := 257) X dX11_oneToken_257 rfl ?_
                    refine iv_bipush (pc := 258) X dX11_oneToken_258 bc_60 ?_
                    refine iv_icmp_eq (pc := 260) X dX11_oneToken_260 (tgt := 311) rfl (fun hb47 => ?_) (fun hb47 => ?_)
                    · rw [if_pos hb47] at hm
                      refine iv_iconst (pc := 311) X dX11_oneToken_311 ic_1 ?_
                      refine iv_goto (pc := 312) X dX11_oneToken_312 (tgt := 316) rfl ?_
                      refine iv_istore (pc := 316) X dX11_oneToken_316 (by decide) (lv' := [(4, .int 1), (3, .int (x1 + 1)), (2, .int r2), (0, .ref (ad 75)), (1, .int x1)]) rfl ?_
                      refine iv_aload_n (pc := 318) X dX11_oneToken_318 rfl ?_
                      refine iv_iload (pc := 319) X dX11_oneToken_319 rfl ?_
                      refine iv_if_eq (pc := 321) X dX11_oneToken_321 (tgt := 328) rfl (fun hb => absurd hb (by decide)) (fun _ => ?_)
                      refine iv_iconst (pc := 324) X dX11_oneToken_324 ic_3 ?_
                      refine iv_goto (pc := 325) X dX11_oneToken_325 (tgt := 330) rfl ?_
                      refine iv_iload_n (pc := 330) X dX11_oneToken_330 rfl ?_
                      refine iv_iload_n (pc := 331) X dX11_oneToken_331 rfl ?_
                      refine iv_lconst (pc := 332) X dX11_oneToken_332 lc_0 ?_
                      obtain ⟨⟨r50, S49⟩, hc51, hm⟩ := bd_some hm
                      refine cV_X11_209_75 (pc := 333) X [.int 3, .int r2, .int x1, .long 0] [] 4 rfl (f_X11_token_e l g ad 3 r2 x1 0 S8 _ _ hc51) (by decide) (by decide) (Nat.le_of_ble_eq_true rfl) rfl dX11_oneToken_333 ?_
                      refine iv_iload_n (pc := 336) X dX11_oneToken_336 rfl ?_
                      cases hm
                      exact is_iret (pc := 337) X dX11_oneToken_337
                    · rw [if_neg hb47] at hm
                      refine iv_iload_n (pc := 263) X dX11_oneToken_263 rfl ?_
                      refine iv_bipush (pc := 264) X dX11_oneToken_264 bc_43 ?_
                      refine iv_icmp_eq (pc := 266) X dX11_oneToken_266 (tgt := 311) rfl (fun hb52 => ?_) (fun hb52 => ?_)
                      · rw [if_pos hb52] at hm
                        refine iv_iconst (pc := 311) X dX11_oneToken_311 ic_1 ?_
                        refine iv_goto (pc := 312) X dX11_oneToken_312 (tgt := 316) rfl ?_
                        refine iv_istore (pc := 316) X dX11_oneToken_316 (by decide) (lv' := [(4, .int 1), (3, .int (x1 + 1)), (2, .int r2), (0, .ref (ad 75)), (1, .int x1)]) rfl ?_
                        refine iv_aload_n (pc := 318) X dX11_oneToken_318 rfl ?_
                        refine iv_iload (pc := 319) X dX11_oneToken_319 rfl ?_
                        refine iv_if_eq (pc := 321) X dX11_oneToken_321 (tgt := 328) rfl (fun hb => absurd hb (by decide)) (fun _ => ?_)
                        refine iv_iconst (pc := 324) X dX11_oneToken_324 ic_3 ?_
                        refine iv_goto (pc := 325) X dX11_oneToken_325 (tgt := 330) rfl ?_
                        refine iv_iload_n (pc := 330) X dX11_oneToken_330 rfl ?_
                        refine iv_iload_n (pc := 331) X dX11_oneToken_331 rfl ?_
                        refine iv_lconst (pc := 332) X dX11_oneToken_332 lc_0 ?_
                        obtain ⟨⟨r55, S54⟩, hc56, hm⟩ := bd_some hm
                        refine cV_X11_209_75 (pc := 333) X [.int 3, .int r2, .int x1, .long 0] [] 4 rfl (f_X11_token_e l g ad 3 r2 x1 0 S8 _ _ hc56) (by decide) (by decide) (Nat.le_of_ble_eq_true rfl) rfl dX11_oneToken_333 ?_
                        refine iv_iload_n (pc := 336) X dX11_oneToken_336 rfl ?_
                        cases hm
                        exact is_iret (pc := 337) X dX11_oneToken_337
                      · rw [if_neg hb52] at hm
                        refine iv_iload_n (pc := 269) X dX11_oneToken_269 rfl ?_
                        refine iv_bipush (pc := 270) X dX11_oneToken_270 bc_45 ?_
                        refine iv_icmp_eq (pc := 272) X dX11_oneToken_272 (tgt := 311) rfl (fun hb57 => ?_) (fun hb57 => ?_)
                        · rw [if_pos hb57] at hm
                          refine iv_iconst (pc := 311) X dX11_oneToken_311 ic_1 ?_
                          refine iv_goto (pc := 312) X dX11_oneToken_312 (tgt := 316) rfl ?_
                          refine iv_istore (pc := 316) X dX11_oneToken_316 (by decide) (lv' := [(4, .int 1), (3, .int (x1 + 1)), (2, .int r2), (0, .ref (ad 75)), (1, .int x1)]) rfl ?_
                          refine iv_aload_n (pc := 318) X dX11_oneToken_318 rfl ?_
                          refine iv_iload (pc := 319) X dX11_oneToken_319 rfl ?_
                          refine iv_if_eq (pc := 321) X dX11_oneToken_321 (tgt := 328) rfl (fun hb => absurd hb (by decide)) (fun _ => ?_)
                          refine iv_iconst (pc := 324) X dX11_oneToken_324 ic_3 ?_
                          refine iv_goto (pc := 325) X dX11_oneToken_325 (tgt := 330) rfl ?_
                          refine iv_iload_n (pc := 330) X dX11_oneToken_330 rfl ?_
                          refine iv_iload_n (pc := 331) X dX11_oneToken_331 rfl ?_
                          refine iv_lconst (pc := 332) X dX11_oneToken_332 lc_0 ?_
                          obtain ⟨⟨r60, S59⟩, hc61, hm⟩ := bd_some hm
                          refine cV_X11_209_75 (pc := 333) X [.int 3, .int r2, .int x1, .long 0] [] 4 rfl (f_X11_token_e l g ad 3 r2 x1 0 S8 _ _ hc61) (by decide) (by decide) (Nat.le_of_ble_eq_true rfl) rfl dX11_oneToken_333 ?_
                          refine iv_iload_n (pc := 336) X dX11_oneToken_336 rfl ?_
                          cases hm
                          exact is_iret (pc := 337) X dX11_oneToken_337
                        · rw [if_neg hb57] at hm
                          refine iv_iload_n (pc := 275) X dX11_oneToken_275 rfl ?_
                          refine iv_bipush (pc := 276) X dX11_oneToken_276 bc_42 ?_
                          refine iv_icmp_eq (pc := 278) X dX11_oneToken_278 (tgt := 311) rfl (fun hb62 => ?_) (fun hb62 => ?_)
                          · rw [if_pos hb62] at hm
                            refine iv_iconst (pc := 311) X dX11_oneToken_311 ic_1 ?_
                            refine iv_goto (pc := 312) X dX11_oneToken_312 (tgt := 316) rfl ?_
                            refine iv_istore (pc := 316) X dX11_oneToken_316 (by decide) (lv' := [(4, .int 1), (3, .int (x1 + 1)), (2, .int r2), (0, .ref (ad 75)), (1, .int x1)]) rfl ?_
                            refine iv_aload_n (pc := 318) X dX11_oneToken_318 rfl ?_
                            refine iv_iload (pc := 319) X dX11_oneToken_319 rfl ?_
                            refine iv_if_eq (pc := 321) X dX11_oneToken_321 (tgt := 328) rfl (fun hb => absurd hb (by decide)) (fun _ => ?_)
                            refine iv_iconst (pc := 324) X dX11_oneToken_324 ic_3 ?_
                            refine iv_goto (pc := 325) X dX11_oneToken_325 (tgt := 330) rfl ?_
                            refine iv_iload_n (pc := 330) X dX11_oneToken_330 rfl ?_
                            refine iv_iload_n (pc := 331) X dX11_oneToken_331 rfl ?_
                            refine iv_lconst (pc := 332) X dX11_oneToken_332 lc_0 ?_
                            obtain ⟨⟨r65, S64⟩, hc66, hm⟩ := bd_some hm
                            refine cV_X11_209_75 (pc := 333) X [.int 3, .int r2, .int x1, .long 0] [] 4 rfl (f_X11_token_e l g ad 3 r2 x1 0 S8 _ _ hc66) (by decide) (by decide) (Nat.le_of_ble_eq_true rfl) rfl dX11_oneToken_333 ?_
                            refine iv_iload_n (pc := 336) X dX11_oneToken_336 rfl ?_
                            cases hm
                            exact is_iret (pc := 337) X dX11_oneToken_337
                          · rw [if_neg hb62] at hm
                            refine iv_iload_n (pc := 281) X dX11_oneToken_281 rfl ?_
                            refine iv_bipush (pc := 282) X dX11_oneToken_282 bc_47 ?_
                            refine iv_icmp_eq (pc := 284) X dX11_oneToken_284 (tgt := 311) rfl (fun hb67 => ?_) (fun hb67 => ?_)
                            · rw [if_pos hb67] at hm
                              refine iv_iconst (pc := 311) X dX11_oneToken_311 ic_1 ?_
                              refine iv_goto (pc := 312) X dX11_oneToken_312 (tgt := 316) rfl ?_
                              refine iv_istore (pc := 316) X dX11_oneToken_316 (by decide) (lv' := [(4, .int 1), (3, .int (x1 + 1)), (2, .int r2), (0, .ref (ad 75)), (1, .int x1)]) rfl ?_
                              refine iv_aload_n (pc := 318) X dX11_oneToken_318 rfl ?_
                              refine iv_iload (pc := 319) X dX11_oneToken_319 rfl ?_
                              refine iv_if_eq (pc := 321) X dX11_oneToken_321 (tgt := 328) rfl (fun hb => absurd hb (by decide)) (fun _ => ?_)
                              refine iv_iconst (pc := 324) X dX11_oneToken_324 ic_3 ?_
                              refine iv_goto (pc := 325) X dX11_oneToken_325 (tgt := 330) rfl ?_
                              refine iv_iload_n (pc := 330) X dX11_oneToken_330 rfl ?_
                              refine iv_iload_n (pc := 331) X dX11_oneToken_331 rfl ?_
                              refine iv_lconst (pc := 332) X dX11_oneToken_332 lc_0 ?_
                              obtain ⟨⟨r70, S69⟩, hc71, hm⟩ := bd_some hm
                              refine cV_X11_209_75 (pc := 333) X [.int 3, .int r2, .int x1, .long 0] [] 4 rfl (f_X11_token_e l g ad 3 r2 x1 0 S8 _ _ hc71) (by decide) (by decide) (Nat.le_of_ble_eq_true rfl) rfl dX11_oneToken_333 ?_
                              refine iv_iload_n (pc := 336) X dX11_oneToken_336 rfl ?_
                              cases hm
                              exact is_iret (pc := 337) X dX11_oneToken_337
                            · rw [if_neg hb67] at hm
                              refine iv_iload_n (pc := 287) X dX11_oneToken_287 rfl ?_
                              refine iv_bipush (pc := 288) X dX11_oneToken_288 bc_37 ?_
                              refine iv_icmp_eq (pc := 290) X dX11_oneToken_290 (tgt := 311) rfl (fun hb72 => ?_) (fun hb72 => ?_)
                              · rw [if_pos hb72] at hm
                                refine iv_iconst (pc := 311) X dX11_oneToken_311 ic_1 ?_
                                refine iv_goto (pc := 312) X dX11_oneToken_312 (tgt := 316) rfl ?_
                                refine iv_istore (pc := 316) X dX11_oneToken_316 (by decide) (lv' := [(4, .int 1), (3, .int (x1 + 1)), (2, .int r2), (0, .ref (ad 75)), (1, .int x1)]) rfl ?_
                                refine iv_aload_n (pc := 318) X dX11_oneToken_318 rfl ?_
                                refine iv_iload (pc := 319) X dX11_oneToken_319 rfl ?_
                                refine iv_if_eq (pc := 321) X dX11_oneToken_321 (tgt := 328) rfl (fun hb => absurd hb (by decide)) (fun _ => ?_)
                                refine iv_iconst (pc := 324) X dX11_oneToken_324 ic_3 ?_
                                refine iv_goto (pc := 325) X dX11_oneToken_325 (tgt := 330) rfl ?_
                                refine iv_iload_n (pc := 330) X dX11_oneToken_330 rfl ?_
                                refine iv_iload_n (pc := 331) X dX11_oneToken_331 rfl ?_
                                refine iv_lconst (pc := 332) X dX11_oneToken_332 lc_0 ?_
                                obtain ⟨⟨r75, S74⟩, hc76, hm⟩ := bd_some hm
                                refine cV_X11_209_75 (pc := 333) X [.int 3, .int r2, .int x1, .long 0] [] 4 rfl (f_X11_token_e l g ad 3 r2 x1 0 S8 _ _ hc76) (by decide) (by decide) (Nat.le_of_ble_eq_true rfl) rfl dX11_oneToken_333 ?_
                                refine iv_iload_n (pc := 336) X dX11_oneToken_336 rfl ?_
                                cases hm
                                exact is_iret (pc := 337) X dX11_oneToken_337
                              · rw [if_neg hb72] at hm
                                refine iv_iload_n (pc := 293) X dX11_oneToken_293 rfl ?_
                                refine iv_bipush (pc := 294) X dX11_oneToken_294 bc_38 ?_
                                refine iv_icmp_eq (pc := 296) X dX11_oneToken_296 (tgt := 311) rfl (fun hb77 => ?_) (fun hb77 => ?_)
                                · rw [if_pos hb77] at hm
                                  refine iv_iconst (pc := 311) X dX11_oneToken_311 ic_1 ?_
                                  refine iv_goto (pc := 312) X dX11_oneToken_312 (tgt := 316) rfl ?_
                                  refine iv_istore (pc := 316) X dX11_oneToken_316 (by decide) (lv' := [(4, .int 1), (3, .int (x1 + 1)), (2, .int r2), (0, .ref (ad 75)), (1, .int x1)]) rfl ?_
                                  refine iv_aload_n (pc := 318) X dX11_oneToken_318 rfl ?_
                                  refine iv_iload (pc := 319) X dX11_oneToken_319 rfl ?_
                                  refine iv_if_eq (pc := 321) X dX11_oneToken_321 (tgt := 328) rfl (fun hb => absurd hb (by decide)) (fun _ => ?_)
                                  refine iv_iconst (pc := 324) X dX11_oneToken_324 ic_3 ?_
                                  refine iv_goto (pc := 325) X dX11_oneToken_325 (tgt := 330) rfl ?_
                                  refine iv_iload_n (pc := 330) X dX11_oneToken_330 rfl ?_
                                  refine iv_iload_n (pc := 331) X dX11_oneToken_331 rfl ?_
                                  refine iv_lconst (pc := 332) X dX11_oneToken_332 lc_0 ?_
                                  obtain ⟨⟨r80, S79⟩, hc81, hm⟩ := bd_some hm
                                  refine cV_X11_209_75 (pc := 333) X [.int 3, .int r2, .int x1, .long 0] [] 4 rfl (f_X11_token_e l g ad 3 r2 x1 0 S8 _ _ hc81) (by decide) (by decide) (Nat.le_of_ble_eq_true rfl) rfl dX11_oneToken_333 ?_
                                  refine iv_iload_n (pc := 336) X dX11_oneToken_336 rfl ?_
                                  cases hm
                                  exact is_iret (pc := 337) X dX11_oneToken_337
                                · rw [if_neg hb77] at hm
                                  refine iv_iload_n (pc := 299) X dX11_oneToken_299 rfl ?_
                                  refine iv_bipush (pc := 300) X dX11_oneToken_300 bc_124 ?_
                                  refine iv_icmp_eq (pc := 302) X dX11_oneToken_302 (tgt := 311) rfl (fun hb82 => ?_) (fun hb82 => ?_)
                                  · rw [if_pos hb82] at hm
                                    refine iv_iconst (pc := 311) X dX11_oneToken_311 ic_1 ?_
                                    refine iv_goto (pc := 312) X dX11_oneToken_312 (tgt := 316) rfl ?_
                                    refine iv_istore (pc := 316) X dX11_oneToken_316 (by decide) (lv' := [(4, .int 1), (3, .int (x1 + 1)), (2, .int r2), (0, .ref (ad 75)), (1, .int x1)]) rfl ?_
                                    refine iv_aload_n (pc := 318) X dX11_oneToken_318 rfl ?_
                                    refine iv_iload (pc := 319) X dX11_oneToken_319 rfl ?_
                                    refine iv_if_eq (pc := 321) X dX11_oneToken_321 (tgt := 328) rfl (fun hb => absurd hb (by decide)) (fun _ => ?_)
                                    refine iv_iconst (pc := 324) X dX11_oneToken_324 ic_3 ?_
                                    refine iv_goto (pc := 325) X dX11_oneToken_325 (tgt := 330) rfl ?_
                                    refine iv_iload_n (pc := 330) X dX11_oneToken_330 rfl ?_
                                    refine iv_iload_n (pc := 331) X dX11_oneToken_331 rfl ?_
                                    refine iv_lconst (pc := 332) X dX11_oneToken_332 lc_0 ?_
                                    obtain ⟨⟨r85, S84⟩, hc86, hm⟩ := bd_some hm
                                    refine cV_X11_209_75 (pc := 333) X [.int 3, .int r2, .int x1, .long 0] [] 4 rfl (f_X11_token_e l g ad 3 r2 x1 0 S8 _ _ hc86) (by decide) (by decide) (Nat.le_of_ble_eq_true rfl) rfl dX11_oneToken_333 ?_
                                    refine iv_iload_n (pc := 336) X dX11_oneToken_336 rfl ?_
                                    cases hm
                                    exact is_iret (pc := 337) X dX11_oneToken_337
                                  · rw [if_neg hb82] at hm
                                    refine iv_iload_n (pc := 305) X dX11_oneToken_305 rfl ?_
                                    refine iv_bipush (pc := 306) X dX11_oneToken_306 bc_33 ?_
                                    refine iv_icmp_ne (pc := 308) X dX11_oneToken_308 (tgt := 315) rfl (fun hb87 => ?_) (fun hb87 => ?_)
                                    · rw [if_pos hb87] at hm
                                      refine iv_iconst (pc := 315) X dX11_oneToken_315 ic_0 ?_
                                      refine iv_istore (pc := 316) X dX11_oneToken_316 (by decide) (lv' := [(4, .int 0), (3, .int (x1 + 1)), (2, .int r2), (0, .ref (ad 75)), (1, .int x1)]) rfl ?_
                                      refine iv_aload_n (pc := 318) X dX11_oneToken_318 rfl ?_
                                      refine iv_iload (pc := 319) X dX11_oneToken_319 rfl ?_
                                      refine iv_if_eq (pc := 321) X dX11_oneToken_321 (tgt := 328) rfl (fun _ => ?_) (fun hb => absurd (by decide) hb)
                                      refine iv_bipush (pc := 328) X dX11_oneToken_328 bc_9 ?_
                                      refine iv_iload_n (pc := 330) X dX11_oneToken_330 rfl ?_
                                      refine iv_iload_n (pc := 331) X dX11_oneToken_331 rfl ?_
                                      refine iv_lconst (pc := 332) X dX11_oneToken_332 lc_0 ?_
                                      obtain ⟨⟨r90, S89⟩, hc91, hm⟩ := bd_some hm
                                      refine cV_X11_209_75 (pc := 333) X [.int 9, .int r2, .int x1, .long 0] [] 4 rfl (f_X11_token_e l g ad 9 r2 x1 0 S8 _ _ hc91) (by decide) (by decide) (Nat.le_of_ble_eq_true rfl) rfl dX11_oneToken_333 ?_
                                      refine iv_iload_n (pc := 336) X dX11_oneToken_336 rfl ?_
                                      cases hm
                                      exact is_iret (pc := 337) X dX11_oneToken_337
                                    · rw [if_neg hb87] at hm
                                      refine iv_iconst (pc := 311) X dX11_oneToken_311 ic_1 ?_
                                      refine iv_goto (pc := 312) X dX11_oneToken_312 (tgt := 316) rfl ?_
                                      refine iv_istore (pc := 316) X dX11_oneToken_316 (by decide) (lv' := [(4, .int 1), (3, .int (x1 + 1)), (2, .int r2), (0, .ref (ad 75)), (1, .int x1)]) rfl ?_
                                      refine iv_aload_n (pc := 318) X dX11_oneToken_318 rfl ?_
                                      refine iv_iload (pc := 319) X dX11_oneToken_319 rfl ?_
                                      refine iv_if_eq (pc := 321) X dX11_oneToken_321 (tgt := 328) rfl (fun hb => absurd hb (by decide)) (fun _ => ?_)
                                      refine iv_iconst (pc := 324) X dX11_oneToken_324 ic_3 ?_
                                      refine iv_goto (pc := 325) X dX11_oneToken_325 (tgt := 330) rfl ?_
                                      refine iv_iload_n (pc := 330) X dX11_oneToken_330 rfl ?_
                                      refine iv_iload_n (pc := 331) X dX11_oneToken_331 rfl ?_
                                      refine iv_lconst (pc := 332) X dX11_oneToken_332 lc_0 ?_
                                      obtain ⟨⟨r94, S93⟩, hc95, hm⟩ := bd_some hm
                                      refine cV_X11_209_75 (pc := 333) X [.int 3, .int r2, .int x1, .long 0] [] 4 rfl (f_X11_token_e l g ad 3 r2 x1 0 S8 _ _ hc95) (by decide) (by decide) (Nat.le_of_ble_eq_true rfl) rfl dX11_oneToken_333 ?_
                                      refine iv_iload_n (pc := 336) X dX11_oneToken_336 rfl ?_
                                      cases hm
                                      exact is_iret (pc := 337) X dX11_oneToken_337
    · rw [if_neg hb11] at hm
      refine iv_iload_n (pc := 104) X dX11_oneToken_104 rfl ?_
      refine iv_i2l (pc := 105) X dX11_oneToken_105 rfl ?_
      refine iv_lstore (pc := 106) X dX11_oneToken_106 (by decide) (lv' := [(4, .long r2.toInt64), (3, .int (x1 + 1)), (2, .int r2), (0, .ref (ad 75)), (1, .int x1)]) rfl ?_
      refine iv_sub [3, 4, 2, 1, 0] (lv2 := [(0, .ref (ad 75)), (1, .int x1), (2, .int r2), (3, .int (x1 + 1)), (4, .long r2.toInt64)]) rfl ?_
      exact f_X11_oneToken_L108_w (fu := fu) l g ad X fu x1 r2 (x1 + 1) r2.toInt64 S8 _ _ hm
  · rw [if_neg hb7] at hm
    refine iv_iload_n (pc := 17) X dX11_oneToken_17 rfl ?_
    refine iv_bipush (pc := 18) X dX11_oneToken_18 bc_48 ?_
    refine iv_isub (pc := 20) X dX11_oneToken_20 ?_
    refine iv_i2l (pc := 21) X dX11_oneToken_21 rfl ?_
    refine iv_lstore (pc := 22) X dX11_oneToken_22 (by decide) (lv' := [(4, .long ((r2 - 48).toInt64)), (3, .int (x1 + 1)), (2, .int r2), (0, .ref (ad 75)), (1, .int x1)]) rfl ?_
    refine iv_sub [3, 4, 2, 1, 0] (lv2 := [(0, .ref (ad 75)), (1, .int x1), (2, .int r2), (3, .int (x1 + 1)), (4, .long ((r2 - 48).toInt64))]) rfl ?_
    exact f_X11_oneToken_L24_w (fu := fu) l g ad X fu x1 r2 (x1 + 1) ((r2 - 48).toInt64) S4 _ _ hm
def f_X11_refuse (S : im_S) : Option (Int32 × im_S) := if (S.1 75 3 : Int32) ≠ 0 then (some (0, S)) else (gd (in_b (S.1 75 10) 502) (some (0, (uI (uI S 75 3 1) 75 4 ((S.1 79) ((S.1 75 10).toNatClampNeg))))))
set_option maxHeartbeats 4000000 in
set_option maxRecDepth 100000 in
theorem f_X11_refuse_e (l : Launch) (g : im_G) (ad : Nat → Nat) (S : im_S) (r : Int32) (S' : im_S) (hm : f_X11_refuse  S = some (r, S')) : im_E l g ad 0 yX11_refuse cX11_refuse 1 (some Jvm.ClassFile.FieldType.boolean) [.ref (ad 75)] S (some (.int r)) S' := by
  unfold f_X11_refuse at hm
  refine is_met (own := RX11) (by decide +kernel) rfl (Nat.le_of_ble_eq_true rfl) (fun p e s m below meth c X => ?_)
  refine iv_aload_n (pc := 0) X dX11_refuse_0 rfl ?_
  refine gF_X11_228_75 (pc := 1) X dX11_refuse_1 (x := S.1 75 3) rfl ?_
  refine iv_if_ne (pc := 4) X dX11_refuse_4 (tgt := 25) rfl (fun hb1 => ?_) (fun hb1 => ?_)
  · rw [if_pos hb1] at hm
    refine iv_iconst (pc := 25) X dX11_refuse_25 ic_0 ?_
    cases hm
    exact is_zret (pc := 26) X dX11_refuse_26 rfl
  · rw [if_neg hb1] at hm
    refine iv_aload_n (pc := 7) X dX11_refuse_7 rfl ?_
    refine iv_iconst (pc := 8) X dX11_refuse_8 ic_1 ?_
    refine pF_X11_228_75 (pc := 9) X dX11_refuse_9 ?_
    refine iv_aload_n (pc := 12) X dX11_refuse_12 rfl ?_
    refine iv_aload_n (pc := 13) X dX11_refuse_13 rfl ?_
    refine gF_X11_19_75 (pc := 14) X dX11_refuse_14 ?_
    refine iv_aload_n (pc := 17) X dX11_refuse_17 rfl ?_
    refine gF_X11_231_75 (pc := 18) X dX11_refuse_18 (x := S.1 75 10) rfl ?_
    obtain ⟨hg, hm⟩ := gd_some hm
    refine aL_79 (pc := 21) X dX11_refuse_21 hg (x := (S.1 79) ((S.1 75 10).toNatClampNeg)) rfl ?_
    refine pF_X11_234_75 (pc := 22) X dX11_refuse_22 ?_
    refine iv_iconst (pc := 25) X dX11_refuse_25 ic_0 ?_
    cases hm
    exact is_zret (pc := 26) X dX11_refuse_26 rfl
def f_X11_isSign (x1 : Int32) (S : im_S) : Option (Int32 × im_S) := gd (in_b (S.1 75 10) 502) (if ((S.1 77) ((S.1 75 10).toNatClampNeg) : Int32) ≠ 3 then (some (0, S)) else (gd (in_b (S.1 75 10) 502) (if ((S.1 78) ((S.1 75 10).toNatClampNeg) : Int32) ≠ x1 then (some (0, S)) else (some (1, S)))))
set_option maxHeartbeats 4000000 in
set_option maxRecDepth 100000 in
theorem f_X11_isSign_e (l : Launch) (g : im_G) (ad : Nat → Nat) (x1 : Int32) (S : im_S) (r : Int32) (S' : im_S) (hm : f_X11_isSign x1 S = some (r, S')) : im_E l g ad 0 yX11_isSign cX11_isSign 2 (some Jvm.ClassFile.FieldType.boolean) [.ref (ad 75), .int x1] S (some (.int r)) S' := by
  unfold f_X11_isSign at hm
  refine is_met (own := RX11) (by decide +kernel) rfl (Nat.le_of_ble_eq_true rfl) (fun p e s m below meth c X => ?_)
  refine iv_aload_n (pc := 0) X dX11_isSign_0 rfl ?_
  refine gF_X11_13_75 (pc := 1) X dX11_isSign_1 ?_
  refine iv_aload_n (pc := 4) X dX11_isSign_4 rfl ?_
  refine gF_X11_231_75 (pc := 5) X dX11_isSign_5 (x := S.1 75 10) rfl ?_
  obtain ⟨hg, hm⟩ := gd_some hm
  refine aL_77 (pc := 8) X dX11_isSign_8 hg (x := (S.1 77) ((S.1 75 10).toNatClampNeg)) rfl ?_
  refine iv_iconst (pc := 9) X dX11_isSign_9 ic_3 ?_
  refine iv_icmp_ne (pc := 10) X dX11_isSign_10 (tgt := 30) rfl (fun hb1 => ?_) (fun hb1 => ?_)
  · rw [if_pos hb1] at hm
    refine iv_iconst (pc := 30) X dX11_isSign_30 ic_0 ?_
    cases hm
    exact is_zret (pc := 31) X dX11_isSign_31 rfl
  · rw [if_neg hb1] at hm
    refine iv_aload_n (pc := 13) X dX11_isSign_13 rfl ?_
    refine gF_X11_16_75 (pc := 14) X dX11_isSign_14 ?_
    refine iv_aload_n (pc := 17) X dX11_isSign_17 rfl ?_
    refine gF_X11_231_75 (pc := 18) X dX11_isSign_18 (x := S.1 75 10) rfl ?_
    obtain ⟨hg, hm⟩ := gd_some hm
    refine aL_78 (pc := 21) X dX11_isSign_21 hg (x := (S.1 78) ((S.1 75 10).toNatClampNeg)) rfl ?_
    refine iv_iload_n (pc := 22) X dX11_isSign_22 rfl ?_
    refine iv_icmp_ne (pc := 23) X dX11_isSign_23 (tgt := 30) rfl (fun hb2 => ?_) (fun hb2 => ?_)
    · rw [if_pos hb2] at hm
      refine iv_iconst (pc := 30) X dX11_isSign_30 ic_0 ?_
      cases hm
      exact is_zret (pc := 31) X dX11_isSign_31 rfl
    · rw [if_neg hb2] at hm
      refine iv_iconst (pc := 26) X dX11_isSign_26 ic_1 ?_
      refine iv_goto (pc := 27) X dX11_isSign_27 (tgt := 31) rfl ?_
      cases hm
      exact is_zret (pc := 31) X dX11_isSign_31 rfl
def f_X11_isWord (x1 : Int32) (S : im_S) : Option (Int32 × im_S) := gd (in_b (S.1 75 10) 502) (if ((S.1 77) ((S.1 75 10).toNatClampNeg) : Int32) ≠ 4 then (some (0, S)) else (gd (in_b (S.1 75 10) 502) (if ((S.1 78) ((S.1 75 10).toNatClampNeg) : Int32) ≠ x1 then (some (0, S)) else (some (1, S)))))
set_option maxHeartbeats 4000000 in
set_option maxRecDepth 100000 in
theorem f_X11_isWord_e (l : Launch) (g : im_G) (ad : Nat → Nat) (x1 : Int32) (S : im_S) (r : Int32) (S' : im_S) (hm : f_X11_isWord x1 S = some (r, S')) : im_E l g ad 0 yX11_isWord cX11_isWord 2 (some Jvm.ClassFile.FieldType.boolean) [.ref (ad 75), .int x1] S (some (.int r)) S' := by
  unfold f_X11_isWord at hm
  refine is_met (own := RX11) (by decide +kernel) rfl (Nat.le_of_ble_eq_true rfl) (fun p e s m below meth c X => ?_)
  refine iv_aload_n (pc := 0) X dX11_isWord_0 rfl ?_
  refine gF_X11_13_75 (pc := 1) X dX11_isWord_1 ?_
  refine iv_aload_n (pc := 4) X dX11_isWord_4 rfl ?_
  refine gF_X11_231_75 (pc := 5) X dX11_isWord_5 (x := S.1 75 10) rfl ?_
  obtain ⟨hg, hm⟩ := gd_some hm
  refine aL_77 (pc := 8) X dX11_isWord_8 hg (x := (S.1 77) ((S.1 75 10).toNatClampNeg)) rfl ?_
  refine iv_iconst (pc := 9) X dX11_isWord_9 ic_4 ?_
  refine iv_icmp_ne (pc := 10) X dX11_isWord_10 (tgt := 30) rfl (fun hb1 => ?_) (fun hb1 => ?_)
  · rw [if_pos hb1] at hm
    refine iv_iconst (pc := 30) X dX11_isWord_30 ic_0 ?_
    cases hm
    exact is_zret (pc := 31) X dX11_isWord_31 rfl
  · rw [if_neg hb1] at hm
    refine iv_aload_n (pc := 13) X dX11_isWord_13 rfl ?_
    refine gF_X11_16_75 (pc := 14) X dX11_isWord_14 ?_
    refine iv_aload_n (pc := 17) X dX11_isWord_17 rfl ?_
    refine gF_X11_231_75 (pc := 18) X dX11_isWord_18 (x := S.1 75 10) rfl ?_
    obtain ⟨hg, hm⟩ := gd_some hm
    refine aL_78 (pc := 21) X dX11_isWord_21 hg (x := (S.1 78) ((S.1 75 10).toNatClampNeg)) rfl ?_
    refine iv_iload_n (pc := 22) X dX11_isWord_22 rfl ?_
    refine iv_icmp_ne (pc := 23) X dX11_isWord_23 (tgt := 30) rfl (fun hb2 => ?_) (fun hb2 => ?_)
    · rw [if_pos hb2] at hm
      refine iv_iconst (pc := 30) X dX11_isWord_30 ic_0 ?_
      cases hm
      exact is_zret (pc := 31) X dX11_isWord_31 rfl
    · rw [if_neg hb2] at hm
      refine iv_iconst (pc := 26) X dX11_isWord_26 ic_1 ?_
      refine iv_goto (pc := 27) X dX11_isWord_27 (tgt := 31) rfl ?_
      cases hm
      exact is_zret (pc := 31) X dX11_isWord_31 rfl
def f_X11_takes (x1 : Int32) (S : im_S) : Option (Int32 × im_S) := if (x1 : Int32) = 0 then (gd (z_b x1) (some (x1, S))) else (gd (z_b x1) (some (x1, (uI S 75 10 ((S.1 75 10) + 1)))))
set_option maxHeartbeats 4000000 in
set_option maxRecDepth 100000 in
theorem f_X11_takes_e (l : Launch) (g : im_G) (ad : Nat → Nat) (x1 : Int32) (S : im_S) (r : Int32) (S' : im_S) (hm : f_X11_takes x1 S = some (r, S')) : im_E l g ad 0 yX11_takes cX11_takes 2 (some Jvm.ClassFile.FieldType.boolean) [.ref (ad 75), .int x1] S (some (.int r)) S' := by
  unfold f_X11_takes at hm
  refine is_met (own := RX11) (by decide +kernel) rfl (Nat.le_of_ble_eq_true rfl) (fun p e s m below meth c X => ?_)
  refine iv_iload_n (pc := 0) X dX11_takes_0 rfl ?_
  refine iv_if_eq (pc := 1) X dX11_takes_1 (tgt := 14) rfl (fun hb1 => ?_) (fun hb1 => ?_)
  · rw [if_pos hb1] at hm
    refine iv_iload_n (pc := 14) X dX11_takes_14 rfl ?_
    obtain ⟨hg, hm⟩ := gd_some hm
    cases hm
    exact is_zret (pc := 15) X dX11_takes_15 (z_b_n hg)
  · rw [if_neg hb1] at hm
    refine iv_aload_n (pc := 4) X dX11_takes_4 rfl ?_
    refine iv_dup (pc := 5) X dX11_takes_5 rfl ?_
    refine gF_X11_231_75 (pc := 6) X dX11_takes_6 (x := S.1 75 10) rfl ?_
    refine iv_iconst (pc := 9) X dX11_takes_9 ic_1 ?_
    refine iv_iadd (pc := 10) X dX11_takes_10 ?_
    refine pF_X11_231_75 (pc := 11) X dX11_takes_11 ?_
    refine iv_iload_n (pc := 14) X dX11_takes_14 rfl ?_
    obtain ⟨hg, hm⟩ := gd_some hm
    cases hm
    exact is_zret (pc := 15) X dX11_takes_15 (z_b_n hg)
def f_X11_want (x1 : Int32) (S : im_S) : Option (Int32 × im_S) := (f_X11_takes x1 S).bind (fun qS1 => if (qS1.1 : Int32) ≠ 0 then (some (1, qS1.2)) else ((f_X11_refuse qS1.2).bind (fun qS5 => if (qS5.1 : Int32) = 0 then (some (0, qS5.2)) else (some (1, qS5.2)))))
set_option maxHeartbeats 4000000 in
set_option maxRecDepth 100000 in
theorem f_X11_want_e (l : Launch) (g : im_G) (ad : Nat → Nat) (x1 : Int32) (S : im_S) (r : Int32) (S' : im_S) (hm : f_X11_want x1 S = some (r, S')) : im_E l g ad 1 yX11_want cX11_want 2 (some Jvm.ClassFile.FieldType.boolean) [.ref (ad 75), .int x1] S (some (.int r)) S' := by
  unfold f_X11_want at hm
  refine is_met (own := RX11) (by decide +kernel) rfl (Nat.le_of_ble_eq_true rfl) (fun p e s m below meth c X => ?_)
  refine iv_aload_n (pc := 0) X dX11_want_0 rfl ?_
  refine iv_iload_n (pc := 1) X dX11_want_1 rfl ?_
  obtain ⟨⟨r2, S1⟩, hc3, hm⟩ := bd_some hm
  refine cV_X11_237_75 (pc := 2) X [.int x1] [] 1 rfl (f_X11_takes_e l g ad x1 S _ _ hc3) (by decide) (by decide) (Nat.le_of_ble_eq_true rfl) rfl dX11_want_2 ?_
  refine iv_if_ne (pc := 5) X dX11_want_5 (tgt := 15) rfl (fun hb4 => ?_) (fun hb4 => ?_)
  · rw [if_pos hb4] at hm
    refine iv_iconst (pc := 15) X dX11_want_15 ic_1 ?_
    refine iv_goto (pc := 16) X dX11_want_16 (tgt := 20) rfl ?_
    cases hm
    exact is_zret (pc := 20) X dX11_want_20 rfl
  · rw [if_neg hb4] at hm
    refine iv_aload_n (pc := 8) X dX11_want_8 rfl ?_
    obtain ⟨⟨r6, S5⟩, hc7, hm⟩ := bd_some hm
    refine cV_X11_241_75 (pc := 9) X [] [] 0 rfl (f_X11_refuse_e l g ad  S1 _ _ hc7) (by decide) (by decide) (Nat.le_of_ble_eq_true rfl) rfl dX11_want_9 ?_
    refine iv_if_eq (pc := 12) X dX11_want_12 (tgt := 19) rfl (fun hb8 => ?_) (fun hb8 => ?_)
    · rw [if_pos hb8] at hm
      refine iv_iconst (pc := 19) X dX11_want_19 ic_0 ?_
      cases hm
      exact is_zret (pc := 20) X dX11_want_20 rfl
    · rw [if_neg hb8] at hm
      refine iv_iconst (pc := 15) X dX11_want_15 ic_1 ?_
      refine iv_goto (pc := 16) X dX11_want_16 (tgt := 20) rfl ?_
      cases hm
      exact is_zret (pc := 20) X dX11_want_20 rfl
def f_X11_wantName (S : im_S) : Option (Int32 × im_S) := gd (in_b (S.1 75 10) 502) (if ((S.1 77) ((S.1 75 10).toNatClampNeg) : Int32) ≠ 1 then ((f_X11_want 0 S).bind (fun qS2 => gd (z_b qS2.1) (some (qS2.1, qS2.2)))) else ((f_X11_want 1 S).bind (fun qS5 => gd (z_b qS5.1) (some (qS5.1, qS5.2)))))
set_option maxHeartbeats 4000000 in
set_option maxRecDepth 100000 in
theorem f_X11_wantName_e (l : Launch) (g : im_G) (ad : Nat → Nat) (S : im_S) (r : Int32) (S' : im_S) (hm : f_X11_wantName  S = some (r, S')) : im_E l g ad 2 yX11_wantName cX11_wantName 1 (some Jvm.ClassFile.FieldType.boolean) [.ref (ad 75)] S (some (.int r)) S' := by
  unfold f_X11_wantName at hm
  refine is_met (own := RX11) (by decide +kernel) rfl (Nat.le_of_ble_eq_true rfl) (fun p e s m below meth c X => ?_)
  refine iv_aload_n (pc := 0) X dX11_wantName_0 rfl ?_
  refine iv_aload_n (pc := 1) X dX11_wantName_1 rfl ?_
  refine gF_X11_13_75 (pc := 2) X dX11_wantName_2 ?_
  refine iv_aload_n (pc := 5) X dX11_wantName_5 rfl ?_
  refine gF_X11_231_75 (pc := 6) X dX11_wantName_6 (x := S.1 75 10) rfl ?_
  obtain ⟨hg, hm⟩ := gd_some hm
  refine aL_77 (pc := 9) X dX11_wantName_9 hg (x := (S.1 77) ((S.1 75 10).toNatClampNeg)) rfl ?_
  refine iv_iconst (pc := 10) X dX11_wantName_10 ic_1 ?_
  refine iv_icmp_ne (pc := 11) X dX11_wantName_11 (tgt := 18) rfl (fun hb1 => ?_) (fun hb1 => ?_)
  · rw [if_pos hb1] at hm
    refine iv_iconst (pc := 18) X dX11_wantName_18 ic_0 ?_
    obtain ⟨⟨r3, S2⟩, hc4, hm⟩ := bd_some hm
    refine cV_X11_245_75 (pc := 19) X [.int 0] [] 1 rfl (f_X11_want_e l g ad 0 S _ _ hc4) (by decide) (by decide) (Nat.le_of_ble_eq_true rfl) rfl dX11_wantName_19 ?_
    obtain ⟨hg, hm⟩ := gd_some hm
    cases hm
    exact is_zret (pc := 22) X dX11_wantName_22 (z_b_n hg)
  · rw [if_neg hb1] at hm
    refine iv_iconst (pc := 14) X dX11_wantName_14 ic_1 ?_
    refine iv_goto (pc := 15) X dX11_wantName_15 (tgt := 19) rfl ?_
    obtain ⟨⟨r6, S5⟩, hc7, hm⟩ := bd_some hm
    refine cV_X11_245_75 (pc := 19) X [.int 1] [] 1 rfl (f_X11_want_e l g ad 1 S _ _ hc7) (by decide) (by decide) (Nat.le_of_ble_eq_true rfl) rfl dX11_wantName_19 ?_
    obtain ⟨hg, hm⟩ := gd_some hm
    cases hm
    exact is_zret (pc := 22) X dX11_wantName_22 (z_b_n hg)
def f_X11_make (x1 : Int32) (x2 : Int32) (S : im_S) : Option (Int32 × im_S) := gd (in_b (S.1 75 26) 1200) (gd (in_b x2 502) (gd (in_b (S.1 75 26) 1200) (gd (in_b x2 502) (gd (in_b (S.1 75 26) 1200) (gd (in_b (S.1 75 26) 1200) (gd (in_b (S.1 75 26) 1200) (gd (in_b (S.1 75 26) 1200) (gd (in_b (S.1 75 26) 1200) (gd (in_b (S.1 75 26) 1200) (gd (in_b (S.1 75 26) 1200) (gd (in_b (S.1 75 26) 1200) (gd (in_b (S.1 75 26) 1200) (some (S.1 75 26, (uI (uI (uI (uI (uI (uI (uI (uI (uJ (uI (uI (uI S 75 26 ((S.1 75 26) + 1)) 81 ((S.1 75 26).toNatClampNeg) x1) 82 ((S.1 75 26).toNatClampNeg) ((S.1 79) x2.toNatClampNeg)) 87 ((S.1 75 26).toNatClampNeg) ((S.2.1 80) x2.toNatClampNeg)) 83 ((S.1 75 26).toNatClampNeg) (-1)) 84 ((S.1 75 26).toNatClampNeg) (-1)) 85 ((S.1 75 26).toNatClampNeg) (-1)) 86 ((S.1 75 26).toNatClampNeg) 0) 89 ((S.1 75 26).toNatClampNeg) (S.1 75 27)) 90 ((S.1 75 26).toNatClampNeg) 0) 91 ((S.1 75 26).toNatClampNeg) (S.1 75 27)) 92 ((S.1 75 26).toNatClampNeg) 0)))))))))))))))
set_option maxHeartbeats 4000000 in
set_option maxRecDepth 100000 in
theorem f_X11_make_e (l : Launch) (g : im_G) (ad : Nat → Nat) (x1 : Int32) (x2 : Int32) (S : im_S) (r : Int32) (S' : im_S) (hm : f_X11_make x1 x2 S = some (r, S')) : im_E l g ad 0 yX11_make cX11_make 4 (some Jvm.ClassFile.FieldType.int) [.ref (ad 75), .int x1, .int x2] S (some (.int r)) S' := by
  unfold f_X11_make at hm
  refine is_met (own := RX11) (by decide +kernel) rfl (Nat.le_of_ble_eq_true rfl) (fun p e s m below meth c X => ?_)
  refine iv_aload_n (pc := 0) X dX11_make_0 rfl ?_
  refine gF_X11_248_75 (pc := 1) X dX11_make_1 (x := S.1 75 26) rfl ?_
  refine iv_istore_n (pc := 4) X dX11_make_4 (by decide) (lv' := [(3, .int (S.1 75 26)), (0, .ref (ad 75)), (1, .int x1), (2, .int x2)]) rfl ?_
  refine iv_aload_n (pc := 5) X dX11_make_5 rfl ?_
  refine iv_dup (pc := 6) X dX11_make_6 rfl ?_
  refine gF_X11_248_75 (pc := 7) X dX11_make_7 (x := S.1 75 26) rfl ?_
  refine iv_iconst (pc := 10) X dX11_make_10 ic_1 ?_
  refine iv_iadd (pc := 11) X dX11_make_11 ?_
  refine pF_X11_248_75 (pc := 12) X dX11_make_12 ?_
  refine iv_aload_n (pc := 15) X dX11_make_15 rfl ?_
  refine gF_X11_26_75 (pc := 16) X dX11_make_16 ?_
  refine iv_iload_n (pc := 19) X dX11_make_19 rfl ?_
  refine iv_iload_n (pc := 20) X dX11_make_20 rfl ?_
  obtain ⟨hg, hm⟩ := gd_some hm
  refine aS_81 (pc := 21) X dX11_make_21 hg ?_
  refine iv_aload_n (pc := 22) X dX11_make_22 rfl ?_
  refine gF_X11_29_75 (pc := 23) X dX11_make_23 ?_
  refine iv_iload_n (pc := 26) X dX11_make_26 rfl ?_
  refine iv_aload_n (pc := 27) X dX11_make_27 rfl ?_
  refine gF_X11_19_75 (pc := 28) X dX11_make_28 ?_
  refine iv_iload_n (pc := 31) X dX11_make_31 rfl ?_
  obtain ⟨hg, hm⟩ := gd_some hm
  refine aL_79 (pc := 32) X dX11_make_32 hg (x := (S.1 79) x2.toNatClampNeg) rfl ?_
  obtain ⟨hg, hm⟩ := gd_some hm
  refine aS_82 (pc := 33) X dX11_make_33 hg ?_
  refine iv_aload_n (pc := 34) X dX11_make_34 rfl ?_
  refine gF_X11_44_75 (pc := 35) X dX11_make_35 ?_
  refine iv_iload_n (pc := 38) X dX11_make_38 rfl ?_
  refine iv_aload_n (pc := 39) X dX11_make_39 rfl ?_
  refine gF_X11_22_75 (pc := 40) X dX11_make_40 ?_
  refine iv_iload_n (pc := 43) X dX11_make_43 rfl ?_
  obtain ⟨hg, hm⟩ := gd_some hm
  refine aL_80 (pc := 44) X dX11_make_44 hg (x := (S.2.1 80) x2.toNatClampNeg) rfl ?_
  obtain ⟨hg, hm⟩ := gd_some hm
  refine aS_87 (pc := 45) X dX11_make_45 hg ?_
  refine iv_aload_n (pc := 46) X dX11_make_46 rfl ?_
  refine gF_X11_32_75 (pc := 47) X dX11_make_47 ?_
  refine iv_iload_n (pc := 50) X dX11_make_50 rfl ?_
  refine iv_iconst (pc := 51) X dX11_make_51 ic_m1 ?_
  obtain ⟨hg, hm⟩ := gd_some hm
  refine aS_83 (pc := 52) X dX11_make_52 hg ?_
  refine iv_aload_n (pc := 53) X dX11_make_53 rfl ?_
  refine gF_X11_35_75 (pc := 54) X dX11_make_54 ?_
  refine iv_iload_n (pc := 57) X dX11_make_57 rfl ?_
  refine iv_iconst (pc := 58) X dX11_make_58 ic_m1 ?_
  obtain ⟨hg, hm⟩ := gd_some hm
  refine aS_84 (pc := 59) X dX11_make_59 hg ?_
  refine iv_aload_n (pc := 60) X dX11_make_60 rfl ?_
  refine gF_X11_38_75 (pc := 61) X dX11_make_61 ?_
  refine iv_iload_n (pc := 64) X dX11_make_64 rfl ?_
  refine iv_iconst (pc := 65) X dX11_make_65 ic_m1 ?_
  obtain ⟨hg, hm⟩ := gd_some hm
  refine aS_85 (pc := 66) X dX11_make_66 hg ?_
  refine iv_aload_n (pc := 67) X dX11_make_67 rfl ?_
  refine gF_X11_41_75 (pc := 68) X dX11_make_68 ?_
  refine iv_iload_n (pc := 71) X dX11_make_71 rfl ?_
  refine iv_iconst (pc := 72) X dX11_make_72 ic_0 ?_
  obtain ⟨hg, hm⟩ := gd_some hm
  refine aS_86 (pc := 73) X dX11_make_73 hg ?_
  refine iv_aload_n (pc := 74) X dX11_make_74 rfl ?_
  refine gF_X11_50_75 (pc := 75) X dX11_make_75 ?_
  refine iv_iload_n (pc := 78) X dX11_make_78 rfl ?_
  refine iv_aload_n (pc := 79) X dX11_make_79 rfl ?_
  refine gF_X11_251_75 (pc := 80) X dX11_make_80 (x := S.1 75 27) rfl ?_
  obtain ⟨hg, hm⟩ := gd_some hm
  refine aS_89 (pc := 83) X dX11_make_83 hg ?_
  refine iv_aload_n (pc := 84) X dX11_make_84 rfl ?_
  refine gF_X11_53_75 (pc := 85) X dX11_make_85 ?_
  refine iv_iload_n (pc := 88) X dX11_make_88 rfl ?_
  refine iv_iconst (pc := 89) X dX11_make_89 ic_0 ?_
  obtain ⟨hg, hm⟩ := gd_some hm
  refine aS_90 (pc := 90) X dX11_make_90 hg ?_
  refine iv_aload_n (pc := 91) X dX11_make_91 rfl ?_
  refine gF_X11_56_75 (pc := 92) X dX11_make_92 ?_
  refine iv_iload_n (pc := 95) X dX11_make_95 rfl ?_
  refine iv_aload_n (pc := 96) X dX11_make_96 rfl ?_
  refine gF_X11_251_75 (pc := 97) X dX11_make_97 (x := S.1 75 27) rfl ?_
  obtain ⟨hg, hm⟩ := gd_some hm
  refine aS_91 (pc := 100) X dX11_make_100 hg ?_
  refine iv_aload_n (pc := 101) X dX11_make_101 rfl ?_
  refine gF_X11_59_75 (pc := 102) X dX11_make_102 ?_
  refine iv_iload_n (pc := 105) X dX11_make_105 rfl ?_
  refine iv_iconst (pc := 106) X dX11_make_106 ic_0 ?_
  obtain ⟨hg, hm⟩ := gd_some hm
  refine aS_92 (pc := 107) X dX11_make_107 hg ?_
  refine iv_iload_n (pc := 108) X dX11_make_108 rfl ?_
  cases hm
  exact is_iret (pc := 109) X dX11_make_109
def f_X11_addRow (x1 : Int32) (x2 : Int32) (S : im_S) : Option (Unit × im_S) := gd (in_b x1 502) (gd (in_b (S.1 75 27) 1200) (gd (in_b x1 502) (gd (in_b (S.1 75 27) 1200) (gd (in_b (S.1 75 27) 1200) (some ((), (uI (uI (uI (uJ S 93 ((S.1 75 27).toNatClampNeg) ((S.2.1 80) x1.toNatClampNeg)) 94 ((S.1 75 27).toNatClampNeg) ((S.1 79) x1.toNatClampNeg)) 95 ((S.1 75 27).toNatClampNeg) x2) 75 27 ((S.1 75 27) + 1))))))))
set_option maxHeartbeats 4000000 in
set_option maxRecDepth 100000 in
theorem f_X11_addRow_e (l : Launch) (g : im_G) (ad : Nat → Nat) (x1 : Int32) (x2 : Int32) (S : im_S) (r : Unit) (S' : im_S) (hm : f_X11_addRow x1 x2 S = some (r, S')) : im_E l g ad 0 yX11_addRow cX11_addRow 3 none [.ref (ad 75), .int x1, .int x2] S none S' := by
  unfold f_X11_addRow at hm
  refine is_met (own := RX11) (by decide +kernel) rfl (Nat.le_of_ble_eq_true rfl) (fun p e s m below meth c X => ?_)
  refine iv_aload_n (pc := 0) X dX11_addRow_0 rfl ?_
  refine gF_X11_62_75 (pc := 1) X dX11_addRow_1 ?_
  refine iv_aload_n (pc := 4) X dX11_addRow_4 rfl ?_
  refine gF_X11_251_75 (pc := 5) X dX11_addRow_5 (x := S.1 75 27) rfl ?_
  refine iv_aload_n (pc := 8) X dX11_addRow_8 rfl ?_
  refine gF_X11_22_75 (pc := 9) X dX11_addRow_9 ?_
  refine iv_iload_n (pc := 12) X dX11_addRow_12 rfl ?_
  obtain ⟨hg, hm⟩ := gd_some hm
  refine aL_80 (pc := 13) X dX11_addRow_13 hg (x := (S.2.1 80) x1.toNatClampNeg) rfl ?_
  obtain ⟨hg, hm⟩ := gd_some hm
  refine aS_93 (pc := 14) X dX11_addRow_14 hg ?_
  refine iv_aload_n (pc := 15) X dX11_addRow_15 rfl ?_
  refine gF_X11_65_75 (pc := 16) X dX11_addRow_16 ?_
  refine iv_aload_n (pc := 19) X dX11_addRow_19 rfl ?_
  refine gF_X11_251_75 (pc := 20) X dX11_addRow_20 (x := S.1 75 27) rfl ?_
  refine iv_aload_n (pc := 23) X dX11_addRow_23 rfl ?_
  refine gF_X11_19_75 (pc := 24) X dX11_addRow_24 ?_
  refine iv_iload_n (pc := 27) X dX11_addRow_27 rfl ?_
  obtain ⟨hg, hm⟩ := gd_some hm
  refine aL_79 (pc := 28) X dX11_addRow_28 hg (x := (S.1 79) x1.toNatClampNeg) rfl ?_
  obtain ⟨hg, hm⟩ := gd_some hm
  refine aS_94 (pc := 29) X dX11_addRow_29 hg ?_
  refine iv_aload_n (pc := 30) X dX11_addRow_30 rfl ?_
  refine gF_X11_68_75 (pc := 31) X dX11_addRow_31 ?_
  refine iv_aload_n (pc := 34) X dX11_addRow_34 rfl ?_
  refine gF_X11_251_75 (pc := 35) X dX11_addRow_35 (x := S.1 75 27) rfl ?_
  refine iv_iload_n (pc := 38) X dX11_addRow_38 rfl ?_
  obtain ⟨hg, hm⟩ := gd_some hm
  refine aS_95 (pc := 39) X dX11_addRow_39 hg ?_
  refine iv_aload_n (pc := 40) X dX11_addRow_40 rfl ?_
  refine iv_dup (pc := 41) X dX11_addRow_41 rfl ?_
  refine gF_X11_251_75 (pc := 42) X dX11_addRow_42 (x := S.1 75 27) rfl ?_
  refine iv_iconst (pc := 45) X dX11_addRow_45 ic_1 ?_
  refine iv_iadd (pc := 46) X dX11_addRow_46 ?_
  refine pF_X11_251_75 (pc := 47) X dX11_addRow_47 ?_
  cases hm
  exact is_vret (pc := 50) X dX11_addRow_50
def f_X11_layRow_L12 (fu : Nat) : Nat → Int32 → Int32 → Int32 → im_S → Option (Int32 × im_S)
  | 0, _, _, _, _ => none
  | nf + 1, z1, z2, z3, S => if (S.1 75 78 : Int32) ≤ z3 then (some (z2, (uI S 75 78 ((S.1 75 78) - z1)))) else (gd (in_b z3 502) (gd (in_b z3 502) ((f_X11_addRow ((S.1 132) z3.toNatClampNeg) ((S.1 133) z3.toNatClampNeg) S).bind (fun qS2 => f_X11_layRow_L12 fu nf z1 z2 (z3 + 1) qS2.2))))
set_option maxHeartbeats 4000000 in
set_option maxRecDepth 100000 in
theorem f_X11_layRow_L12_w {fu : Nat} (l : Launch) (g : im_G) (ad : Nat → Nat) {p : Program} {e : Env} {s : State} {m : MethodId} {below : List Frame} {meth : Method} {c : Code} {args : Array Value} (X : im_X p l s m args meth c g cX11_layRow 4 RX11 (some Jvm.ClassFile.FieldType.int)) : ∀ (nf : Nat) (z1 : Int32) (z2 : Int32) (z3 : Int32) (S : im_S) (r : Int32) (S' : im_S), f_X11_layRow_L12 fu nf z1 z2 z3 S = some (r, S') → im_V p l e (im_R 1 0 0) s m args below meth c g 4 (im_Z below g ad args s (some (.int r)) S') ad im_N (im_cn g ad S) 0 0 12 [(0, .ref (ad 75)), (1, .int z1), (2, .int z2), (3, .int z3)] [] := by
  intro nf
  induction nf with
  | zero =>
    intro z1 z2 z3 S r S' hm
    cases hm
  | succ nf ih =>
    intro z1 z2 z3 S r S' hm
    unfold f_X11_layRow_L12 at hm
    refine iv_iload_n (pc := 12) X dX11_layRow_12 rfl ?_
    refine iv_aload_n (pc := 13) X dX11_layRow_13 rfl ?_
    refine gF_X11_286_75 (pc := 14) X dX11_layRow_14 (x := S.1 75 78) rfl ?_
    refine iv_icmp_ge (pc := 17) X dX11_layRow_17 (tgt := 42) rfl (fun hb1 => ?_) (fun hb1 => ?_)
    · rw [if_pos hb1] at hm
      refine iv_aload_n (pc := 42) X dX11_layRow_42 rfl ?_
      refine iv_dup (pc := 43) X dX11_layRow_43 rfl ?_
      refine gF_X11_286_75 (pc := 44) X dX11_layRow_44 (x := S.1 75 78) rfl ?_
      refine iv_iload_n (pc := 47) X dX11_layRow_47 rfl ?_
      refine iv_isub (pc := 48) X dX11_layRow_48 ?_
      refine pF_X11_286_75 (pc := 49) X dX11_layRow_49 ?_
      refine iv_iload_n (pc := 52) X dX11_layRow_52 rfl ?_
      cases hm
      exact is_iret (pc := 53) X dX11_layRow_53
    · rw [if_neg hb1] at hm
      refine iv_aload_n (pc := 20) X dX11_layRow_20 rfl ?_
      refine iv_aload_n (pc := 21) X dX11_layRow_21 rfl ?_
      refine gF_X11_180_75 (pc := 22) X dX11_layRow_22 ?_
      refine iv_iload_n (pc := 25) X dX11_layRow_25 rfl ?_
      obtain ⟨hg, hm⟩ := gd_some hm
      refine aL_132 (pc := 26) X dX11_layRow_26 hg (x := (S.1 132) z3.toNatClampNeg) rfl ?_
      refine iv_aload_n (pc := 27) X dX11_layRow_27 rfl ?_
      refine gF_X11_183_75 (pc := 28) X dX11_layRow_28 ?_
      refine iv_iload_n (pc := 31) X dX11_layRow_31 rfl ?_
      obtain ⟨hg, hm⟩ := gd_some hm
      refine aL_133 (pc := 32) X dX11_layRow_32 hg (x := (S.1 133) z3.toNatClampNeg) rfl ?_
      obtain ⟨⟨r3, S2⟩, hc4, hm⟩ := bd_some hm
      refine cV_X11_289_75 (pc := 33) X [.int ((S.1 132) z3.toNatClampNeg), .int ((S.1 133) z3.toNatClampNeg)] [] 2 rfl (f_X11_addRow_e l g ad ((S.1 132) z3.toNatClampNeg) ((S.1 133) z3.toNatClampNeg) S _ _ hc4) (by decide) (by decide) (Nat.le_of_ble_eq_true rfl) rfl dX11_layRow_33 ?_
      refine iv_iinc (pc := 36) X dX11_layRow_36 rfl (by decide) (v := z3 + 1) rfl (lv' := [(3, .int (z3 + 1)), (0, .ref (ad 75)), (1, .int z1), (2, .int z2)]) rfl ?_
      refine iv_goto (pc := 39) X dX11_layRow_39 (tgt := 12) rfl ?_
      refine iv_sub [1, 2, 3, 0] (lv2 := [(0, .ref (ad 75)), (1, .int z1), (2, .int z2), (3, .int (z3 + 1))]) rfl ?_
      exact ih z1 z2 (z3 + 1) S2 _ _ hm
def f_X11_layRow (fu : Nat) (x1 : Int32) (S : im_S) : Option (Int32 × im_S) := f_X11_layRow_L12 fu fu x1 (S.1 75 27) ((S.1 75 78) - x1) S
set_option maxHeartbeats 4000000 in
set_option maxRecDepth 100000 in
theorem f_X11_layRow_e (l : Launch) (g : im_G) (ad : Nat → Nat) (fu : Nat) (x1 : Int32) (S : im_S) (r : Int32) (S' : im_S) (hm : f_X11_layRow fu x1 S = some (r, S')) : im_E l g ad 1 yX11_layRow cX11_layRow 4 (some Jvm.ClassFile.FieldType.int) [.ref (ad 75), .int x1] S (some (.int r)) S' := by
  unfold f_X11_layRow at hm
  refine is_met (own := RX11) (by decide +kernel) rfl (Nat.le_of_ble_eq_true rfl) (fun p e s m below meth c X => ?_)
  refine iv_aload_n (pc := 0) X dX11_layRow_0 rfl ?_
  refine gF_X11_251_75 (pc := 1) X dX11_layRow_1 (x := S.1 75 27) rfl ?_
  refine iv_istore_n (pc := 4) X dX11_layRow_4 (by decide) (lv' := [(2, .int (S.1 75 27)), (0, .ref (ad 75)), (1, .int x1)]) rfl ?_
  refine iv_aload_n (pc := 5) X dX11_layRow_5 rfl ?_
  refine gF_X11_286_75 (pc := 6) X dX11_layRow_6 (x := S.1 75 78) rfl ?_
  refine iv_iload_n (pc := 9) X dX11_layRow_9 rfl ?_
  refine iv_isub (pc := 10) X dX11_layRow_10 ?_
  refine iv_istore_n (pc := 11) X dX11_layRow_11 (by decide) (lv' := [(3, .int ((S.1 75 78) - x1)), (2, .int (S.1 75 27)), (0, .ref (ad 75)), (1, .int x1)]) rfl ?_
  refine iv_sub [2, 3, 1, 0] (lv2 := [(0, .ref (ad 75)), (1, .int x1), (2, .int (S.1 75 27)), (3, .int ((S.1 75 78) - x1))]) rfl ?_
  exact f_X11_layRow_L12_w (fu := fu) l g ad X fu x1 (S.1 75 27) ((S.1 75 78) - x1) S _ _ hm
def f_X11_firm (S : im_S) : Option (Int32 × im_S) := gd (in_b (S.1 75 10) 502) (if ((S.1 77) ((S.1 75 10).toNatClampNeg) : Int32) = 3 then (gd (in_b (S.1 75 10) 502) (if ((S.1 78) ((S.1 75 10).toNatClampNeg)) = (37 : Int32) then (some (5, S)) else (if ((S.1 78) ((S.1 75 10).toNatClampNeg)) = (38 : Int32) then (some (2, S)) else (if ((S.1 78) ((S.1 75 10).toNatClampNeg)) = (42 : Int32) then (some (5, S)) else (if ((S.1 78) ((S.1 75 10).toNatClampNeg)) = (43 : Int32) then (some (4, S)) else (if ((S.1 78) ((S.1 75 10).toNatClampNeg)) = (45 : Int32) then (some (4, S)) else (if ((S.1 78) ((S.1 75 10).toNatClampNeg)) = (47 : Int32) then (some (5, S)) else (if ((S.1 78) ((S.1 75 10).toNatClampNeg)) = (60 : Int32) then (some (3, S)) else (if ((S.1 78) ((S.1 75 10).toNatClampNeg)) = (61 : Int32) then (some (3, S)) else (if ((S.1 78) ((S.1 75 10).toNatClampNeg)) = (124 : Int32) then (some (1, S)) else (some (0, S)))))))))))) else (some (0, S)))
set_option maxHeartbeats 4000000 in
set_option maxRecDepth 100000 in
theorem f_X11_firm_e (l : Launch) (g : im_G) (ad : Nat → Nat) (S : im_S) (r : Int32) (S' : im_S) (hm : f_X11_firm  S = some (r, S')) : im_E l g ad 0 yX11_firm cX11_firm 1 (some Jvm.ClassFile.FieldType.int) [.ref (ad 75)] S (some (.int r)) S' := by
  unfold f_X11_firm at hm
  refine is_met (own := RX11) (by decide +kernel) rfl (Nat.le_of_ble_eq_true rfl) (fun p e s m below meth c X => ?_)
  refine iv_aload_n (pc := 0) X dX11_firm_0 rfl ?_
  refine gF_X11_13_75 (pc := 1) X dX11_firm_1 ?_
  refine iv_aload_n (pc := 4) X dX11_firm_4 rfl ?_
  refine gF_X11_231_75 (pc := 5) X dX11_firm_5 (x := S.1 75 10) rfl ?_
  obtain ⟨hg, hm⟩ := gd_some hm
  refine aL_77 (pc := 8) X dX11_firm_8 hg (x := (S.1 77) ((S.1 75 10).toNatClampNeg)) rfl ?_
  refine iv_iconst (pc := 9) X dX11_firm_9 ic_3 ?_
  refine iv_icmp_eq (pc := 10) X dX11_firm_10 (tgt := 15) rfl (fun hb1 => ?_) (fun hb1 => ?_)
  · rw [if_pos hb1] at hm
    refine iv_aload_n (pc := 15) X dX11_firm_15 rfl ?_
    refine gF_X11_16_75 (pc := 16) X dX11_firm_16 ?_
    refine iv_aload_n (pc := 19) X dX11_firm_19 rfl ?_
    refine gF_X11_231_75 (pc := 20) X dX11_firm_20 (x := S.1 75 10) rfl ?_
    obtain ⟨hg, hm⟩ := gd_some hm
    refine aL_78 (pc := 23) X dX11_firm_23 hg (x := (S.1 78) ((S.1 75 10).toNatClampNeg)) rfl ?_
    by_cases hb2 : ((S.1 78) ((S.1 75 10).toNatClampNeg)) = (37 : Int32)
    · rw [if_pos hb2] at hm
      refine iv_lookup X dX11_firm_24 (off := 92) (tgt := 116) (by decide) (by rw [hb2]; decide) (by decide) ?_
      refine iv_iconst (pc := 116) X dX11_firm_116 ic_5 ?_
      cases hm
      exact is_iret (pc := 117) X dX11_firm_117
    · rw [if_neg hb2] at hm
      by_cases hb3 : ((S.1 78) ((S.1 75 10).toNatClampNeg)) = (38 : Int32)
      · rw [if_pos hb3] at hm
        refine iv_lookup X dX11_firm_24 (off := 86) (tgt := 110) (by decide) (by rw [hb3]; decide) (by decide) ?_
        refine iv_iconst (pc := 110) X dX11_firm_110 ic_2 ?_
        cases hm
        exact is_iret (pc := 111) X dX11_firm_111
      · rw [if_neg hb3] at hm
        by_cases hb4 : ((S.1 78) ((S.1 75 10).toNatClampNeg)) = (42 : Int32)
        · rw [if_pos hb4] at hm
          refine iv_lookup X dX11_firm_24 (off := 92) (tgt := 116) (by decide) (by rw [hb4]; decide) (by decide) ?_
          refine iv_iconst (pc := 116) X dX11_firm_116 ic_5 ?_
          cases hm
          exact is_iret (pc := 117) X dX11_firm_117
        · rw [if_neg hb4] at hm
          by_cases hb5 : ((S.1 78) ((S.1 75 10).toNatClampNeg)) = (43 : Int32)
          · rw [if_pos hb5] at hm
            refine iv_lookup X dX11_firm_24 (off := 90) (tgt := 114) (by decide) (by rw [hb5]; decide) (by decide) ?_
            refine iv_iconst (pc := 114) X dX11_firm_114 ic_4 ?_
            cases hm
            exact is_iret (pc := 115) X dX11_firm_115
          · rw [if_neg hb5] at hm
            by_cases hb6 : ((S.1 78) ((S.1 75 10).toNatClampNeg)) = (45 : Int32)
            · rw [if_pos hb6] at hm
              refine iv_lookup X dX11_firm_24 (off := 90) (tgt := 114) (by decide) (by rw [hb6]; decide) (by decide) ?_
              refine iv_iconst (pc := 114) X dX11_firm_114 ic_4 ?_
              cases hm
              exact is_iret (pc := 115) X dX11_firm_115
            · rw [if_neg hb6] at hm
              by_cases hb7 : ((S.1 78) ((S.1 75 10).toNatClampNeg)) = (47 : Int32)
              · rw [if_pos hb7] at hm
                refine iv_lookup X dX11_firm_24 (off := 92) (tgt := 116) (by decide) (by rw [hb7]; decide) (by decide) ?_
                refine iv_iconst (pc := 116) X dX11_firm_116 ic_5 ?_
                cases hm
                exact is_iret (pc := 117) X dX11_firm_117
              · rw [if_neg hb7] at hm
                by_cases hb8 : ((S.1 78) ((S.1 75 10).toNatClampNeg)) = (60 : Int32)
                · rw [if_pos hb8] at hm
                  refine iv_lookup X dX11_firm_24 (off := 88) (tgt := 112) (by decide) (by rw [hb8]; decide) (by decide) ?_
                  refine iv_iconst (pc := 112) X dX11_firm_112 ic_3 ?_
                  cases hm
                  exact is_iret (pc := 113) X dX11_firm_113
                · rw [if_neg hb8] at hm
                  by_cases hb9 : ((S.1 78) ((S.1 75 10).toNatClampNeg)) = (61 : Int32)
                  · rw [if_pos hb9] at hm
                    refine iv_lookup X dX11_firm_24 (off := 88) (tgt := 112) (by decide) (by rw [hb9]; decide) (by decide) ?_
                    refine iv_iconst (pc := 112) X dX11_firm_112 ic_3 ?_
                    cases hm
                    exact is_iret (pc := 113) X dX11_firm_113
                  · rw [if_neg hb9] at hm
                    by_cases hb10 : ((S.1 78) ((S.1 75 10).toNatClampNeg)) = (124 : Int32)
                    · rw [if_pos hb10] at hm
                      refine iv_lookup X dX11_firm_24 (off := 84) (tgt := 108) (by decide) (by rw [hb10]; decide) (by decide) ?_
                      refine iv_iconst (pc := 108) X dX11_firm_108 ic_1 ?_
                      cases hm
                      exact is_iret (pc := 109) X dX11_firm_109
                    · rw [if_neg hb10] at hm
                      have k0 := sw_ne hb2 (n := 37) (by decide)
                      have k1 := sw_ne hb3 (n := 38) (by decide)
                      have k2 := sw_ne hb4 (n := 42) (by decide)
                      have k3 := sw_ne hb5 (n := 43) (by decide)
                      have k4 := sw_ne hb6 (n := 45) (by decide)
                      have k5 := sw_ne hb7 (n := 47) (by decide)
                      have k6 := sw_ne hb8 (n := 60) (by decide)
                      have k7 := sw_ne hb9 (n := 61) (by decide)
                      have k8 := sw_ne hb10 (n := 124) (by decide)
                      refine iv_lookup X dX11_firm_24 (off := 94) (tgt := 118) (by decide) (by simp [Op.lookupswitch.offset, k0, k0.symm, k1, k1.symm, k2, k2.symm, k3, k3.symm, k4, k4.symm, k5, k5.symm, k6, k6.symm, k7, k7.symm, k8, k8.symm]) (by decide) ?_
                      refine iv_iconst (pc := 118) X dX11_firm_118 ic_0 ?_
                      cases hm
                      exact is_iret (pc := 119) X dX11_firm_119
  · rw [if_neg hb1] at hm
    refine iv_iconst (pc := 13) X dX11_firm_13 ic_0 ?_
    cases hm
    exact is_iret (pc := 14) X dX11_firm_14
def f_X11_note (x1 : Int32) (x2 : Int32) (S : im_S) : Option (Unit × im_S) := if (S.1 75 3 : Int32) = 0 then (some ((), (uI (uI S 75 3 x1) 75 4 x2))) else (if (x2 : Int32) < (S.1 75 4) then (some ((), (uI (uI S 75 3 x1) 75 4 x2))) else (if (x2 : Int32) ≠ (S.1 75 4) then (some ((), S)) else (if (S.1 75 3 : Int32) ≤ x1 then (some ((), S)) else (some ((), (uI (uI S 75 3 x1) 75 4 x2))))))
set_option maxHeartbeats 4000000 in
set_option maxRecDepth 100000 in
theorem f_X11_note_e (l : Launch) (g : im_G) (ad : Nat → Nat) (x1 : Int32) (x2 : Int32) (S : im_S) (r : Unit) (S' : im_S) (hm : f_X11_note x1 x2 S = some (r, S')) : im_E l g ad 0 yX11_note cX11_note 3 none [.ref (ad 75), .int x1, .int x2] S none S' := by
  unfold f_X11_note at hm
  refine is_met (own := RX11) (by decide +kernel) rfl (Nat.le_of_ble_eq_true rfl) (fun p e s m below meth c X => ?_)
  refine iv_aload_n (pc := 0) X dX11_note_0 rfl ?_
  refine gF_X11_228_75 (pc := 1) X dX11_note_1 (x := S.1 75 3) rfl ?_
  refine iv_if_eq (pc := 4) X dX11_note_4 (tgt := 31) rfl (fun hb1 => ?_) (fun hb1 => ?_)
  · rw [if_pos hb1] at hm
    refine iv_aload_n (pc := 31) X dX11_note_31 rfl ?_
    refine iv_iload_n (pc := 32) X dX11_note_32 rfl ?_
    refine pF_X11_228_75 (pc := 33) X dX11_note_33 ?_
    refine iv_aload_n (pc := 36) X dX11_note_36 rfl ?_
    refine iv_iload_n (pc := 37) X dX11_note_37 rfl ?_
    refine pF_X11_234_75 (pc := 38) X dX11_note_38 ?_
    cases hm
    exact is_vret (pc := 41) X dX11_note_41
  · rw [if_neg hb1] at hm
    refine iv_iload_n (pc := 7) X dX11_note_7 rfl ?_
    refine iv_aload_n (pc := 8) X dX11_note_8 rfl ?_
    refine gF_X11_234_75 (pc := 9) X dX11_note_9 (x := S.1 75 4) rfl ?_
    refine iv_icmp_lt (pc := 12) X dX11_note_12 (tgt := 31) rfl (fun hb2 => ?_) (fun hb2 => ?_)
    · rw [if_pos hb2] at hm
      refine iv_aload_n (pc := 31) X dX11_note_31 rfl ?_
      refine iv_iload_n (pc := 32) X dX11_note_32 rfl ?_
      refine pF_X11_228_75 (pc := 33) X dX11_note_33 ?_
      refine iv_aload_n (pc := 36) X dX11_note_36 rfl ?_
      refine iv_iload_n (pc := 37) X dX11_note_37 rfl ?_
      refine pF_X11_234_75 (pc := 38) X dX11_note_38 ?_
      cases hm
      exact is_vret (pc := 41) X dX11_note_41
    · rw [if_neg hb2] at hm
      refine iv_iload_n (pc := 15) X dX11_note_15 rfl ?_
      refine iv_aload_n (pc := 16) X dX11_note_16 rfl ?_
      refine gF_X11_234_75 (pc := 17) X dX11_note_17 (x := S.1 75 4) rfl ?_
      refine iv_icmp_ne (pc := 20) X dX11_note_20 (tgt := 41) rfl (fun hb3 => ?_) (fun hb3 => ?_)
      · rw [if_pos hb3] at hm
        cases hm
        exact is_vret (pc := 41) X dX11_note_41
      · rw [if_neg hb3] at hm
        refine iv_iload_n (pc := 23) X dX11_note_23 rfl ?_
        refine iv_aload_n (pc := 24) X dX11_note_24 rfl ?_
        refine gF_X11_228_75 (pc := 25) X dX11_note_25 (x := S.1 75 3) rfl ?_
        refine iv_icmp_ge (pc := 28) X dX11_note_28 (tgt := 41) rfl (fun hb4 => ?_) (fun hb4 => ?_)
        · rw [if_pos hb4] at hm
          cases hm
          exact is_vret (pc := 41) X dX11_note_41
        · rw [if_neg hb4] at hm
          refine iv_aload_n (pc := 31) X dX11_note_31 rfl ?_
          refine iv_iload_n (pc := 32) X dX11_note_32 rfl ?_
          refine pF_X11_228_75 (pc := 33) X dX11_note_33 ?_
          refine iv_aload_n (pc := 36) X dX11_note_36 rfl ?_
          refine iv_iload_n (pc := 37) X dX11_note_37 rfl ?_
          refine pF_X11_234_75 (pc := 38) X dX11_note_38 ?_
          cases hm
          exact is_vret (pc := 41) X dX11_note_41
def f_X11_firstLetter_L2 (fu : Nat) : Nat → Int64 → Int64 → im_S → Option (Int32 × im_S)
  | 0, _, _, _ => none
  | nf + 1, z0, z2, S => if (lg_cmp z2 255 : Int32) ≤ 0 then (some (z2.toInt32, S)) else (f_X11_firstLetter_L2 fu nf z0 (z2 >>> ((8 : Int32).toInt64 &&& 63)) S)
set_option maxHeartbeats 4000000 in
set_option maxRecDepth 100000 in
theorem f_X11_firstLetter_L2_w {fu : Nat} (l : Launch) (g : im_G) (ad : Nat → Nat) {p : Program} {e : Env} {s : State} {m : MethodId} {below : List Frame} {meth : Method} {c : Code} {args : Array Value} (X : im_X p l s m args meth c g cX11_firstLetter 4 RX11 (some Jvm.ClassFile.FieldType.int)) : ∀ (nf : Nat) (z0 : Int64) (z2 : Int64) (S : im_S) (r : Int32) (S' : im_S), f_X11_firstLetter_L2 fu nf z0 z2 S = some (r, S') → im_V p l e (im_R 0 0 0) s m args below meth c g 4 (im_Z below g ad args s (some (.int r)) S') ad im_N (im_cn g ad S) 0 0 2 [(0, .long z0), (2, .long z2)] [] := by
  intro nf
  induction nf with
  | zero =>
    intro z0 z2 S r S' hm
    cases hm
  | succ nf ih =>
    intro z0 z2 S r S' hm
    unfold f_X11_firstLetter_L2 at hm
    refine iv_lload_n (pc := 2) X dX11_firstLetter_2 rfl ?_
    refine iv_ldc2 (pc := 3) X wk_X11_193 dX11_firstLetter_3 ?_
    refine iv_lcmp (pc := 6) X dX11_firstLetter_6 ?_
    refine iv_if_le (pc := 7) X dX11_firstLetter_7 (tgt := 18) rfl (fun hb1 => ?_) (fun hb1 => ?_)
    · rw [if_pos hb1] at hm
      refine iv_lload_n (pc := 18) X dX11_firstLetter_18 rfl ?_
      refine iv_l2i (pc := 19) X dX11_firstLetter_19 rfl ?_
      cases hm
      exact is_iret (pc := 20) X dX11_firstLetter_20
    · rw [if_neg hb1] at hm
      refine iv_lload_n (pc := 10) X dX11_firstLetter_10 rfl ?_
      refine iv_bipush (pc := 11) X dX11_firstLetter_11 bc_8 ?_
      refine iv_lshr (pc := 13) X dX11_firstLetter_13 rfl ?_
      refine iv_lstore_n (pc := 14) X dX11_firstLetter_14 (by decide) (lv' := [(2, .long (z2 >>> ((8 : Int32).toInt64 &&& 63))), (0, .long z0)]) rfl ?_
      refine iv_goto (pc := 15) X dX11_firstLetter_15 (tgt := 2) rfl ?_
      refine iv_sub [1, 0] (lv2 := [(0, .long z0), (2, .long (z2 >>> ((8 : Int32).toInt64 &&& 63)))]) rfl ?_
      exact ih z0 (z2 >>> ((8 : Int32).toInt64 &&& 63)) S _ _ hm
def f_X11_firstLetter (fu : Nat) (x0 : Int64) (S : im_S) : Option (Int32 × im_S) := f_X11_firstLetter_L2 fu fu x0 x0 S
set_option maxHeartbeats 4000000 in
set_option maxRecDepth 100000 in
theorem f_X11_firstLetter_e (l : Launch) (g : im_G) (ad : Nat → Nat) (fu : Nat) (x0 : Int64) (S : im_S) (r : Int32) (S' : im_S) (hm : f_X11_firstLetter fu x0 S = some (r, S')) : im_E l g ad 0 yX11_firstLetter cX11_firstLetter 4 (some Jvm.ClassFile.FieldType.int) [.long x0] S (some (.int r)) S' := by
  unfold f_X11_firstLetter at hm
  refine is_met (own := RX11) (by decide +kernel) rfl (Nat.le_of_ble_eq_true rfl) (fun p e s m below meth c X => ?_)
  refine iv_lload_n (pc := 0) X dX11_firstLetter_0 rfl ?_
  refine iv_lstore_n (pc := 1) X dX11_firstLetter_1 (by decide) (lv' := [(2, .long x0), (0, .long x0)]) rfl ?_
  refine iv_sub [1, 0] (lv2 := [(0, .long x0), (2, .long x0)]) rfl ?_
  exact f_X11_firstLetter_L2_w (fu := fu) l g ad X fu x0 x0 S _ _ hm
def f_X11_typeOf (fu : Nat) (x0 : Int64) (S : im_S) : Option (Int32 × im_S) := (f_X11_firstLetter fu x0 S).bind (fun qS1 => if (115 : Int32) ≤ qS1.1 then (if (118 : Int32) ≤ qS1.1 then (some (3, qS1.2)) else (some (2, qS1.2))) else (some (1, qS1.2)))
set_option maxHeartbeats 4000000 in
set_option maxRecDepth 100000 in
theorem f_X11_typeOf_e (l : Launch) (g : im_G) (ad : Nat → Nat) (fu : Nat) (x0 : Int64) (S : im_S) (r : Int32) (S' : im_S) (hm : f_X11_typeOf fu x0 S = some (r, S')) : im_E l g ad 1 yX11_typeOf cX11_typeOf 3 (some Jvm.ClassFile.FieldType.int) [.long x0] S (some (.int r)) S' := by
  unfold f_X11_typeOf at hm
  refine is_met (own := RX11) (by decide +kernel) rfl (Nat.le_of_ble_eq_true rfl) (fun p e s m below meth c X => ?_)
  refine iv_lload_n (pc := 0) X dX11_typeOf_0 rfl ?_
  obtain ⟨⟨r2, S1⟩, hc3, hm⟩ := bd_some hm
  refine cS_X11_326 (pc := 1) X [.long x0] [] 1 rfl (f_X11_firstLetter_e l g ad fu x0 S _ _ hc3) (by decide) (by decide) (Nat.le_of_ble_eq_true rfl) rfl dX11_typeOf_1 ?_
  refine iv_istore_n (pc := 4) X dX11_typeOf_4 (by decide) (lv' := [(2, .int r2), (0, .long x0)]) rfl ?_
  refine iv_iload_n (pc := 5) X dX11_typeOf_5 rfl ?_
  refine iv_bipush (pc := 6) X dX11_typeOf_6 bc_115 ?_
  refine iv_icmp_ge (pc := 8) X dX11_typeOf_8 (tgt := 15) rfl (fun hb4 => ?_) (fun hb4 => ?_)
  · rw [if_pos hb4] at hm
    refine iv_iload_n (pc := 15) X dX11_typeOf_15 rfl ?_
    refine iv_bipush (pc := 16) X dX11_typeOf_16 bc_118 ?_
    refine iv_icmp_ge (pc := 18) X dX11_typeOf_18 (tgt := 25) rfl (fun hb5 => ?_) (fun hb5 => ?_)
    · rw [if_pos hb5] at hm
      refine iv_iconst (pc := 25) X dX11_typeOf_25 ic_3 ?_
      cases hm
      exact is_iret (pc := 26) X dX11_typeOf_26
    · rw [if_neg hb5] at hm
      refine iv_iconst (pc := 21) X dX11_typeOf_21 ic_2 ?_
      refine iv_goto (pc := 22) X dX11_typeOf_22 (tgt := 26) rfl ?_
      cases hm
      exact is_iret (pc := 26) X dX11_typeOf_26
  · rw [if_neg hb4] at hm
    refine iv_iconst (pc := 11) X dX11_typeOf_11 ic_1 ?_
    refine iv_goto (pc := 12) X dX11_typeOf_12 (tgt := 26) rfl ?_
    cases hm
    exact is_iret (pc := 26) X dX11_typeOf_26
def f_X11_find_L7 (fu : Nat) : Nat → Int64 → Int32 → im_S → Option (Int32 × im_S)
  | 0, _, _, _ => none
  | nf + 1, z1, z3, S => if (z3 : Int32) < 0 then (some ((-1), S)) else (gd (in_b z3 260) (if (lg_cmp ((S.2.1 116) z3.toNatClampNeg) z1 : Int32) ≠ 0 then (f_X11_find_L7 fu nf z1 (z3 + (-1)) S) else (some (z3, S))))
set_option maxHeartbeats 4000000 in
set_option maxRecDepth 100000 in
theorem f_X11_find_L7_w {fu : Nat} (l : Launch) (g : im_G) (ad : Nat → Nat) {p : Program} {e : Env} {s : State} {m : MethodId} {below : List Frame} {meth : Method} {c : Code} {args : Array Value} (X : im_X p l s m args meth c g cX11_find 4 RX11 (some Jvm.ClassFile.FieldType.int)) : ∀ (nf : Nat) (z1 : Int64) (z3 : Int32) (S : im_S) (r : Int32) (S' : im_S), f_X11_find_L7 fu nf z1 z3 S = some (r, S') → im_V p l e (im_R 0 0 0) s m args below meth c g 4 (im_Z below g ad args s (some (.int r)) S') ad im_N (im_cn g ad S) 0 0 7 [(0, .ref (ad 75)), (1, .long z1), (3, .int z3)] [] := by
  intro nf
  induction nf with
  | zero =>
    intro z1 z3 S r S' hm
    cases hm
  | succ nf ih =>
    intro z1 z3 S r S' hm
    unfold f_X11_find_L7 at hm
    refine iv_iload_n (pc := 7) X dX11_find_7 rfl ?_
    refine iv_if_lt (pc := 8) X dX11_find_8 (tgt := 30) rfl (fun hb1 => ?_) (fun hb1 => ?_)
    · rw [if_pos hb1] at hm
      refine iv_iconst (pc := 30) X dX11_find_30 ic_m1 ?_
      cases hm
      exact is_iret (pc := 31) X dX11_find_31
    · rw [if_neg hb1] at hm
      refine iv_aload_n (pc := 11) X dX11_find_11 rfl ?_
      refine gF_X11_131_75 (pc := 12) X dX11_find_12 ?_
      refine iv_iload_n (pc := 15) X dX11_find_15 rfl ?_
      obtain ⟨hg, hm⟩ := gd_some hm
      refine aL_116 (pc := 16) X dX11_find_16 hg (x := (S.2.1 116) z3.toNatClampNeg) rfl ?_
      refine iv_lload_n (pc := 17) X dX11_find_17 rfl ?_
      refine iv_lcmp (pc := 18) X dX11_find_18 ?_
      refine iv_if_ne (pc := 19) X dX11_find_19 (tgt := 24) rfl (fun hb2 => ?_) (fun hb2 => ?_)
      · rw [if_pos hb2] at hm
        refine iv_iinc (pc := 24) X dX11_find_24 rfl (by decide) (v := z3 + (-1)) rfl (lv' := [(3, .int (z3 + (-1))), (0, .ref (ad 75)), (1, .long z1)]) rfl ?_
        refine iv_goto (pc := 27) X dX11_find_27 (tgt := 7) rfl ?_
        refine iv_sub [1, 2, 0] (lv2 := [(0, .ref (ad 75)), (1, .long z1), (3, .int (z3 + (-1)))]) rfl ?_
        exact ih z1 (z3 + (-1)) S _ _ hm
      · rw [if_neg hb2] at hm
        refine iv_iload_n (pc := 22) X dX11_find_22 rfl ?_
        cases hm
        exact is_iret (pc := 23) X dX11_find_23
def f_X11_find (fu : Nat) (x1 : Int64) (S : im_S) : Option (Int32 × im_S) := f_X11_find_L7 fu fu x1 ((S.1 75 52) - 1) S
set_option maxHeartbeats 4000000 in
set_option maxRecDepth 100000 in
theorem f_X11_find_e (l : Launch) (g : im_G) (ad : Nat → Nat) (fu : Nat) (x1 : Int64) (S : im_S) (r : Int32) (S' : im_S) (hm : f_X11_find fu x1 S = some (r, S')) : im_E l g ad 0 yX11_find cX11_find 4 (some Jvm.ClassFile.FieldType.int) [.ref (ad 75), .long x1] S (some (.int r)) S' := by
  unfold f_X11_find at hm
  refine is_met (own := RX11) (by decide +kernel) rfl (Nat.le_of_ble_eq_true rfl) (fun p e s m below meth c X => ?_)
  refine iv_aload_n (pc := 0) X dX11_find_0 rfl ?_
  refine gF_X11_329_75 (pc := 1) X dX11_find_1 (x := S.1 75 52) rfl ?_
  refine iv_iconst (pc := 4) X dX11_find_4 ic_1 ?_
  refine iv_isub (pc := 5) X dX11_find_5 ?_
  refine iv_istore_n (pc := 6) X dX11_find_6 (by decide) (lv' := [(3, .int ((S.1 75 52) - 1)), (0, .ref (ad 75)), (1, .long x1)]) rfl ?_
  refine iv_sub [1, 2, 0] (lv2 := [(0, .ref (ad 75)), (1, .long x1), (3, .int ((S.1 75 52) - 1))]) rfl ?_
  exact f_X11_find_L7_w (fu := fu) l g ad X fu x1 ((S.1 75 52) - 1) S _ _ hm
def f_X11_know (fu : Nat) (x1 : Int64) (x3 : Int32) (x4 : Int32) (x5 : Int32) (x6 : Int32) (S : im_S) : Option (Unit × im_S) := (f_X11_find fu x1 S).bind (fun qS1 => if (qS1.1 : Int32) = (-1) then (gd (in_b (qS1.2.1 75 52) 260) (gd (in_b (qS1.2.1 75 52) 260) (gd (in_b (qS1.2.1 75 52) 260) (gd (in_b (qS1.2.1 75 52) 260) (some ((), (uI (uI (uI (uI (uJ qS1.2 116 ((qS1.2.1 75 52).toNatClampNeg) x1) 117 ((qS1.2.1 75 52).toNatClampNeg) x4) 118 ((qS1.2.1 75 52).toNatClampNeg) x5) 119 ((qS1.2.1 75 52).toNatClampNeg) x6) 75 52 ((qS1.2.1 75 52) + 1)))))))) else ((f_X11_note 2 x3 qS1.2).bind (fun qS5 => gd (in_b (qS5.2.1 75 52) 260) (gd (in_b (qS5.2.1 75 52) 260) (gd (in_b (qS5.2.1 75 52) 260) (gd (in_b (qS5.2.1 75 52) 260) (some ((), (uI (uI (uI (uI (uJ qS5.2 116 ((qS5.2.1 75 52).toNatClampNeg) x1) 117 ((qS5.2.1 75 52).toNatClampNeg) x4) 118 ((qS5.2.1 75 52).toNatClampNeg) x5) 119 ((qS5.2.1 75 52).toNatClampNeg) x6) 75 52 ((qS5.2.1 75 52) + 1))))))))))
set_option maxHeartbeats 4000000 in
set_option maxRecDepth 100000 in
theorem f_X11_know_e (l : Launch) (g : im_G) (ad : Nat → Nat) (fu : Nat) (x1 : Int64) (x3 : Int32) (x4 : Int32) (x5 : Int32) (x6 : Int32) (S : im_S) (r : Unit) (S' : im_S) (hm : f_X11_know fu x1 x3 x4 x5 x6 S = some (r, S')) : im_E l g ad 1 yX11_know cX11_know 7 none [.ref (ad 75), .long x1, .int x3, .int x4, .int x5, .int x6] S none S' := by
  unfold f_X11_know at hm
  refine is_met (own := RX11) (by decide +kernel) rfl (Nat.le_of_ble_eq_true rfl) (fun p e s m below meth c X => ?_)
  refine iv_aload_n (pc := 0) X dX11_know_0 rfl ?_
  refine iv_lload_n (pc := 1) X dX11_know_1 rfl ?_
  obtain ⟨⟨r2, S1⟩, hc3, hm⟩ := bd_some hm
  refine cV_X11_332_75 (pc := 2) X [.long x1] [] 1 rfl (f_X11_find_e l g ad fu x1 S _ _ hc3) (by decide) (by decide) (Nat.le_of_ble_eq_true rfl) rfl dX11_know_2 ?_
  refine iv_iconst (pc := 5) X dX11_know_5 ic_m1 ?_
  refine iv_icmp_eq (pc := 6) X dX11_know_6 (tgt := 15) rfl (fun hb4 => ?_) (fun hb4 => ?_)
  · rw [if_pos hb4] at hm
    refine iv_aload_n (pc := 15) X dX11_know_15 rfl ?_
    refine gF_X11_131_75 (pc := 16) X dX11_know_16 ?_
    refine iv_aload_n (pc := 19) X dX11_know_19 rfl ?_
    refine gF_X11_329_75 (pc := 20) X dX11_know_20 (x := S1.1 75 52) rfl ?_
    refine iv_lload_n (pc := 23) X dX11_know_23 rfl ?_
    obtain ⟨hg, hm⟩ := gd_some hm
    refine aS_116 (pc := 24) X dX11_know_24 hg ?_
    refine iv_aload_n (pc := 25) X dX11_know_25 rfl ?_
    refine gF_X11_134_75 (pc := 26) X dX11_know_26 ?_
    refine iv_aload_n (pc := 29) X dX11_know_29 rfl ?_
    refine gF_X11_329_75 (pc := 30) X dX11_know_30 (x := S1.1 75 52) rfl ?_
    refine iv_iload (pc := 33) X dX11_know_33 rfl ?_
    obtain ⟨hg, hm⟩ := gd_some hm
    refine aS_117 (pc := 35) X dX11_know_35 hg ?_
    refine iv_aload_n (pc := 36) X dX11_know_36 rfl ?_
    refine gF_X11_137_75 (pc := 37) X dX11_know_37 ?_
    refine iv_aload_n (pc := 40) X dX11_know_40 rfl ?_
    refine gF_X11_329_75 (pc := 41) X dX11_know_41 (x := S1.1 75 52) rfl ?_
    refine iv_iload (pc := 44) X dX11_know_44 rfl ?_
    obtain ⟨hg, hm⟩ := gd_some hm
    refine aS_118 (pc := 46) X dX11_know_46 hg ?_
    refine iv_aload_n (pc := 47) X dX11_know_47 rfl ?_
    refine gF_X11_140_75 (pc := 48) X dX11_know_48 ?_
    refine iv_aload_n (pc := 51) X dX11_know_51 rfl ?_
    refine gF_X11_329_75 (pc := 52) X dX11_know_52 (x := S1.1 75 52) rfl ?_
    refine iv_iload (pc := 55) X dX11_know_55 rfl ?_
    obtain ⟨hg, hm⟩ := gd_some hm
    refine aS_119 (pc := 57) X dX11_know_57 hg ?_
    refine iv_aload_n (pc := 58) X dX11_know_58 rfl ?_
    refine iv_dup (pc := 59) X dX11_know_59 rfl ?_
    refine gF_X11_329_75 (pc := 60) X dX11_know_60 (x := S1.1 75 52) rfl ?_
    refine iv_iconst (pc := 63) X dX11_know_63 ic_1 ?_
    refine iv_iadd (pc := 64) X dX11_know_64 ?_
    refine pF_X11_329_75 (pc := 65) X dX11_know_65 ?_
    cases hm
    exact is_vret (pc := 68) X dX11_know_68
  · rw [if_neg hb4] at hm
    refine iv_aload_n (pc := 9) X dX11_know_9 rfl ?_
    refine iv_iconst (pc := 10) X dX11_know_10 ic_2 ?_
    refine iv_iload_n (pc := 11) X dX11_know_11 rfl ?_
    obtain ⟨⟨r6, S5⟩, hc7, hm⟩ := bd_some hm
    refine cV_X11_335_75 (pc := 12) X [.int 2, .int x3] [] 2 rfl (f_X11_note_e l g ad 2 x3 S1 _ _ hc7) (by decide) (by decide) (Nat.le_of_ble_eq_true rfl) rfl dX11_know_12 ?_
    refine iv_aload_n (pc := 15) X dX11_know_15 rfl ?_
    refine gF_X11_131_75 (pc := 16) X dX11_know_16 ?_
    refine iv_aload_n (pc := 19) X dX11_know_19 rfl ?_
    refine gF_X11_329_75 (pc := 20) X dX11_know_20 (x := S5.1 75 52) rfl ?_
    refine iv_lload_n (pc := 23) X dX11_know_23 rfl ?_
    obtain ⟨hg, hm⟩ := gd_some hm
    refine aS_116 (pc := 24) X dX11_know_24 hg ?_
    refine iv_aload_n (pc := 25) X dX11_know_25 rfl ?_
    refine gF_X11_134_75 (pc := 26) X dX11_know_26 ?_
    refine iv_aload_n (pc := 29) X dX11_know_29 rfl ?_
    refine gF_X11_329_75 (pc := 30) X dX11_know_30 (x := S5.1 75 52) rfl ?_
    refine iv_iload (pc := 33) X dX11_know_33 rfl ?_
    obtain ⟨hg, hm⟩ := gd_some hm
    refine aS_117 (pc := 35) X dX11_know_35 hg ?_
    refine iv_aload_n (pc := 36) X dX11_know_36 rfl ?_
    refine gF_X11_137_75 (pc := 37) X dX11_know_37 ?_
    refine iv_aload_n (pc := 40) X dX11_know_40 rfl ?_
    refine gF_X11_329_75 (pc := 41) X dX11_know_41 (x := S5.1 75 52) rfl ?_
    refine iv_iload (pc := 44) X dX11_know_44 rfl ?_
    obtain ⟨hg, hm⟩ := gd_some hm
    refine aS_118 (pc := 46) X dX11_know_46 hg ?_
    refine iv_aload_n (pc := 47) X dX11_know_47 rfl ?_
    refine gF_X11_140_75 (pc := 48) X dX11_know_48 ?_
    refine iv_aload_n (pc := 51) X dX11_know_51 rfl ?_
    refine gF_X11_329_75 (pc := 52) X dX11_know_52 (x := S5.1 75 52) rfl ?_
    refine iv_iload (pc := 55) X dX11_know_55 rfl ?_
    obtain ⟨hg, hm⟩ := gd_some hm
    refine aS_119 (pc := 57) X dX11_know_57 hg ?_
    refine iv_aload_n (pc := 58) X dX11_know_58 rfl ?_
    refine iv_dup (pc := 59) X dX11_know_59 rfl ?_
    refine gF_X11_329_75 (pc := 60) X dX11_know_60 (x := S5.1 75 52) rfl ?_
    refine iv_iconst (pc := 63) X dX11_know_63 ic_1 ?_
    refine iv_iadd (pc := 64) X dX11_know_64 ?_
    refine pF_X11_329_75 (pc := 65) X dX11_know_65 ?_
    cases hm
    exact is_vret (pc := 68) X dX11_know_68
def f_X11_functionOf_L10 (fu : Nat) : Nat → Int64 → Int32 → im_S → Option (Int32 × im_S)
  | 0, _, _, _ => none
  | nf + 1, z1, z3, S => if ((8 * (1 - (S.1 75 37))) + (S.1 75 36) : Int32) ≤ z3 then (some ((-1), S)) else (gd (in_b z3 16) (if (lg_cmp ((S.2.1 97) z3.toNatClampNeg) z1 : Int32) ≠ 0 then (f_X11_functionOf_L10 fu nf z1 (z3 + 1) S) else (some (z3, S))))
set_option maxHeartbeats 4000000 in
set_option maxRecDepth 100000 in
theorem f_X11_functionOf_L10_w {fu : Nat} (l : Launch) (g : im_G) (ad : Nat → Nat) {p : Program} {e : Env} {s : State} {m : MethodId} {below : List Frame} {meth : Method} {c : Code} {args : Array Value} (X : im_X p l s m args meth c g cX11_functionOf 4 RX11 (some Jvm.ClassFile.FieldType.int)) : ∀ (nf : Nat) (z1 : Int64) (z3 : Int32) (S : im_S) (r : Int32) (S' : im_S), f_X11_functionOf_L10 fu nf z1 z3 S = some (r, S') → im_V p l e (im_R 0 0 0) s m args below meth c g 4 (im_Z below g ad args s (some (.int r)) S') ad im_N (im_cn g ad S) 0 0 10 [(0, .ref (ad 75)), (1, .long z1), (3, .int z3)] [] := by
  intro nf
  induction nf with
  | zero =>
    intro z1 z3 S r S' hm
    cases hm
  | succ nf ih =>
    intro z1 z3 S r S' hm
    unfold f_X11_functionOf_L10 at hm
    refine iv_iload_n (pc := 10) X dX11_functionOf_10 rfl ?_
    refine iv_bipush (pc := 11) X dX11_functionOf_11 bc_8 ?_
    refine iv_iconst (pc := 13) X dX11_functionOf_13 ic_1 ?_
    refine iv_aload_n (pc := 14) X dX11_functionOf_14 rfl ?_
    refine gF_X11_317_75 (pc := 15) X dX11_functionOf_15 (x := S.1 75 37) rfl ?_
    refine iv_isub (pc := 18) X dX11_functionOf_18 ?_
    refine iv_imul (pc := 19) X dX11_functionOf_19 ?_
    refine iv_aload_n (pc := 20) X dX11_functionOf_20 rfl ?_
    refine gF_X11_314_75 (pc := 21) X dX11_functionOf_21 (x := S.1 75 36) rfl ?_
    refine iv_iadd (pc := 24) X dX11_functionOf_24 ?_
    refine iv_icmp_ge (pc := 25) X dX11_functionOf_25 (tgt := 47) rfl (fun hb1 => ?_) (fun hb1 => ?_)
    · rw [if_pos hb1] at hm
      refine iv_iconst (pc := 47) X dX11_functionOf_47 ic_m1 ?_
      cases hm
      exact is_iret (pc := 48) X dX11_functionOf_48
    · rw [if_neg hb1] at hm
      refine iv_aload_n (pc := 28) X dX11_functionOf_28 rfl ?_
      refine gF_X11_74_75 (pc := 29) X dX11_functionOf_29 ?_
      refine iv_iload_n (pc := 32) X dX11_functionOf_32 rfl ?_
      obtain ⟨hg, hm⟩ := gd_some hm
      refine aL_97 (pc := 33) X dX11_functionOf_33 hg (x := (S.2.1 97) z3.toNatClampNeg) rfl ?_
      refine iv_lload_n (pc := 34) X dX11_functionOf_34 rfl ?_
      refine iv_lcmp (pc := 35) X dX11_functionOf_35 ?_
      refine iv_if_ne (pc := 36) X dX11_functionOf_36 (tgt := 41) rfl (fun hb2 => ?_) (fun hb2 => ?_)
      · rw [if_pos hb2] at hm
        refine iv_iinc (pc := 41) X dX11_functionOf_41 rfl (by decide) (v := z3 + 1) rfl (lv' := [(3, .int (z3 + 1)), (0, .ref (ad 75)), (1, .long z1)]) rfl ?_
        refine iv_goto (pc := 44) X dX11_functionOf_44 (tgt := 10) rfl ?_
        refine iv_sub [1, 2, 0] (lv2 := [(0, .ref (ad 75)), (1, .long z1), (3, .int (z3 + 1))]) rfl ?_
        exact ih z1 (z3 + 1) S _ _ hm
      · rw [if_neg hb2] at hm
        refine iv_iload_n (pc := 39) X dX11_functionOf_39 rfl ?_
        cases hm
        exact is_iret (pc := 40) X dX11_functionOf_40
def f_X11_functionOf (fu : Nat) (x1 : Int64) (S : im_S) : Option (Int32 × im_S) := f_X11_functionOf_L10 fu fu x1 (8 * (1 - (S.1 75 37))) S
set_option maxHeartbeats 4000000 in
set_option maxRecDepth 100000 in
theorem f_X11_functionOf_e (l : Launch) (g : im_G) (ad : Nat → Nat) (fu : Nat) (x1 : Int64) (S : im_S) (r : Int32) (S' : im_S) (hm : f_X11_functionOf fu x1 S = some (r, S')) : im_E l g ad 0 yX11_functionOf cX11_functionOf 4 (some Jvm.ClassFile.FieldType.int) [.ref (ad 75), .long x1] S (some (.int r)) S' := by
  unfold f_X11_functionOf at hm
  refine is_met (own := RX11) (by decide +kernel) rfl (Nat.le_of_ble_eq_true rfl) (fun p e s m below meth c X => ?_)
  refine iv_bipush (pc := 0) X dX11_functionOf_0 bc_8 ?_
  refine iv_iconst (pc := 2) X dX11_functionOf_2 ic_1 ?_
  refine iv_aload_n (pc := 3) X dX11_functionOf_3 rfl ?_
  refine gF_X11_317_75 (pc := 4) X dX11_functionOf_4 (x := S.1 75 37) rfl ?_
  refine iv_isub (pc := 7) X dX11_functionOf_7 ?_
  refine iv_imul (pc := 8) X dX11_functionOf_8 ?_
  refine iv_istore_n (pc := 9) X dX11_functionOf_9 (by decide) (lv' := [(3, .int (8 * (1 - (S.1 75 37)))), (0, .ref (ad 75)), (1, .long x1)]) rfl ?_
  refine iv_sub [1, 2, 0] (lv2 := [(0, .ref (ad 75)), (1, .long x1), (3, .int (8 * (1 - (S.1 75 37))))]) rfl ?_
  exact f_X11_functionOf_L10_w (fu := fu) l g ad X fu x1 (8 * (1 - (S.1 75 37))) S _ _ hm
def f_X11_lookName (fu : Nat) (x1 : Int32) (S : im_S) : Option (Int32 × im_S) := gd (in_b x1 1200) ((f_X11_find fu ((S.2.1 87) x1.toNatClampNeg) S).bind (fun qS1 => if (qS1.1 : Int32) ≠ (-1) then (gd (in_b qS1.1 260) (gd (in_b x1 1200) (gd (in_b qS1.1 260) (gd (in_b x1 1200) (gd (in_b qS1.1 260) (gd (in_b x1 1200) (gd (in_b x1 1200) ((f_X11_typeOf fu ((qS1.2.2.1 87) x1.toNatClampNeg) (uI (uI (uI qS1.2 113 x1.toNatClampNeg ((qS1.2.1 117) qS1.1.toNatClampNeg)) 114 x1.toNatClampNeg ((qS1.2.1 118) qS1.1.toNatClampNeg)) 115 x1.toNatClampNeg ((qS1.2.1 119) qS1.1.toNatClampNeg))).bind (fun qS5 => some (qS5.1, qS5.2)))))))))) else (gd (in_b x1 1200) ((f_X11_note 2 ((qS1.2.1 82) x1.toNatClampNeg) qS1.2).bind (fun qS8 => gd (in_b x1 1200) ((f_X11_typeOf fu ((qS8.2.2.1 87) x1.toNatClampNeg) qS8.2).bind (fun qS11 => some (qS11.1, qS11.2))))))))
set_option maxHeartbeats 4000000 in
set_option maxRecDepth 100000 in
theorem f_X11_lookName_e (l : Launch) (g : im_G) (ad : Nat → Nat) (fu : Nat) (x1 : Int32) (S : im_S) (r : Int32) (S' : im_S) (hm : f_X11_lookName fu x1 S = some (r, S')) : im_E l g ad 2 yX11_lookName cX11_lookName 3 (some Jvm.ClassFile.FieldType.int) [.ref (ad 75), .int x1] S (some (.int r)) S' := by
  unfold f_X11_lookName at hm
  refine is_met (own := RX11) (by decide +kernel) rfl (Nat.le_of_ble_eq_true rfl) (fun p e s m below meth c X => ?_)
  refine iv_aload_n (pc := 0) X dX11_lookName_0 rfl ?_
  refine iv_aload_n (pc := 1) X dX11_lookName_1 rfl ?_
  refine gF_X11_44_75 (pc := 2) X dX11_lookName_2 ?_
  refine iv_iload_n (pc := 5) X dX11_lookName_5 rfl ?_
  obtain ⟨hg, hm⟩ := gd_some hm
  refine aL_87 (pc := 6) X dX11_lookName_6 hg (x := (S.2.1 87) x1.toNatClampNeg) rfl ?_
  obtain ⟨⟨r2, S1⟩, hc3, hm⟩ := bd_some hm
  refine cV_X11_332_75 (pc := 7) X [.long ((S.2.1 87) x1.toNatClampNeg)] [] 1 rfl (f_X11_find_e l g ad fu ((S.2.1 87) x1.toNatClampNeg) S _ _ hc3) (by decide) (by decide) (Nat.le_of_ble_eq_true rfl) rfl dX11_lookName_7 ?_
  refine iv_istore_n (pc := 10) X dX11_lookName_10 (by decide) (lv' := [(2, .int r2), (0, .ref (ad 75)), (1, .int x1)]) rfl ?_
  refine iv_iload_n (pc := 11) X dX11_lookName_11 rfl ?_
  refine iv_iconst (pc := 12) X dX11_lookName_12 ic_m1 ?_
  refine iv_icmp_ne (pc := 13) X dX11_lookName_13 (tgt := 30) rfl (fun hb4 => ?_) (fun hb4 => ?_)
  · rw [if_pos hb4] at hm
    refine iv_aload_n (pc := 30) X dX11_lookName_30 rfl ?_
    refine gF_X11_122_75 (pc := 31) X dX11_lookName_31 ?_
    refine iv_iload_n (pc := 34) X dX11_lookName_34 rfl ?_
    refine iv_aload_n (pc := 35) X dX11_lookName_35 rfl ?_
    refine gF_X11_134_75 (pc := 36) X dX11_lookName_36 ?_
    refine iv_iload_n (pc := 39) X dX11_lookName_39 rfl ?_
    obtain ⟨hg, hm⟩ := gd_some hm
    refine aL_117 (pc := 40) X dX11_lookName_40 hg (x := (S1.1 117) r2.toNatClampNeg) rfl ?_
    obtain ⟨hg, hm⟩ := gd_some hm
    refine aS_113 (pc := 41) X dX11_lookName_41 hg ?_
    refine iv_aload_n (pc := 42) X dX11_lookName_42 rfl ?_
    refine gF_X11_125_75 (pc := 43) X dX11_lookName_43 ?_
    refine iv_iload_n (pc := 46) X dX11_lookName_46 rfl ?_
    refine iv_aload_n (pc := 47) X dX11_lookName_47 rfl ?_
    refine gF_X11_137_75 (pc := 48) X dX11_lookName_48 ?_
    refine iv_iload_n (pc := 51) X dX11_lookName_51 rfl ?_
    obtain ⟨hg, hm⟩ := gd_some hm
    refine aL_118 (pc := 52) X dX11_lookName_52 hg (x := (S1.1 118) r2.toNatClampNeg) rfl ?_
    obtain ⟨hg, hm⟩ := gd_some hm
    refine aS_114 (pc := 53) X dX11_lookName_53 hg ?_
    refine iv_aload_n (pc := 54) X dX11_lookName_54 rfl ?_
    refine gF_X11_128_75 (pc := 55) X dX11_lookName_55 ?_
    refine iv_iload_n (pc := 58) X dX11_lookName_58 rfl ?_
    refine iv_aload_n (pc := 59) X dX11_lookName_59 rfl ?_
    refine gF_X11_140_75 (pc := 60) X dX11_lookName_60 ?_
    refine iv_iload_n (pc := 63) X dX11_lookName_63 rfl ?_
    obtain ⟨hg, hm⟩ := gd_some hm
    refine aL_119 (pc := 64) X dX11_lookName_64 hg (x := (S1.1 119) r2.toNatClampNeg) rfl ?_
    obtain ⟨hg, hm⟩ := gd_some hm
    refine aS_115 (pc := 65) X dX11_lookName_65 hg ?_
    refine iv_aload_n (pc := 66) X dX11_lookName_66 rfl ?_
    refine gF_X11_44_75 (pc := 67) X dX11_lookName_67 ?_
    refine iv_iload_n (pc := 70) X dX11_lookName_70 rfl ?_
    obtain ⟨hg, hm⟩ := gd_some hm
    refine aL_87 (pc := 71) X dX11_lookName_71 hg (x := (S1.2.1 87) x1.toNatClampNeg) rfl ?_
    obtain ⟨⟨r6, S5⟩, hc7, hm⟩ := bd_some hm
    refine cS_X11_362 (pc := 72) X [.long ((S1.2.1 87) x1.toNatClampNeg)] [] 1 rfl (f_X11_typeOf_e l g ad fu ((S1.2.1 87) x1.toNatClampNeg) (uI (uI (uI S1 113 x1.toNatClampNeg ((S1.1 117) r2.toNatClampNeg)) 114 x1.toNatClampNeg ((S1.1 118) r2.toNatClampNeg)) 115 x1.toNatClampNeg ((S1.1 119) r2.toNatClampNeg)) _ _ hc7) (by decide) (by decide) (Nat.le_of_ble_eq_true rfl) rfl dX11_lookName_72 ?_
    cases hm
    exact is_iret (pc := 75) X dX11_lookName_75
  · rw [if_neg hb4] at hm
    refine iv_aload_n (pc := 16) X dX11_lookName_16 rfl ?_
    refine iv_iconst (pc := 17) X dX11_lookName_17 ic_2 ?_
    refine iv_aload_n (pc := 18) X dX11_lookName_18 rfl ?_
    refine gF_X11_29_75 (pc := 19) X dX11_lookName_19 ?_
    refine iv_iload_n (pc := 22) X dX11_lookName_22 rfl ?_
    obtain ⟨hg, hm⟩ := gd_some hm
    refine aL_82 (pc := 23) X dX11_lookName_23 hg (x := (S1.1 82) x1.toNatClampNeg) rfl ?_
    obtain ⟨⟨r9, S8⟩, hc10, hm⟩ := bd_some hm
    refine cV_X11_335_75 (pc := 24) X [.int 2, .int ((S1.1 82) x1.toNatClampNeg)] [] 2 rfl (f_X11_note_e l g ad 2 ((S1.1 82) x1.toNatClampNeg) S1 _ _ hc10) (by decide) (by decide) (Nat.le_of_ble_eq_true rfl) rfl dX11_lookName_24 ?_
    refine iv_goto (pc := 27) X dX11_lookName_27 (tgt := 66) rfl ?_
    refine iv_aload_n (pc := 66) X dX11_lookName_66 rfl ?_
    refine gF_X11_44_75 (pc := 67) X dX11_lookName_67 ?_
    refine iv_iload_n (pc := 70) X dX11_lookName_70 rfl ?_
    obtain ⟨hg, hm⟩ := gd_some hm
    refine aL_87 (pc := 71) X dX11_lookName_71 hg (x := (S8.2.1 87) x1.toNatClampNeg) rfl ?_
    obtain ⟨⟨r12, S11⟩, hc13, hm⟩ := bd_some hm
    refine cS_X11_362 (pc := 72) X [.long ((S8.2.1 87) x1.toNatClampNeg)] [] 1 rfl (f_X11_typeOf_e l g ad fu ((S8.2.1 87) x1.toNatClampNeg) S8 _ _ hc13) (by decide) (by decide) (Nat.le_of_ble_eq_true rfl) rfl dX11_lookName_72 ?_
    cases hm
    exact is_iret (pc := 75) X dX11_lookName_75
def f_X11_partOf_L3 (fu : Nat) : Nat → Int32 → Int64 → Int32 → im_S → Option (Int32 × im_S)
  | 0, _, _, _, _ => none
  | nf + 1, z1, z2, z4, S => gd (in_b z1 1200) (if ((S.1 90) z1.toNatClampNeg : Int32) ≤ z4 then (some ((-1), S)) else (gd (in_b z1 1200) (gd (in_b (((S.1 89) z1.toNatClampNeg) + z4) 1200) (if (lg_cmp ((S.2.1 93) ((((S.1 89) z1.toNatClampNeg) + z4).toNatClampNeg)) z2 : Int32) ≠ 0 then (f_X11_partOf_L3 fu nf z1 z2 (z4 + 1) S) else (some (z4, S))))))
set_option maxHeartbeats 4000000 in
set_option maxRecDepth 100000 in
theorem f_X11_partOf_L3_w {fu : Nat} (l : Launch) (g : im_G) (ad : Nat → Nat) {p : Program} {e : Env} {s : State} {m : MethodId} {below : List Frame} {meth : Method} {c : Code} {args : Array Value} (X : im_X p l s m args meth c g cX11_partOf 5 RX11 (some Jvm.ClassFile.FieldType.int)) : ∀ (nf : Nat) (z1 : Int32) (z2 : Int64) (z4 : Int32) (S : im_S) (r : Int32) (S' : im_S), f_X11_partOf_L3 fu nf z1 z2 z4 S = some (r, S') → im_V p l e (im_R 0 0 0) s m args below meth c g 5 (im_Z below g ad args s (some (.int r)) S') ad im_N (im_cn g ad S) 0 0 3 [(0, .ref (ad 75)), (1, .int z1), (2, .long z2), (4, .int z4)] [] := by
  intro nf
  induction nf with
  | zero =>
    intro z1 z2 z4 S r S' hm
    cases hm
  | succ nf ih =>
    intro z1 z2 z4 S r S' hm
    unfold f_X11_partOf_L3 at hm
    refine iv_iload (pc := 3) X dX11_partOf_3 rfl ?_
    refine iv_aload_n (pc := 5) X dX11_partOf_5 rfl ?_
    refine gF_X11_53_75 (pc := 6) X dX11_partOf_6 ?_
    refine iv_iload_n (pc := 9) X dX11_partOf_9 rfl ?_
    obtain ⟨hg, hm⟩ := gd_some hm
    refine aL_90 (pc := 10) X dX11_partOf_10 hg (x := (S.1 90) z1.toNatClampNeg) rfl ?_
    refine iv_icmp_ge (pc := 11) X dX11_partOf_11 (tgt := 42) rfl (fun hb1 => ?_) (fun hb1 => ?_)
    · rw [if_pos hb1] at hm
      refine iv_iconst (pc := 42) X dX11_partOf_42 ic_m1 ?_
      cases hm
      exact is_iret (pc := 43) X dX11_partOf_43
    · rw [if_neg hb1] at hm
      refine iv_aload_n (pc := 14) X dX11_partOf_14 rfl ?_
      refine gF_X11_62_75 (pc := 15) X dX11_partOf_15 ?_
      refine iv_aload_n (pc := 18) X dX11_partOf_18 rfl ?_
      refine gF_X11_50_75 (pc := 19) X dX11_partOf_19 ?_
      refine iv_iload_n (pc := 22) X dX11_partOf_22 rfl ?_
      obtain ⟨hg, hm⟩ := gd_some hm
      refine aL_89 (pc := 23) X dX11_partOf_23 hg (x := (S.1 89) z1.toNatClampNeg) rfl ?_
      refine iv_iload (pc := 24) X dX11_partOf_24 rfl ?_
      refine iv_iadd (pc := 26) X dX11_partOf_26 ?_
      obtain ⟨hg, hm⟩ := gd_some hm
      refine aL_93 (pc := 27) X dX11_partOf_27 hg (x := (S.2.1 93) ((((S.1 89) z1.toNatClampNeg) + z4).toNatClampNeg)) rfl ?_
      refine iv_lload_n (pc := 28) X dX11_partOf_28 rfl ?_
      refine iv_lcmp (pc := 29) X dX11_partOf_29 ?_
      refine iv_if_ne (pc := 30) X dX11_partOf_30 (tgt := 36) rfl (fun hb2 => ?_) (fun hb2 => ?_)
      · rw [if_pos hb2] at hm
        refine iv_iinc (pc := 36) X dX11_partOf_36 rfl (by decide) (v := z4 + 1) rfl (lv' := [(4, .int (z4 + 1)), (0, .ref (ad 75)), (1, .int z1), (2, .long z2)]) rfl ?_
        refine iv_goto (pc := 39) X dX11_partOf_39 (tgt := 3) rfl ?_
        refine iv_sub [1, 2, 3, 0] (lv2 := [(0, .ref (ad 75)), (1, .int z1), (2, .long z2), (4, .int (z4 + 1))]) rfl ?_
        exact ih z1 z2 (z4 + 1) S _ _ hm
      · rw [if_neg hb2] at hm
        refine iv_iload (pc := 33) X dX11_partOf_33 rfl ?_
        cases hm
        exact is_iret (pc := 35) X dX11_partOf_35
def f_X11_partOf (fu : Nat) (x1 : Int32) (x2 : Int64) (S : im_S) : Option (Int32 × im_S) := f_X11_partOf_L3 fu fu x1 x2 0 S
set_option maxHeartbeats 4000000 in
set_option maxRecDepth 100000 in
theorem f_X11_partOf_e (l : Launch) (g : im_G) (ad : Nat → Nat) (fu : Nat) (x1 : Int32) (x2 : Int64) (S : im_S) (r : Int32) (S' : im_S) (hm : f_X11_partOf fu x1 x2 S = some (r, S')) : im_E l g ad 0 yX11_partOf cX11_partOf 5 (some Jvm.ClassFile.FieldType.int) [.ref (ad 75), .int x1, .long x2] S (some (.int r)) S' := by
  unfold f_X11_partOf at hm
  refine is_met (own := RX11) (by decide +kernel) rfl (Nat.le_of_ble_eq_true rfl) (fun p e s m below meth c X => ?_)
  refine iv_iconst (pc := 0) X dX11_partOf_0 ic_0 ?_
  refine iv_istore (pc := 1) X dX11_partOf_1 (by decide) (lv' := [(4, .int 0), (0, .ref (ad 75)), (1, .int x1), (2, .long x2)]) rfl ?_
  refine iv_sub [1, 2, 3, 0] (lv2 := [(0, .ref (ad 75)), (1, .int x1), (2, .long x2), (4, .int 0)]) rfl ?_
  exact f_X11_partOf_L3_w (fu := fu) l g ad X fu x1 x2 0 S _ _ hm
def f_X11_addRegion (x1 : Int32) (S : im_S) : Option (Int32 × im_S) := gd (in_b (S.1 75 40) 640) (gd (in_b (S.1 75 40) 640) (gd (in_b (S.1 75 40) 640) (gd (in_b (S.1 75 40) 640) (some (S.1 75 40, (uI (uI (uI (uI (uI S 75 40 ((S.1 75 40) + 1)) 105 ((S.1 75 40).toNatClampNeg) x1) 106 ((S.1 75 40).toNatClampNeg) 0) 107 ((S.1 75 40).toNatClampNeg) (-1)) 109 ((S.1 75 40).toNatClampNeg) (-1)))))))
set_option maxHeartbeats 4000000 in
set_option maxRecDepth 100000 in
theorem f_X11_addRegion_e (l : Launch) (g : im_G) (ad : Nat → Nat) (x1 : Int32) (S : im_S) (r : Int32) (S' : im_S) (hm : f_X11_addRegion x1 S = some (r, S')) : im_E l g ad 0 yX11_addRegion cX11_addRegion 3 (some Jvm.ClassFile.FieldType.int) [.ref (ad 75), .int x1] S (some (.int r)) S' := by
  unfold f_X11_addRegion at hm
  refine is_met (own := RX11) (by decide +kernel) rfl (Nat.le_of_ble_eq_true rfl) (fun p e s m below meth c X => ?_)
  refine iv_aload_n (pc := 0) X dX11_addRegion_0 rfl ?_
  refine gF_X11_376_75 (pc := 1) X dX11_addRegion_1 (x := S.1 75 40) rfl ?_
  refine iv_istore_n (pc := 4) X dX11_addRegion_4 (by decide) (lv' := [(2, .int (S.1 75 40)), (0, .ref (ad 75)), (1, .int x1)]) rfl ?_
  refine iv_aload_n (pc := 5) X dX11_addRegion_5 rfl ?_
  refine iv_dup (pc := 6) X dX11_addRegion_6 rfl ?_
  refine gF_X11_376_75 (pc := 7) X dX11_addRegion_7 (x := S.1 75 40) rfl ?_
  refine iv_iconst (pc := 10) X dX11_addRegion_10 ic_1 ?_
  refine iv_iadd (pc := 11) X dX11_addRegion_11 ?_
  refine pF_X11_376_75 (pc := 12) X dX11_addRegion_12 ?_
  refine iv_aload_n (pc := 15) X dX11_addRegion_15 rfl ?_
  refine gF_X11_98_75 (pc := 16) X dX11_addRegion_16 ?_
  refine iv_iload_n (pc := 19) X dX11_addRegion_19 rfl ?_
  refine iv_iload_n (pc := 20) X dX11_addRegion_20 rfl ?_
  obtain ⟨hg, hm⟩ := gd_some hm
  refine aS_105 (pc := 21) X dX11_addRegion_21 hg ?_
  refine iv_aload_n (pc := 22) X dX11_addRegion_22 rfl ?_
  refine gF_X11_101_75 (pc := 23) X dX11_addRegion_23 ?_
  refine iv_iload_n (pc := 26) X dX11_addRegion_26 rfl ?_
  refine iv_iconst (pc := 27) X dX11_addRegion_27 ic_0 ?_
  obtain ⟨hg, hm⟩ := gd_some hm
  refine aS_106 (pc := 28) X dX11_addRegion_28 hg ?_
  refine iv_aload_n (pc := 29) X dX11_addRegion_29 rfl ?_
  refine gF_X11_104_75 (pc := 30) X dX11_addRegion_30 ?_
  refine iv_iload_n (pc := 33) X dX11_addRegion_33 rfl ?_
  refine iv_iconst (pc := 34) X dX11_addRegion_34 ic_m1 ?_
  obtain ⟨hg, hm⟩ := gd_some hm
  refine aS_107 (pc := 35) X dX11_addRegion_35 hg ?_
  refine iv_aload_n (pc := 36) X dX11_addRegion_36 rfl ?_
  refine gF_X11_110_75 (pc := 37) X dX11_addRegion_37 ?_
  refine iv_iload_n (pc := 40) X dX11_addRegion_40 rfl ?_
  refine iv_iconst (pc := 41) X dX11_addRegion_41 ic_m1 ?_
  obtain ⟨hg, hm⟩ := gd_some hm
  refine aS_109 (pc := 42) X dX11_addRegion_42 hg ?_
  refine iv_iload_n (pc := 43) X dX11_addRegion_43 rfl ?_
  cases hm
  exact is_iret (pc := 44) X dX11_addRegion_44
def f_X11_fault (x1 : Int32) (S : im_S) : Option (Int32 × im_S) := if (x1 : Int32) ≠ 0 then (if (x1 : Int32) ≠ 1 then (some ((-1), (uI S 75 0 0))) else (some (S.1 75 4, (uI S 75 0 0)))) else (some (S.1 75 3, (uI S 75 0 0)))
set_option maxHeartbeats 4000000 in
set_option maxRecDepth 100000 in
theorem f_X11_fault_e (l : Launch) (g : im_G) (ad : Nat → Nat) (x1 : Int32) (S : im_S) (r : Int32) (S' : im_S) (hm : f_X11_fault x1 S = some (r, S')) : im_E l g ad 0 yX11_fault cX11_fault 2 (some Jvm.ClassFile.FieldType.int) [.ref (ad 75), .int x1] S (some (.int r)) S' := by
  unfold f_X11_fault at hm
  refine is_met (own := RX11) (by decide +kernel) rfl (Nat.le_of_ble_eq_true rfl) (fun p e s m below meth c X => ?_)
  refine iv_aload_n (pc := 0) X dX11_fault_0 rfl ?_
  refine iv_iconst (pc := 1) X dX11_fault_1 ic_0 ?_
  refine pF_X11_186_75 (pc := 2) X dX11_fault_2 ?_
  refine iv_iload_n (pc := 5) X dX11_fault_5 rfl ?_
  refine iv_if_ne (pc := 6) X dX11_fault_6 (tgt := 16) rfl (fun hb1 => ?_) (fun hb1 => ?_)
  · rw [if_pos hb1] at hm
    refine iv_iload_n (pc := 16) X dX11_fault_16 rfl ?_
    refine iv_iconst (pc := 17) X dX11_fault_17 ic_1 ?_
    refine iv_icmp_ne (pc := 18) X dX11_fault_18 (tgt := 28) rfl (fun hb2 => ?_) (fun hb2 => ?_)
    · rw [if_pos hb2] at hm
      refine iv_iconst (pc := 28) X dX11_fault_28 ic_m1 ?_
      cases hm
      exact is_iret (pc := 29) X dX11_fault_29
    · rw [if_neg hb2] at hm
      refine iv_aload_n (pc := 21) X dX11_fault_21 rfl ?_
      refine gF_X11_234_75 (pc := 22) X dX11_fault_22 (x := S.1 75 4) rfl ?_
      refine iv_goto (pc := 25) X dX11_fault_25 (tgt := 29) rfl ?_
      cases hm
      exact is_iret (pc := 29) X dX11_fault_29
  · rw [if_neg hb1] at hm
    refine iv_aload_n (pc := 9) X dX11_fault_9 rfl ?_
    refine gF_X11_228_75 (pc := 10) X dX11_fault_10 (x := S.1 75 3) rfl ?_
    refine iv_goto (pc := 13) X dX11_fault_13 (tgt := 29) rfl ?_
    cases hm
    exact is_iret (pc := 29) X dX11_fault_29
def f_X11_enter_L79 (fu : Nat) : Nat → Int32 → Int32 → Int32 → Int32 → Int32 → Int32 → im_S → Option (Int32 × im_S)
  | 0, _, _, _, _, _, _, _ => none
  | nf + 1, z1, z2, z3, z4, z5, z6, S => gd (in_b z1 640) (if ((S.1 75 64) + ((S.1 106) z1.toNatClampNeg) : Int32) ≤ z6 then (gd (in_b z1 640) (some (z5, (uI S 75 64 ((S.1 75 64) + ((S.1 106) z1.toNatClampNeg)))))) else (gd (in_b z6 520000) (gd (in_b z6 520000) (f_X11_enter_L79 fu nf z1 z2 z3 z4 z5 (z6 + 1) (uI (uI S 126 z6.toNatClampNeg 0) 128 z6.toNatClampNeg (-1))))))
set_option maxHeartbeats 4000000 in
set_option maxRecDepth 100000 in
theorem f_X11_enter_L79_w {fu : Nat} (l : Launch) (g : im_G) (ad : Nat → Nat) {p : Program} {e : Env} {s : State} {m : MethodId} {below : List Frame} {meth : Method} {c : Code} {args : Array Value} (X : im_X p l s m args meth c g cX11_enter 7 RX11 (some Jvm.ClassFile.FieldType.int)) : ∀ (nf : Nat) (z1 : Int32) (z2 : Int32) (z3 : Int32) (z4 : Int32) (z5 : Int32) (z6 : Int32) (S : im_S) (r : Int32) (S' : im_S), f_X11_enter_L79 fu nf z1 z2 z3 z4 z5 z6 S = some (r, S') → im_V p l e (im_R 0 0 0) s m args below meth c g 7 (im_Z below g ad args s (some (.int r)) S') ad im_N (im_cn g ad S) 0 0 79 [(0, .ref (ad 75)), (1, .int z1), (2, .int z2), (3, .int z3), (4, .int z4), (5, .int z5), (6, .int z6)] [] := by
  intro nf
  induction nf with
  | zero =>
    intro z1 z2 z3 z4 z5 z6 S r S' hm
    cases hm
  | succ nf ih =>
    intro z1 z2 z3 z4 z5 z6 S r S' hm
    unfold f_X11_enter_L79 at hm
    refine iv_iload (pc := 79) X dX11_enter_79 rfl ?_
    refine iv_aload_n (pc := 81) X dX11_enter_81 rfl ?_
    refine gF_X11_413_75 (pc := 82) X dX11_enter_82 (x := S.1 75 64) rfl ?_
    refine iv_aload_n (pc := 85) X dX11_enter_85 rfl ?_
    refine gF_X11_101_75 (pc := 86) X dX11_enter_86 ?_
    refine iv_iload_n (pc := 89) X dX11_enter_89 rfl ?_
    obtain ⟨hg, hm⟩ := gd_some hm
    refine aL_106 (pc := 90) X dX11_enter_90 hg (x := (S.1 106) z1.toNatClampNeg) rfl ?_
    refine iv_iadd (pc := 91) X dX11_enter_91 ?_
    refine iv_icmp_ge (pc := 92) X dX11_enter_92 (tgt := 117) rfl (fun hb1 => ?_) (fun hb1 => ?_)
    · rw [if_pos hb1] at hm
      refine iv_aload_n (pc := 117) X dX11_enter_117 rfl ?_
      refine iv_dup (pc := 118) X dX11_enter_118 rfl ?_
      refine gF_X11_413_75 (pc := 119) X dX11_enter_119 (x := S.1 75 64) rfl ?_
      refine iv_aload_n (pc := 122) X dX11_enter_122 rfl ?_
      refine gF_X11_101_75 (pc := 123) X dX11_enter_123 ?_
      refine iv_iload_n (pc := 126) X dX11_enter_126 rfl ?_
      obtain ⟨hg, hm⟩ := gd_some hm
      refine aL_106 (pc := 127) X dX11_enter_127 hg (x := (S.1 106) z1.toNatClampNeg) rfl ?_
      refine iv_iadd (pc := 128) X dX11_enter_128 ?_
      refine pF_X11_413_75 (pc := 129) X dX11_enter_129 ?_
      refine iv_iload (pc := 132) X dX11_enter_132 rfl ?_
      cases hm
      exact is_iret (pc := 134) X dX11_enter_134
    · rw [if_neg hb1] at hm
      refine iv_aload_n (pc := 95) X dX11_enter_95 rfl ?_
      refine gF_X11_162_75 (pc := 96) X dX11_enter_96 ?_
      refine iv_iload (pc := 99) X dX11_enter_99 rfl ?_
      refine iv_iconst (pc := 101) X dX11_enter_101 ic_0 ?_
      obtain ⟨hg, hm⟩ := gd_some hm
      refine aS_126 (pc := 102) X dX11_enter_102 hg ?_
      refine iv_aload_n (pc := 103) X dX11_enter_103 rfl ?_
      refine gF_X11_168_75 (pc := 104) X dX11_enter_104 ?_
      refine iv_iload (pc := 107) X dX11_enter_107 rfl ?_
      refine iv_iconst (pc := 109) X dX11_enter_109 ic_m1 ?_
      obtain ⟨hg, hm⟩ := gd_some hm
      refine aS_128 (pc := 110) X dX11_enter_110 hg ?_
      refine iv_iinc (pc := 111) X dX11_enter_111 rfl (by decide) (v := z6 + 1) rfl (lv' := [(6, .int (z6 + 1)), (0, .ref (ad 75)), (1, .int z1), (2, .int z2), (3, .int z3), (4, .int z4), (5, .int z5)]) rfl ?_
      refine iv_goto (pc := 114) X dX11_enter_114 (tgt := 79) rfl ?_
      refine iv_sub [1, 2, 3, 4, 5, 6, 0] (lv2 := [(0, .ref (ad 75)), (1, .int z1), (2, .int z2), (3, .int z3), (4, .int z4), (5, .int z5), (6, .int (z6 + 1))]) rfl ?_
      exact ih z1 z2 z3 z4 z5 (z6 + 1) (uI (uI S 126 z6.toNatClampNeg 0) 128 z6.toNatClampNeg (-1)) _ _ hm
def f_X11_enter (fu : Nat) (x1 : Int32) (x2 : Int32) (x3 : Int32) (x4 : Int32) (S : im_S) : Option (Int32 × im_S) := gd (in_b (S.1 75 57) 24000) (gd (in_b (S.1 75 57) 24000) (gd (in_b (S.1 75 57) 24000) (gd (in_b x1 640) (gd (in_b (S.1 75 57) 24000) (gd (in_b (S.1 75 57) 24000) (gd (in_b (S.1 75 57) 24000) (f_X11_enter_L79 fu fu x1 x2 x3 x4 (S.1 75 57) (S.1 75 64) (uI (uI (uI (uI (uI (uI (uI S 75 57 ((S.1 75 57) + 1)) 120 ((S.1 75 57).toNatClampNeg) x1) 121 ((S.1 75 57).toNatClampNeg) x2) 122 ((S.1 75 57).toNatClampNeg) (S.1 75 64)) 123 ((S.1 75 57).toNatClampNeg) ((S.1 106) x1.toNatClampNeg)) 124 ((S.1 75 57).toNatClampNeg) x3) 125 ((S.1 75 57).toNatClampNeg) x4))))))))
set_option maxHeartbeats 4000000 in
set_option maxRecDepth 100000 in
theorem f_X11_enter_e (l : Launch) (g : im_G) (ad : Nat → Nat) (fu : Nat) (x1 : Int32) (x2 : Int32) (x3 : Int32) (x4 : Int32) (S : im_S) (r : Int32) (S' : im_S) (hm : f_X11_enter fu x1 x2 x3 x4 S = some (r, S')) : im_E l g ad 0 yX11_enter cX11_enter 7 (some Jvm.ClassFile.FieldType.int) [.ref (ad 75), .int x1, .int x2, .int x3, .int x4] S (some (.int r)) S' := by
  unfold f_X11_enter at hm
  refine is_met (own := RX11) (by decide +kernel) rfl (Nat.le_of_ble_eq_true rfl) (fun p e s m below meth c X => ?_)
  refine iv_aload_n (pc := 0) X dX11_enter_0 rfl ?_
  refine gF_X11_410_75 (pc := 1) X dX11_enter_1 (x := S.1 75 57) rfl ?_
  refine iv_istore (pc := 4) X dX11_enter_4 (by decide) (lv' := [(5, .int (S.1 75 57)), (0, .ref (ad 75)), (1, .int x1), (2, .int x2), (3, .int x3), (4, .int x4)]) rfl ?_
  refine iv_aload_n (pc := 6) X dX11_enter_6 rfl ?_
  refine iv_dup (pc := 7) X dX11_enter_7 rfl ?_
  refine gF_X11_410_75 (pc := 8) X dX11_enter_8 (x := S.1 75 57) rfl ?_
  refine iv_iconst (pc := 11) X dX11_enter_11 ic_1 ?_
  refine iv_iadd (pc := 12) X dX11_enter_12 ?_
  refine pF_X11_410_75 (pc := 13) X dX11_enter_13 ?_
  refine iv_aload_n (pc := 16) X dX11_enter_16 rfl ?_
  refine gF_X11_143_75 (pc := 17) X dX11_enter_17 ?_
  refine iv_iload (pc := 20) X dX11_enter_20 rfl ?_
  refine iv_iload_n (pc := 22) X dX11_enter_22 rfl ?_
  obtain ⟨hg, hm⟩ := gd_some hm
  refine aS_120 (pc := 23) X dX11_enter_23 hg ?_
  refine iv_aload_n (pc := 24) X dX11_enter_24 rfl ?_
  refine gF_X11_146_75 (pc := 25) X dX11_enter_25 ?_
  refine iv_iload (pc := 28) X dX11_enter_28 rfl ?_
  refine iv_iload_n (pc := 30) X dX11_enter_30 rfl ?_
  obtain ⟨hg, hm⟩ := gd_some hm
  refine aS_121 (pc := 31) X dX11_enter_31 hg ?_
  refine iv_aload_n (pc := 32) X dX11_enter_32 rfl ?_
  refine gF_X11_149_75 (pc := 33) X dX11_enter_33 ?_
  refine iv_iload (pc := 36) X dX11_enter_36 rfl ?_
  refine iv_aload_n (pc := 38) X dX11_enter_38 rfl ?_
  refine gF_X11_413_75 (pc := 39) X dX11_enter_39 (x := S.1 75 64) rfl ?_
  obtain ⟨hg, hm⟩ := gd_some hm
  refine aS_122 (pc := 42) X dX11_enter_42 hg ?_
  refine iv_aload_n (pc := 43) X dX11_enter_43 rfl ?_
  refine gF_X11_152_75 (pc := 44) X dX11_enter_44 ?_
  refine iv_iload (pc := 47) X dX11_enter_47 rfl ?_
  refine iv_aload_n (pc := 49) X dX11_enter_49 rfl ?_
  refine gF_X11_101_75 (pc := 50) X dX11_enter_50 ?_
  refine iv_iload_n (pc := 53) X dX11_enter_53 rfl ?_
  obtain ⟨hg, hm⟩ := gd_some hm
  refine aL_106 (pc := 54) X dX11_enter_54 hg (x := (S.1 106) x1.toNatClampNeg) rfl ?_
  obtain ⟨hg, hm⟩ := gd_some hm
  refine aS_123 (pc := 55) X dX11_enter_55 hg ?_
  refine iv_aload_n (pc := 56) X dX11_enter_56 rfl ?_
  refine gF_X11_155_75 (pc := 57) X dX11_enter_57 ?_
  refine iv_iload (pc := 60) X dX11_enter_60 rfl ?_
  refine iv_iload_n (pc := 62) X dX11_enter_62 rfl ?_
  obtain ⟨hg, hm⟩ := gd_some hm
  refine aS_124 (pc := 63) X dX11_enter_63 hg ?_
  refine iv_aload_n (pc := 64) X dX11_enter_64 rfl ?_
  refine gF_X11_158_75 (pc := 65) X dX11_enter_65 ?_
  refine iv_iload (pc := 68) X dX11_enter_68 rfl ?_
  refine iv_iload (pc := 70) X dX11_enter_70 rfl ?_
  obtain ⟨hg, hm⟩ := gd_some hm
  refine aS_125 (pc := 72) X dX11_enter_72 hg ?_
  refine iv_aload_n (pc := 73) X dX11_enter_73 rfl ?_
  refine gF_X11_413_75 (pc := 74) X dX11_enter_74 (x := S.1 75 64) rfl ?_
  refine iv_istore (pc := 77) X dX11_enter_77 (by decide) (lv' := [(6, .int (S.1 75 64)), (5, .int (S.1 75 57)), (0, .ref (ad 75)), (1, .int x1), (2, .int x2), (3, .int x3), (4, .int x4)]) rfl ?_
  refine iv_sub [2, 3, 4, 5, 6, 1, 0] (lv2 := [(0, .ref (ad 75)), (1, .int x1), (2, .int x2), (3, .int x3), (4, .int x4), (5, .int (S.1 75 57)), (6, .int (S.1 75 64))]) rfl ?_
  exact f_X11_enter_L79_w (fu := fu) l g ad X fu x1 x2 x3 x4 (S.1 75 57) (S.1 75 64) (uI (uI (uI (uI (uI (uI (uI S 75 57 ((S.1 75 57) + 1)) 120 ((S.1 75 57).toNatClampNeg) x1) 121 ((S.1 75 57).toNatClampNeg) x2) 122 ((S.1 75 57).toNatClampNeg) (S.1 75 64)) 123 ((S.1 75 57).toNatClampNeg) ((S.1 106) x1.toNatClampNeg)) 124 ((S.1 75 57).toNatClampNeg) x3) 125 ((S.1 75 57).toNatClampNeg) x4) _ _ hm
def f_X11_slot (x1 : Int32) (x2 : Int32) (S : im_S) : Option (Int32 × im_S) := gd (in_b x1 24000) (gd (in_b x2 1200) (some (((S.1 122) x1.toNatClampNeg) + ((S.1 104) x2.toNatClampNeg), S)))
set_option maxHeartbeats 4000000 in
set_option maxRecDepth 100000 in
theorem f_X11_slot_e (l : Launch) (g : im_G) (ad : Nat → Nat) (x1 : Int32) (x2 : Int32) (S : im_S) (r : Int32) (S' : im_S) (hm : f_X11_slot x1 x2 S = some (r, S')) : im_E l g ad 0 yX11_slot cX11_slot 3 (some Jvm.ClassFile.FieldType.int) [.ref (ad 75), .int x1, .int x2] S (some (.int r)) S' := by
  unfold f_X11_slot at hm
  refine is_met (own := RX11) (by decide +kernel) rfl (Nat.le_of_ble_eq_true rfl) (fun p e s m below meth c X => ?_)
  refine iv_aload_n (pc := 0) X dX11_slot_0 rfl ?_
  refine gF_X11_149_75 (pc := 1) X dX11_slot_1 ?_
  refine iv_iload_n (pc := 4) X dX11_slot_4 rfl ?_
  obtain ⟨hg, hm⟩ := gd_some hm
  refine aL_122 (pc := 5) X dX11_slot_5 hg (x := (S.1 122) x1.toNatClampNeg) rfl ?_
  refine iv_aload_n (pc := 6) X dX11_slot_6 rfl ?_
  refine gF_X11_95_75 (pc := 7) X dX11_slot_7 ?_
  refine iv_iload_n (pc := 10) X dX11_slot_10 rfl ?_
  obtain ⟨hg, hm⟩ := gd_some hm
  refine aL_104 (pc := 11) X dX11_slot_11 hg (x := (S.1 104) x2.toNatClampNeg) rfl ?_
  refine iv_iadd (pc := 12) X dX11_slot_12 ?_
  cases hm
  exact is_iret (pc := 13) X dX11_slot_13
def f_X11_foundAt (x1 : Int32) (S : im_S) : Option (Unit × im_S) := gd (in_b x1 520000) (gd (in_b x1 520000) (some ((), (uJ (uI S 75 81 ((S.1 126) x1.toNatClampNeg)) 75 82 ((S.2.1 127) x1.toNatClampNeg)))))
set_option maxHeartbeats 4000000 in
set_option maxRecDepth 100000 in
theorem f_X11_foundAt_e (l : Launch) (g : im_G) (ad : Nat → Nat) (x1 : Int32) (S : im_S) (r : Unit) (S' : im_S) (hm : f_X11_foundAt x1 S = some (r, S')) : im_E l g ad 0 yX11_foundAt cX11_foundAt 2 none [.ref (ad 75), .int x1] S none S' := by
  unfold f_X11_foundAt at hm
  refine is_met (own := RX11) (by decide +kernel) rfl (Nat.le_of_ble_eq_true rfl) (fun p e s m below meth c X => ?_)
  refine iv_aload_n (pc := 0) X dX11_foundAt_0 rfl ?_
  refine iv_aload_n (pc := 1) X dX11_foundAt_1 rfl ?_
  refine gF_X11_162_75 (pc := 2) X dX11_foundAt_2 ?_
  refine iv_iload_n (pc := 5) X dX11_foundAt_5 rfl ?_
  obtain ⟨hg, hm⟩ := gd_some hm
  refine aL_126 (pc := 6) X dX11_foundAt_6 hg (x := (S.1 126) x1.toNatClampNeg) rfl ?_
  refine pF_X11_416_75 (pc := 7) X dX11_foundAt_7 ?_
  refine iv_aload_n (pc := 10) X dX11_foundAt_10 rfl ?_
  refine iv_aload_n (pc := 11) X dX11_foundAt_11 rfl ?_
  refine gF_X11_165_75 (pc := 12) X dX11_foundAt_12 ?_
  refine iv_iload_n (pc := 15) X dX11_foundAt_15 rfl ?_
  obtain ⟨hg, hm⟩ := gd_some hm
  refine aL_127 (pc := 16) X dX11_foundAt_16 hg (x := (S.2.1 127) x1.toNatClampNeg) rfl ?_
  refine pF_X11_419_75 (pc := 17) X dX11_foundAt_17 ?_
  cases hm
  exact is_vret (pc := 20) X dX11_foundAt_20
def f_X11_around_L2 (fu : Nat) : Nat → Int32 → Int32 → Int32 → im_S → Option (Int32 × im_S)
  | 0, _, _, _, _ => none
  | nf + 1, z1, z2, z3, S => gd (in_b z3 24000) (if ((S.1 120) z3.toNatClampNeg : Int32) = z2 then (some (z3, S)) else (gd (in_b z3 24000) (f_X11_around_L2 fu nf z1 z2 ((S.1 121) z3.toNatClampNeg) S)))
set_option maxHeartbeats 4000000 in
set_option maxRecDepth 100000 in
theorem f_X11_around_L2_w {fu : Nat} (l : Launch) (g : im_G) (ad : Nat → Nat) {p : Program} {e : Env} {s : State} {m : MethodId} {below : List Frame} {meth : Method} {c : Code} {args : Array Value} (X : im_X p l s m args meth c g cX11_around 4 RX11 (some Jvm.ClassFile.FieldType.int)) : ∀ (nf : Nat) (z1 : Int32) (z2 : Int32) (z3 : Int32) (S : im_S) (r : Int32) (S' : im_S), f_X11_around_L2 fu nf z1 z2 z3 S = some (r, S') → im_V p l e (im_R 0 0 0) s m args below meth c g 4 (im_Z below g ad args s (some (.int r)) S') ad im_N (im_cn g ad S) 0 0 2 [(0, .ref (ad 75)), (1, .int z1), (2, .int z2), (3, .int z3)] [] := by
  intro nf
  induction nf with
  | zero =>
    intro z1 z2 z3 S r S' hm
    cases hm
  | succ nf ih =>
    intro z1 z2 z3 S r S' hm
    unfold f_X11_around_L2 at hm
    refine iv_aload_n (pc := 2) X dX11_around_2 rfl ?_
    refine gF_X11_143_75 (pc := 3) X dX11_around_3 ?_
    refine iv_iload_n (pc := 6) X dX11_around_6 rfl ?_
    obtain ⟨hg, hm⟩ := gd_some hm
    refine aL_120 (pc := 7) X dX11_around_7 hg (x := (S.1 120) z3.toNatClampNeg) rfl ?_
    refine iv_iload_n (pc := 8) X dX11_around_8 rfl ?_
    refine iv_icmp_eq (pc := 9) X dX11_around_9 (tgt := 22) rfl (fun hb1 => ?_) (fun hb1 => ?_)
    · rw [if_pos hb1] at hm
      refine iv_iload_n (pc := 22) X dX11_around_22 rfl ?_
      cases hm
      exact is_iret (pc := 23) X dX11_around_23
    · rw [if_neg hb1] at hm
      refine iv_aload_n (pc := 12) X dX11_around_12 rfl ?_
      refine gF_X11_146_75 (pc := 13) X dX11_around_13 ?_
      refine iv_iload_n (pc := 16) X dX11_around_16 rfl ?_
      obtain ⟨hg, hm⟩ := gd_some hm
      refine aL_121 (pc := 17) X dX11_around_17 hg (x := (S.1 121) z3.toNatClampNeg) rfl ?_
      refine iv_istore_n (pc := 18) X dX11_around_18 (by decide) (lv' := [(3, .int ((S.1 121) z3.toNatClampNeg)), (0, .ref (ad 75)), (1, .int z1), (2, .int z2)]) rfl ?_
      refine iv_goto (pc := 19) X dX11_around_19 (tgt := 2) rfl ?_
      refine iv_sub [1, 2, 3, 0] (lv2 := [(0, .ref (ad 75)), (1, .int z1), (2, .int z2), (3, .int ((S.1 121) z3.toNatClampNeg))]) rfl ?_
      exact ih z1 z2 ((S.1 121) z3.toNatClampNeg) S _ _ hm
def f_X11_around (fu : Nat) (x1 : Int32) (x2 : Int32) (S : im_S) : Option (Int32 × im_S) := f_X11_around_L2 fu fu x1 x2 x1 S
set_option maxHeartbeats 4000000 in
set_option maxRecDepth 100000 in
theorem f_X11_around_e (l : Launch) (g : im_G) (ad : Nat → Nat) (fu : Nat) (x1 : Int32) (x2 : Int32) (S : im_S) (r : Int32) (S' : im_S) (hm : f_X11_around fu x1 x2 S = some (r, S')) : im_E l g ad 0 yX11_around cX11_around 4 (some Jvm.ClassFile.FieldType.int) [.ref (ad 75), .int x1, .int x2] S (some (.int r)) S' := by
  unfold f_X11_around at hm
  refine is_met (own := RX11) (by decide +kernel) rfl (Nat.le_of_ble_eq_true rfl) (fun p e s m below meth c X => ?_)
  refine iv_iload_n (pc := 0) X dX11_around_0 rfl ?_
  refine iv_istore_n (pc := 1) X dX11_around_1 (by decide) (lv' := [(3, .int x1), (0, .ref (ad 75)), (1, .int x1), (2, .int x2)]) rfl ?_
  refine iv_sub [1, 2, 3, 0] (lv2 := [(0, .ref (ad 75)), (1, .int x1), (2, .int x2), (3, .int x1)]) rfl ?_
  exact f_X11_around_L2_w (fu := fu) l g ad X fu x1 x2 x1 S _ _ hm
def f_X11_loopName_L17 (fu : Nat) (K3 : Int32 → Int32 → Int32 → Int32 → im_S → Option (Unit × im_S)) : Nat → Int32 → Int32 → Int32 → Int32 → Int32 → im_S → Option (Unit × im_S)
  | 0, _, _, _, _, _, _ => none
  | nf + 1, z1, z2, z3, z4, z5, S => gd (in_b z2 1200) (if ((S.1 92) z2.toNatClampNeg : Int32) ≤ z5 then (gd (in_b z4 24000) (K3 z1 z2 z3 ((S.1 124) z4.toNatClampNeg) S)) else (gd (in_b z2 1200) (gd (in_b (((S.1 91) z2.toNatClampNeg) + z5) 1200) ((f_X11_partOf fu z2 ((S.2.1 93) ((((S.1 91) z2.toNatClampNeg) + z5).toNatClampNeg)) S).bind (fun qS2 => if (qS2.1 : Int32) = z3 then (gd (in_b z4 24000) (gd (in_b z2 1200) (gd (in_b (((qS2.2.1 91) z2.toNatClampNeg) + z5) 1200) ((f_X11_slot ((qS2.2.1 125) z4.toNatClampNeg) ((qS2.2.1 95) ((((qS2.2.1 91) z2.toNatClampNeg) + z5).toNatClampNeg)) qS2.2).bind (fun qS6 => (f_X11_foundAt qS6.1 qS6.2).bind (fun qS9 => some ((), qS9.2))))))) else (f_X11_loopName_L17 fu K3 nf z1 z2 z3 z4 (z5 + 1) qS2.2))))))
set_option maxHeartbeats 4000000 in
set_option maxRecDepth 100000 in
theorem f_X11_loopName_L17_w {fu : Nat} (l : Launch) (g : im_G) (ad : Nat → Nat) {p : Program} {e : Env} {s : State} {m : MethodId} {below : List Frame} {meth : Method} {c : Code} {args : Array Value} (X : im_X p l s m args meth c g cX11_loopName 6 RX11 none) (K3 : Int32 → Int32 → Int32 → Int32 → im_S → Option (Unit × im_S)) (hK3 : ∀ (z1 : Int32) (z2 : Int32) (z3 : Int32) (z4 : Int32) (S : im_S) (r : Unit) (S' : im_S), K3 z1 z2 z3 z4 S = some (r, S') → im_V p l e (im_R 1 0 0) s m args below meth c g 6 (im_Z below g ad args s none S') ad im_N (im_cn g ad S) 0 0 3 [(0, .ref (ad 75)), (1, .int z1), (2, .int z2), (3, .int z3), (4, .int z4)] []) : ∀ (nf : Nat) (z1 : Int32) (z2 : Int32) (z3 : Int32) (z4 : Int32) (z5 : Int32) (S : im_S) (r : Unit) (S' : im_S), f_X11_loopName_L17 fu K3 nf z1 z2 z3 z4 z5 S = some (r, S') → im_V p l e (im_R 1 0 0) s m args below meth c g 6 (im_Z below g ad args s none S') ad im_N (im_cn g ad S) 0 0 17 [(0, .ref (ad 75)), (1, .int z1), (2, .int z2), (3, .int z3), (4, .int z4), (5, .int z5)] [] := by
  intro nf
  induction nf with
  | zero =>
    intro z1 z2 z3 z4 z5 S r S' hm
    cases hm
  | succ nf ih =>
    intro z1 z2 z3 z4 z5 S r S' hm
    unfold f_X11_loopName_L17 at hm
    refine iv_iload (pc := 17) X dX11_loopName_17 rfl ?_
    refine iv_aload_n (pc := 19) X dX11_loopName_19 rfl ?_
    refine gF_X11_59_75 (pc := 20) X dX11_loopName_20 ?_
    refine iv_iload_n (pc := 23) X dX11_loopName_23 rfl ?_
    obtain ⟨hg, hm⟩ := gd_some hm
    refine aL_92 (pc := 24) X dX11_loopName_24 hg (x := (S.1 92) z2.toNatClampNeg) rfl ?_
    refine iv_icmp_ge (pc := 25) X dX11_loopName_25 (tgt := 90) rfl (fun hb1 => ?_) (fun hb1 => ?_)
    · rw [if_pos hb1] at hm
      refine iv_aload_n (pc := 90) X dX11_loopName_90 rfl ?_
      refine gF_X11_155_75 (pc := 91) X dX11_loopName_91 ?_
      refine iv_iload (pc := 94) X dX11_loopName_94 rfl ?_
      obtain ⟨hg, hm⟩ := gd_some hm
      refine aL_124 (pc := 96) X dX11_loopName_96 hg (x := (S.1 124) z4.toNatClampNeg) rfl ?_
      refine iv_istore (pc := 97) X dX11_loopName_97 (by decide) (lv' := [(4, .int ((S.1 124) z4.toNatClampNeg)), (0, .ref (ad 75)), (1, .int z1), (2, .int z2), (3, .int z3), (5, .int z5)]) rfl ?_
      refine iv_goto (pc := 99) X dX11_loopName_99 (tgt := 3) rfl ?_
      refine iv_sub [1, 2, 3, 4, 0] (lv2 := [(0, .ref (ad 75)), (1, .int z1), (2, .int z2), (3, .int z3), (4, .int ((S.1 124) z4.toNatClampNeg))]) rfl ?_
      exact hK3 z1 z2 z3 ((S.1 124) z4.toNatClampNeg) S _ _ hm
    · rw [if_neg hb1] at hm
      refine iv_aload_n (pc := 28) X dX11_loopName_28 rfl ?_
      refine iv_iload_n (pc := 29) X dX11_loopName_29 rfl ?_
      refine iv_aload_n (pc := 30) X dX11_loopName_30 rfl ?_
      refine gF_X11_62_75 (pc := 31) X dX11_loopName_31 ?_
      refine iv_aload_n (pc := 34) X dX11_loopName_34 rfl ?_
      refine gF_X11_56_75 (pc := 35) X dX11_loopName_35 ?_
      refine iv_iload_n (pc := 38) X dX11_loopName_38 rfl ?_
      obtain ⟨hg, hm⟩ := gd_some hm
      refine aL_91 (pc := 39) X dX11_loopName_39 hg (x := (S.1 91) z2.toNatClampNeg) rfl ?_
      refine iv_iload (pc := 40) X dX11_loopName_40 rfl ?_
      refine iv_iadd (pc := 42) X dX11_loopName_42 ?_
      obtain ⟨hg, hm⟩ := gd_some hm
      refine aL_93 (pc := 43) X dX11_loopName_43 hg (x := (S.2.1 93) ((((S.1 91) z2.toNatClampNeg) + z5).toNatClampNeg)) rfl ?_
      obtain ⟨⟨r3, S2⟩, hc4, hm⟩ := bd_some hm
      refine cV_X11_372_75 (pc := 44) X [.int z2, .long ((S.2.1 93) ((((S.1 91) z2.toNatClampNeg) + z5).toNatClampNeg))] [] 2 rfl (f_X11_partOf_e l g ad fu z2 ((S.2.1 93) ((((S.1 91) z2.toNatClampNeg) + z5).toNatClampNeg)) S _ _ hc4) (by decide) (by decide) (Nat.le_of_ble_eq_true rfl) rfl dX11_loopName_44 ?_
      refine iv_iload_n (pc := 47) X dX11_loopName_47 rfl ?_
      refine iv_icmp_eq (pc := 48) X dX11_loopName_48 (tgt := 54) rfl (fun hb5 => ?_) (fun hb5 => ?_)
      · rw [if_pos hb5] at hm
        refine iv_aload_n (pc := 54) X dX11_loopName_54 rfl ?_
        refine iv_aload_n (pc := 55) X dX11_loopName_55 rfl ?_
        refine iv_aload_n (pc := 56) X dX11_loopName_56 rfl ?_
        refine gF_X11_158_75 (pc := 57) X dX11_loopName_57 ?_
        refine iv_iload (pc := 60) X dX11_loopName_60 rfl ?_
        obtain ⟨hg, hm⟩ := gd_some hm
        refine aL_125 (pc := 62) X dX11_loopName_62 hg (x := (S2.1 125) z4.toNatClampNeg) rfl ?_
        refine iv_aload_n (pc := 63) X dX11_loopName_63 rfl ?_
        refine gF_X11_68_75 (pc := 64) X dX11_loopName_64 ?_
        refine iv_aload_n (pc := 67) X dX11_loopName_67 rfl ?_
        refine gF_X11_56_75 (pc := 68) X dX11_loopName_68 ?_
        refine iv_iload_n (pc := 71) X dX11_loopName_71 rfl ?_
        obtain ⟨hg, hm⟩ := gd_some hm
        refine aL_91 (pc := 72) X dX11_loopName_72 hg (x := (S2.1 91) z2.toNatClampNeg) rfl ?_
        refine iv_iload (pc := 73) X dX11_loopName_73 rfl ?_
        refine iv_iadd (pc := 75) X dX11_loopName_75 ?_
        obtain ⟨hg, hm⟩ := gd_some hm
        refine aL_95 (pc := 76) X dX11_loopName_76 hg (x := (S2.1 95) ((((S2.1 91) z2.toNatClampNeg) + z5).toNatClampNeg)) rfl ?_
        obtain ⟨⟨r7, S6⟩, hc8, hm⟩ := bd_some hm
        refine cV_X11_426_75 (pc := 77) X [.int ((S2.1 125) z4.toNatClampNeg), .int ((S2.1 95) ((((S2.1 91) z2.toNatClampNeg) + z5).toNatClampNeg))] [.ref (ad 75)] 2 rfl (f_X11_slot_e l g ad ((S2.1 125) z4.toNatClampNeg) ((S2.1 95) ((((S2.1 91) z2.toNatClampNeg) + z5).toNatClampNeg)) S2 _ _ hc8) (by decide) (by decide) (Nat.le_of_ble_eq_true rfl) rfl dX11_loopName_77 ?_
        obtain ⟨⟨r10, S9⟩, hc11, hm⟩ := bd_some hm
        refine cV_X11_429_75 (pc := 80) X [.int r7] [] 1 rfl (f_X11_foundAt_e l g ad r7 S6 _ _ hc11) (by decide) (by decide) (Nat.le_of_ble_eq_true rfl) rfl dX11_loopName_80 ?_
        cases hm
        exact is_vret (pc := 83) X dX11_loopName_83
      · rw [if_neg hb5] at hm
        refine iv_goto (pc := 51) X dX11_loopName_51 (tgt := 84) rfl ?_
        refine iv_iinc (pc := 84) X dX11_loopName_84 rfl (by decide) (v := z5 + 1) rfl (lv' := [(5, .int (z5 + 1)), (0, .ref (ad 75)), (1, .int z1), (2, .int z2), (3, .int z3), (4, .int z4)]) rfl ?_
        refine iv_goto (pc := 87) X dX11_loopName_87 (tgt := 17) rfl ?_
        refine iv_sub [1, 2, 3, 4, 5, 0] (lv2 := [(0, .ref (ad 75)), (1, .int z1), (2, .int z2), (3, .int z3), (4, .int z4), (5, .int (z5 + 1))]) rfl ?_
        exact ih z1 z2 z3 z4 (z5 + 1) S2 _ _ hm
def f_X11_loopName_L3 (fu : Nat) : Nat → Int32 → Int32 → Int32 → Int32 → im_S → Option (Unit × im_S)
  | 0, _, _, _, _, _ => none
  | nf + 1, z1, z2, z3, z4, S => gd (in_b z4 24000) (if ((S.1 124) z4.toNatClampNeg : Int32) = (-1) then (gd (in_b z4 24000) (gd (in_b z2 1200) (gd (in_b (((S.1 89) z2.toNatClampNeg) + z3) 1200) ((f_X11_slot ((S.1 121) z4.toNatClampNeg) ((S.1 95) ((((S.1 89) z2.toNatClampNeg) + z3).toNatClampNeg)) S).bind (fun qS2 => (f_X11_foundAt qS2.1 qS2.2).bind (fun qS5 => some ((), qS5.2))))))) else (f_X11_loopName_L17 fu (f_X11_loopName_L3 fu nf) fu z1 z2 z3 z4 0 S))
set_option maxHeartbeats 4000000 in
set_option maxRecDepth 100000 in
theorem f_X11_loopName_L3_w {fu : Nat} (l : Launch) (g : im_G) (ad : Nat → Nat) {p : Program} {e : Env} {s : State} {m : MethodId} {below : List Frame} {meth : Method} {c : Code} {args : Array Value} (X : im_X p l s m args meth c g cX11_loopName 6 RX11 none) : ∀ (nf : Nat) (z1 : Int32) (z2 : Int32) (z3 : Int32) (z4 : Int32) (S : im_S) (r : Unit) (S' : im_S), f_X11_loopName_L3 fu nf z1 z2 z3 z4 S = some (r, S') → im_V p l e (im_R 1 0 0) s m args below meth c g 6 (im_Z below g ad args s none S') ad im_N (im_cn g ad S) 0 0 3 [(0, .ref (ad 75)), (1, .int z1), (2, .int z2), (3, .int z3), (4, .int z4)] [] := by
  intro nf
  induction nf with
  | zero =>
    intro z1 z2 z3 z4 S r S' hm
    cases hm
  | succ nf ih =>
    intro z1 z2 z3 z4 S r S' hm
    unfold f_X11_loopName_L3 at hm
    refine iv_aload_n (pc := 3) X dX11_loopName_3 rfl ?_
    refine gF_X11_155_75 (pc := 4) X dX11_loopName_4 ?_
    refine iv_iload (pc := 7) X dX11_loopName_7 rfl ?_
    obtain ⟨hg, hm⟩ := gd_some hm
    refine aL_124 (pc := 9) X dX11_loopName_9 hg (x := (S.1 124) z4.toNatClampNeg) rfl ?_
    refine iv_iconst (pc := 10) X dX11_loopName_10 ic_m1 ?_
    refine iv_icmp_eq (pc := 11) X dX11_loopName_11 (tgt := 102) rfl (fun hb1 => ?_) (fun hb1 => ?_)
    · rw [if_pos hb1] at hm
      refine iv_aload_n (pc := 102) X dX11_loopName_102 rfl ?_
      refine iv_aload_n (pc := 103) X dX11_loopName_103 rfl ?_
      refine iv_aload_n (pc := 104) X dX11_loopName_104 rfl ?_
      refine gF_X11_146_75 (pc := 105) X dX11_loopName_105 ?_
      refine iv_iload (pc := 108) X dX11_loopName_108 rfl ?_
      obtain ⟨hg, hm⟩ := gd_some hm
      refine aL_121 (pc := 110) X dX11_loopName_110 hg (x := (S.1 121) z4.toNatClampNeg) rfl ?_
      refine iv_aload_n (pc := 111) X dX11_loopName_111 rfl ?_
      refine gF_X11_68_75 (pc := 112) X dX11_loopName_112 ?_
      refine iv_aload_n (pc := 115) X dX11_loopName_115 rfl ?_
      refine gF_X11_50_75 (pc := 116) X dX11_loopName_116 ?_
      refine iv_iload_n (pc := 119) X dX11_loopName_119 rfl ?_
      obtain ⟨hg, hm⟩ := gd_some hm
      refine aL_89 (pc := 120) X dX11_loopName_120 hg (x := (S.1 89) z2.toNatClampNeg) rfl ?_
      refine iv_iload_n (pc := 121) X dX11_loopName_121 rfl ?_
      refine iv_iadd (pc := 122) X dX11_loopName_122 ?_
      obtain ⟨hg, hm⟩ := gd_some hm
      refine aL_95 (pc := 123) X dX11_loopName_123 hg (x := (S.1 95) ((((S.1 89) z2.toNatClampNeg) + z3).toNatClampNeg)) rfl ?_
      obtain ⟨⟨r3, S2⟩, hc4, hm⟩ := bd_some hm
      refine cV_X11_426_75 (pc := 124) X [.int ((S.1 121) z4.toNatClampNeg), .int ((S.1 95) ((((S.1 89) z2.toNatClampNeg) + z3).toNatClampNeg))] [.ref (ad 75)] 2 rfl (f_X11_slot_e l g ad ((S.1 121) z4.toNatClampNeg) ((S.1 95) ((((S.1 89) z2.toNatClampNeg) + z3).toNatClampNeg)) S _ _ hc4) (by decide) (by decide) (Nat.le_of_ble_eq_true rfl) rfl dX11_loopName_124 ?_
      obtain ⟨⟨r6, S5⟩, hc7, hm⟩ := bd_some hm
      refine cV_X11_429_75 (pc := 127) X [.int r3] [] 1 rfl (f_X11_foundAt_e l g ad r3 S2 _ _ hc7) (by decide) (by decide) (Nat.le_of_ble_eq_true rfl) rfl dX11_loopName_127 ?_
      cases hm
      exact is_vret (pc := 130) X dX11_loopName_130
    · rw [if_neg hb1] at hm
      refine iv_iconst (pc := 14) X dX11_loopName_14 ic_0 ?_
      refine iv_istore (pc := 15) X dX11_loopName_15 (by decide) (lv' := [(5, .int 0), (0, .ref (ad 75)), (1, .int z1), (2, .int z2), (3, .int z3), (4, .int z4)]) rfl ?_
      refine iv_sub [1, 2, 3, 4, 5, 0] (lv2 := [(0, .ref (ad 75)), (1, .int z1), (2, .int z2), (3, .int z3), (4, .int z4), (5, .int 0)]) rfl ?_
      exact f_X11_loopName_L17_w (fu := fu) l g ad X (f_X11_loopName_L3 fu nf) ih fu z1 z2 z3 z4 0 S _ _ hm
def f_X11_loopName (fu : Nat) (x1 : Int32) (x2 : Int32) (x3 : Int32) (S : im_S) : Option (Unit × im_S) := f_X11_loopName_L3 fu fu x1 x2 x3 x1 S
set_option maxHeartbeats 4000000 in
set_option maxRecDepth 100000 in
theorem f_X11_loopName_e (l : Launch) (g : im_G) (ad : Nat → Nat) (fu : Nat) (x1 : Int32) (x2 : Int32) (x3 : Int32) (S : im_S) (r : Unit) (S' : im_S) (hm : f_X11_loopName fu x1 x2 x3 S = some (r, S')) : im_E l g ad 1 yX11_loopName cX11_loopName 6 none [.ref (ad 75), .int x1, .int x2, .int x3] S none S' := by
  unfold f_X11_loopName at hm
  refine is_met (own := RX11) (by decide +kernel) rfl (Nat.le_of_ble_eq_true rfl) (fun p e s m below meth c X => ?_)
  refine iv_iload_n (pc := 0) X dX11_loopName_0 rfl ?_
  refine iv_istore (pc := 1) X dX11_loopName_1 (by decide) (lv' := [(4, .int x1), (0, .ref (ad 75)), (1, .int x1), (2, .int x2), (3, .int x3)]) rfl ?_
  refine iv_sub [1, 2, 3, 4, 0] (lv2 := [(0, .ref (ad 75)), (1, .int x1), (2, .int x2), (3, .int x3), (4, .int x1)]) rfl ?_
  exact f_X11_loopName_L3_w (fu := fu) l g ad X fu x1 x2 x3 x1 S _ _ hm
def f_X11_give (x1 : Int32) (x2 : Int32) (x3 : Int64) (S : im_S) : Option (Int32 × im_S) := gd (in_b x1 520000) (gd (in_b x1 520000) (some (1, (uJ (uI S 126 x1.toNatClampNeg x2) 127 x1.toNatClampNeg x3))))
set_option maxHeartbeats 4000000 in
set_option maxRecDepth 100000 in
theorem f_X11_give_e (l : Launch) (g : im_G) (ad : Nat → Nat) (x1 : Int32) (x2 : Int32) (x3 : Int64) (S : im_S) (r : Int32) (S' : im_S) (hm : f_X11_give x1 x2 x3 S = some (r, S')) : im_E l g ad 0 yX11_give cX11_give 5 (some Jvm.ClassFile.FieldType.boolean) [.ref (ad 75), .int x1, .int x2, .long x3] S (some (.int r)) S' := by
  unfold f_X11_give at hm
  refine is_met (own := RX11) (by decide +kernel) rfl (Nat.le_of_ble_eq_true rfl) (fun p e s m below meth c X => ?_)
  refine iv_aload_n (pc := 0) X dX11_give_0 rfl ?_
  refine gF_X11_162_75 (pc := 1) X dX11_give_1 ?_
  refine iv_iload_n (pc := 4) X dX11_give_4 rfl ?_
  refine iv_iload_n (pc := 5) X dX11_give_5 rfl ?_
  obtain ⟨hg, hm⟩ := gd_some hm
  refine aS_126 (pc := 6) X dX11_give_6 hg ?_
  refine iv_aload_n (pc := 7) X dX11_give_7 rfl ?_
  refine gF_X11_165_75 (pc := 8) X dX11_give_8 ?_
  refine iv_iload_n (pc := 11) X dX11_give_11 rfl ?_
  refine iv_lload_n (pc := 12) X dX11_give_12 rfl ?_
  obtain ⟨hg, hm⟩ := gd_some hm
  refine aS_127 (pc := 13) X dX11_give_13 hg ?_
  refine iv_iconst (pc := 14) X dX11_give_14 ic_1 ?_
  cases hm
  exact is_zret (pc := 15) X dX11_give_15 rfl
def f_X11_pass (x1 : Int32) (x2 : Int32) (S : im_S) : Option (Int32 × im_S) := gd (in_b x2 520000) (if ((S.1 126) x2.toNatClampNeg : Int32) = 0 then (some (0, S)) else (gd (in_b x2 520000) (gd (in_b x2 520000) ((f_X11_give x1 ((S.1 126) x2.toNatClampNeg) ((S.2.1 127) x2.toNatClampNeg) S).bind (fun qS2 => if (qS2.1 : Int32) = 0 then (some (0, qS2.2)) else (some (1, qS2.2)))))))
set_option maxHeartbeats 4000000 in
set_option maxRecDepth 100000 in
theorem f_X11_pass_e (l : Launch) (g : im_G) (ad : Nat → Nat) (x1 : Int32) (x2 : Int32) (S : im_S) (r : Int32) (S' : im_S) (hm : f_X11_pass x1 x2 S = some (r, S')) : im_E l g ad 1 yX11_pass cX11_pass 3 (some Jvm.ClassFile.FieldType.boolean) [.ref (ad 75), .int x1, .int x2] S (some (.int r)) S' := by
  unfold f_X11_pass at hm
  refine is_met (own := RX11) (by decide +kernel) rfl (Nat.le_of_ble_eq_true rfl) (fun p e s m below meth c X => ?_)
  refine iv_aload_n (pc := 0) X dX11_pass_0 rfl ?_
  refine gF_X11_162_75 (pc := 1) X dX11_pass_1 ?_
  refine iv_iload_n (pc := 4) X dX11_pass_4 rfl ?_
  obtain ⟨hg, hm⟩ := gd_some hm
  refine aL_126 (pc := 5) X dX11_pass_5 hg (x := (S.1 126) x2.toNatClampNeg) rfl ?_
  refine iv_if_eq (pc := 6) X dX11_pass_6 (tgt := 33) rfl (fun hb1 => ?_) (fun hb1 => ?_)
  · rw [if_pos hb1] at hm
    refine iv_iconst (pc := 33) X dX11_pass_33 ic_0 ?_
    cases hm
    exact is_zret (pc := 34) X dX11_pass_34 rfl
  · rw [if_neg hb1] at hm
    refine iv_aload_n (pc := 9) X dX11_pass_9 rfl ?_
    refine iv_iload_n (pc := 10) X dX11_pass_10 rfl ?_
    refine iv_aload_n (pc := 11) X dX11_pass_11 rfl ?_
    refine gF_X11_162_75 (pc := 12) X dX11_pass_12 ?_
    refine iv_iload_n (pc := 15) X dX11_pass_15 rfl ?_
    obtain ⟨hg, hm⟩ := gd_some hm
    refine aL_126 (pc := 16) X dX11_pass_16 hg (x := (S.1 126) x2.toNatClampNeg) rfl ?_
    refine iv_aload_n (pc := 17) X dX11_pass_17 rfl ?_
    refine gF_X11_165_75 (pc := 18) X dX11_pass_18 ?_
    refine iv_iload_n (pc := 21) X dX11_pass_21 rfl ?_
    obtain ⟨hg, hm⟩ := gd_some hm
    refine aL_127 (pc := 22) X dX11_pass_22 hg (x := (S.2.1 127) x2.toNatClampNeg) rfl ?_
    obtain ⟨⟨r3, S2⟩, hc4, hm⟩ := bd_some hm
    refine cV_X11_437_75 (pc := 23) X [.int x1, .int ((S.1 126) x2.toNatClampNeg), .long ((S.2.1 127) x2.toNatClampNeg)] [] 3 rfl (f_X11_give_e l g ad x1 ((S.1 126) x2.toNatClampNeg) ((S.2.1 127) x2.toNatClampNeg) S _ _ hc4) (by decide) (by decide) (Nat.le_of_ble_eq_true rfl) rfl dX11_pass_23 ?_
    refine iv_if_eq (pc := 26) X dX11_pass_26 (tgt := 33) rfl (fun hb5 => ?_) (fun hb5 => ?_)
    · rw [if_pos hb5] at hm
      refine iv_iconst (pc := 33) X dX11_pass_33 ic_0 ?_
      cases hm
      exact is_zret (pc := 34) X dX11_pass_34 rfl
    · rw [if_neg hb5] at hm
      refine iv_iconst (pc := 29) X dX11_pass_29 ic_1 ?_
      refine iv_goto (pc := 30) X dX11_pass_30 (tgt := 34) rfl ?_
      cases hm
      exact is_zret (pc := 34) X dX11_pass_34 rfl
def f_X11_event (x1 : Int32) (x2 : Int32) (x3 : Int64) (S : im_S) : Option (Int32 × im_S) := (f_X11_give x1 x2 x3 (uI S 75 72 ((S.1 75 72) + 1))).bind (fun qS1 => gd (z_b qS1.1) (some (qS1.1, qS1.2)))
set_option maxHeartbeats 4000000 in
set_option maxRecDepth 100000 in
theorem f_X11_event_e (l : Launch) (g : im_G) (ad : Nat → Nat) (x1 : Int32) (x2 : Int32) (x3 : Int64) (S : im_S) (r : Int32) (S' : im_S) (hm : f_X11_event x1 x2 x3 S = some (r, S')) : im_E l g ad 1 yX11_event cX11_event 5 (some Jvm.ClassFile.FieldType.boolean) [.ref (ad 75), .int x1, .int x2, .long x3] S (some (.int r)) S' := by
  unfold f_X11_event at hm
  refine is_met (own := RX11) (by decide +kernel) rfl (Nat.le_of_ble_eq_true rfl) (fun p e s m below meth c X => ?_)
  refine iv_aload_n (pc := 0) X dX11_event_0 rfl ?_
  refine iv_dup (pc := 1) X dX11_event_1 rfl ?_
  refine gF_X11_404_75 (pc := 2) X dX11_event_2 (x := S.1 75 72) rfl ?_
  refine iv_iconst (pc := 5) X dX11_event_5 ic_1 ?_
  refine iv_iadd (pc := 6) X dX11_event_6 ?_
  refine pF_X11_404_75 (pc := 7) X dX11_event_7 ?_
  refine iv_aload_n (pc := 10) X dX11_event_10 rfl ?_
  refine iv_iload_n (pc := 11) X dX11_event_11 rfl ?_
  refine iv_iload_n (pc := 12) X dX11_event_12 rfl ?_
  refine iv_lload_n (pc := 13) X dX11_event_13 rfl ?_
  obtain ⟨⟨r2, S1⟩, hc3, hm⟩ := bd_some hm
  refine cV_X11_437_75 (pc := 14) X [.int x1, .int x2, .long x3] [] 3 rfl (f_X11_give_e l g ad x1 x2 x3 (uI S 75 72 ((S.1 75 72) + 1)) _ _ hc3) (by decide) (by decide) (Nat.le_of_ble_eq_true rfl) rfl dX11_event_14 ?_
  obtain ⟨hg, hm⟩ := gd_some hm
  cases hm
  exact is_zret (pc := 17) X dX11_event_17 (z_b_n hg)
def f_X11_rootSlot (x1 : Int32) (S : im_S) : Option (Int32 × im_S) := gd (in_b x1 24000) (gd (in_b ((S.1 120) x1.toNatClampNeg) 640) ((f_X11_slot x1 ((S.1 105) (((S.1 120) x1.toNatClampNeg).toNatClampNeg)) S).bind (fun qS1 => some (qS1.1, qS1.2))))
set_option maxHeartbeats 4000000 in
set_option maxRecDepth 100000 in
theorem f_X11_rootSlot_e (l : Launch) (g : im_G) (ad : Nat → Nat) (x1 : Int32) (S : im_S) (r : Int32) (S' : im_S) (hm : f_X11_rootSlot x1 S = some (r, S')) : im_E l g ad 1 yX11_rootSlot cX11_rootSlot 2 (some Jvm.ClassFile.FieldType.int) [.ref (ad 75), .int x1] S (some (.int r)) S' := by
  unfold f_X11_rootSlot at hm
  refine is_met (own := RX11) (by decide +kernel) rfl (Nat.le_of_ble_eq_true rfl) (fun p e s m below meth c X => ?_)
  refine iv_aload_n (pc := 0) X dX11_rootSlot_0 rfl ?_
  refine iv_iload_n (pc := 1) X dX11_rootSlot_1 rfl ?_
  refine iv_aload_n (pc := 2) X dX11_rootSlot_2 rfl ?_
  refine gF_X11_98_75 (pc := 3) X dX11_rootSlot_3 ?_
  refine iv_aload_n (pc := 6) X dX11_rootSlot_6 rfl ?_
  refine gF_X11_143_75 (pc := 7) X dX11_rootSlot_7 ?_
  refine iv_iload_n (pc := 10) X dX11_rootSlot_10 rfl ?_
  obtain ⟨hg, hm⟩ := gd_some hm
  refine aL_120 (pc := 11) X dX11_rootSlot_11 hg (x := (S.1 120) x1.toNatClampNeg) rfl ?_
  obtain ⟨hg, hm⟩ := gd_some hm
  refine aL_105 (pc := 12) X dX11_rootSlot_12 hg (x := (S.1 105) (((S.1 120) x1.toNatClampNeg).toNatClampNeg)) rfl ?_
  obtain ⟨⟨r2, S1⟩, hc3, hm⟩ := bd_some hm
  refine cV_X11_426_75 (pc := 13) X [.int x1, .int ((S.1 105) (((S.1 120) x1.toNatClampNeg).toNatClampNeg))] [] 2 rfl (f_X11_slot_e l g ad x1 ((S.1 105) (((S.1 120) x1.toNatClampNeg).toNatClampNeg)) S _ _ hc3) (by decide) (by decide) (Nat.le_of_ble_eq_true rfl) rfl dX11_rootSlot_13 ?_
  cases hm
  exact is_iret (pc := 16) X dX11_rootSlot_16
def f_X11_call (fu : Nat) (x1 : Int32) (x2 : Int32) (x3 : Int32) (S : im_S) : Option (Int32 × im_S) := gd (in_b x3 520000) (if ((S.1 128) x3.toNatClampNeg : Int32) = (-1) then (gd (in_b x2 1200) (gd (in_b (((S.1 84) x2.toNatClampNeg) - (8 * (S.1 75 37))) 16) ((f_X11_enter fu ((S.1 96) ((((S.1 84) x2.toNatClampNeg) - (8 * (S.1 75 37))).toNatClampNeg)) (-1) x1 x2 (uI S 75 72 ((S.1 75 72) + 1))).bind (fun qS2 => gd (in_b x3 520000) (some (1, (uI qS2.2 128 x3.toNatClampNeg qS2.1))))))) else (gd (in_b x3 520000) ((f_X11_rootSlot ((S.1 128) x3.toNatClampNeg) S).bind (fun qS5 => (f_X11_pass x3 qS5.1 qS5.2).bind (fun qS8 => gd (z_b qS8.1) (some (qS8.1, qS8.2)))))))
set_option maxHeartbeats 4000000 in
set_option maxRecDepth 100000 in
theorem f_X11_call_e (l : Launch) (g : im_G) (ad : Nat → Nat) (fu : Nat) (x1 : Int32) (x2 : Int32) (x3 : Int32) (S : im_S) (r : Int32) (S' : im_S) (hm : f_X11_call fu x1 x2 x3 S = some (r, S')) : im_E l g ad 2 yX11_call cX11_call 4 (some Jvm.ClassFile.FieldType.boolean) [.ref (ad 75), .int x1, .int x2, .int x3] S (some (.int r)) S' := by
  unfold f_X11_call at hm
  refine is_met (own := RX11) (by decide +kernel) rfl (Nat.le_of_ble_eq_true rfl) (fun p e s m below meth c X => ?_)
  refine iv_aload_n (pc := 0) X dX11_call_0 rfl ?_
  refine gF_X11_168_75 (pc := 1) X dX11_call_1 ?_
  refine iv_iload_n (pc := 4) X dX11_call_4 rfl ?_
  obtain ⟨hg, hm⟩ := gd_some hm
  refine aL_128 (pc := 5) X dX11_call_5 hg (x := (S.1 128) x3.toNatClampNeg) rfl ?_
  refine iv_iconst (pc := 6) X dX11_call_6 ic_m1 ?_
  refine iv_icmp_eq (pc := 7) X dX11_call_7 (tgt := 26) rfl (fun hb1 => ?_) (fun hb1 => ?_)
  · rw [if_pos hb1] at hm
    refine iv_aload_n (pc := 26) X dX11_call_26 rfl ?_
    refine iv_dup (pc := 27) X dX11_call_27 rfl ?_
    refine gF_X11_404_75 (pc := 28) X dX11_call_28 (x := S.1 75 72) rfl ?_
    refine iv_iconst (pc := 31) X dX11_call_31 ic_1 ?_
    refine iv_iadd (pc := 32) X dX11_call_32 ?_
    refine pF_X11_404_75 (pc := 33) X dX11_call_33 ?_
    refine iv_aload_n (pc := 36) X dX11_call_36 rfl ?_
    refine gF_X11_168_75 (pc := 37) X dX11_call_37 ?_
    refine iv_iload_n (pc := 40) X dX11_call_40 rfl ?_
    refine iv_aload_n (pc := 41) X dX11_call_41 rfl ?_
    refine iv_aload_n (pc := 42) X dX11_call_42 rfl ?_
    refine gF_X11_71_75 (pc := 43) X dX11_call_43 ?_
    refine iv_aload_n (pc := 46) X dX11_call_46 rfl ?_
    refine gF_X11_35_75 (pc := 47) X dX11_call_47 ?_
    refine iv_iload_n (pc := 50) X dX11_call_50 rfl ?_
    obtain ⟨hg, hm⟩ := gd_some hm
    refine aL_84 (pc := 51) X dX11_call_51 hg (x := (S.1 84) x2.toNatClampNeg) rfl ?_
    refine iv_bipush (pc := 52) X dX11_call_52 bc_8 ?_
    refine iv_aload_n (pc := 54) X dX11_call_54 rfl ?_
    refine gF_X11_317_75 (pc := 55) X dX11_call_55 (x := S.1 75 37) rfl ?_
    refine iv_imul (pc := 58) X dX11_call_58 ?_
    refine iv_isub (pc := 59) X dX11_call_59 ?_
    obtain ⟨hg, hm⟩ := gd_some hm
    refine aL_96 (pc := 60) X dX11_call_60 hg (x := (S.1 96) ((((S.1 84) x2.toNatClampNeg) - (8 * (S.1 75 37))).toNatClampNeg)) rfl ?_
    refine iv_iconst (pc := 61) X dX11_call_61 ic_m1 ?_
    refine iv_iload_n (pc := 62) X dX11_call_62 rfl ?_
    refine iv_iload_n (pc := 63) X dX11_call_63 rfl ?_
    obtain ⟨⟨r3, S2⟩, hc4, hm⟩ := bd_some hm
    refine cV_X11_474_75 (pc := 64) X [.int ((S.1 96) ((((S.1 84) x2.toNatClampNeg) - (8 * (S.1 75 37))).toNatClampNeg)), .int (-1), .int x1, .int x2] [.int x3, .ref (ad 128)] 4 rfl (f_X11_enter_e l g ad fu ((S.1 96) ((((S.1 84) x2.toNatClampNeg) - (8 * (S.1 75 37))).toNatClampNeg)) (-1) x1 x2 (uI S 75 72 ((S.1 75 72) + 1)) _ _ hc4) (by decide) (by decide) (Nat.le_of_ble_eq_true rfl) rfl dX11_call_64 ?_
    obtain ⟨hg, hm⟩ := gd_some hm
    refine aS_128 (pc := 67) X dX11_call_67 hg ?_
    refine iv_iconst (pc := 68) X dX11_call_68 ic_1 ?_
    cases hm
    exact is_zret (pc := 69) X dX11_call_69 rfl
  · rw [if_neg hb1] at hm
    refine iv_aload_n (pc := 10) X dX11_call_10 rfl ?_
    refine iv_iload_n (pc := 11) X dX11_call_11 rfl ?_
    refine iv_aload_n (pc := 12) X dX11_call_12 rfl ?_
    refine iv_aload_n (pc := 13) X dX11_call_13 rfl ?_
    refine gF_X11_168_75 (pc := 14) X dX11_call_14 ?_
    refine iv_iload_n (pc := 17) X dX11_call_17 rfl ?_
    obtain ⟨hg, hm⟩ := gd_some hm
    refine aL_128 (pc := 18) X dX11_call_18 hg (x := (S.1 128) x3.toNatClampNeg) rfl ?_
    obtain ⟨⟨r6, S5⟩, hc7, hm⟩ := bd_some hm
    refine cV_X11_471_75 (pc := 19) X [.int ((S.1 128) x3.toNatClampNeg)] [.int x3, .ref (ad 75)] 1 rfl (f_X11_rootSlot_e l g ad ((S.1 128) x3.toNatClampNeg) S _ _ hc7) (by decide) (by decide) (Nat.le_of_ble_eq_true rfl) rfl dX11_call_19 ?_
    obtain ⟨⟨r9, S8⟩, hc10, hm⟩ := bd_some hm
    refine cV_X11_448_75 (pc := 22) X [.int x3, .int r6] [] 2 rfl (f_X11_pass_e l g ad x3 r6 S5 _ _ hc10) (by decide) (by decide) (Nat.le_of_ble_eq_true rfl) rfl dX11_call_22 ?_
    obtain ⟨hg, hm⟩ := gd_some hm
    cases hm
    exact is_zret (pc := 25) X dX11_call_25 (z_b_n hg)
def f_X11_branch (fu : Nat) (x1 : Int32) (x2 : Int32) (x3 : Int32) (S : im_S) : Option (Int32 × im_S) := gd (in_b x3 520000) (if ((S.1 128) x3.toNatClampNeg : Int32) = (-1) then (gd (in_b x2 1200) ((f_X11_slot x1 ((S.1 83) x2.toNatClampNeg) S).bind (fun qS2 => gd (in_b qS2.1 520000) (if ((qS2.2.1 126) qS2.1.toNatClampNeg : Int32) ≠ 0 then (gd (in_b qS2.1 520000) (if ((qS2.2.1 126) qS2.1.toNatClampNeg : Int32) ≠ 4 then (gd (in_b qS2.1 520000) (if (lg_cmp ((qS2.2.2.1 127) qS2.1.toNatClampNeg) 1 : Int32) ≠ 0 then (gd (in_b x2 1200) ((f_X11_enter fu ((qS2.2.1 111) x2.toNatClampNeg) x1 (-1) (-1) (uI qS2.2 75 72 ((qS2.2.1 75 72) + 1))).bind (fun qS8 => gd (in_b x3 520000) (some (1, (uI qS8.2 128 x3.toNatClampNeg qS8.1)))))) else (gd (in_b x2 1200) ((f_X11_enter fu ((qS2.2.1 110) x2.toNatClampNeg) x1 (-1) (-1) (uI qS2.2 75 72 ((qS2.2.1 75 72) + 1))).bind (fun qS11 => gd (in_b x3 520000) (some (1, (uI qS11.2 128 x3.toNatClampNeg qS11.1)))))))) else (gd (in_b qS2.1 520000) ((f_X11_event x3 4 ((qS2.2.2.1 127) qS2.1.toNatClampNeg) qS2.2).bind (fun qS14 => gd (z_b qS14.1) (some (qS14.1, qS14.2))))))) else (some (0, qS2.2)))))) else (gd (in_b x3 520000) ((f_X11_rootSlot ((S.1 128) x3.toNatClampNeg) S).bind (fun qS17 => (f_X11_pass x3 qS17.1 qS17.2).bind (fun qS20 => gd (z_b qS20.1) (some (qS20.1, qS20.2)))))))
set_option maxHeartbeats 4000000 in
set_option maxRecDepth 100000 in
theorem f_X11_branch_e (l : Launch) (g : im_G) (ad : Nat → Nat) (fu : Nat) (x1 : Int32) (x2 : Int32) (x3 : Int32) (S : im_S) (r : Int32) (S' : im_S) (hm : f_X11_branch fu x1 x2 x3 S = some (r, S')) : im_E l g ad 2 yX11_branch cX11_branch 5 (some Jvm.ClassFile.FieldType.boolean) [.ref (ad 75), .int x1, .int x2, .int x3] S (some (.int r)) S' := by
  unfold f_X11_branch at hm
  refine is_met (own := RX11) (by decide +kernel) rfl (Nat.le_of_ble_eq_true rfl) (fun p e s m below meth c X => ?_)
  refine iv_aload_n (pc := 0) X dX11_branch_0 rfl ?_
  refine gF_X11_168_75 (pc := 1) X dX11_branch_1 ?_
  refine iv_iload_n (pc := 4) X dX11_branch_4 rfl ?_
  obtain ⟨hg, hm⟩ := gd_some hm
  refine aL_128 (pc := 5) X dX11_branch_5 hg (x := (S.1 128) x3.toNatClampNeg) rfl ?_
  refine iv_iconst (pc := 6) X dX11_branch_6 ic_m1 ?_
  refine iv_icmp_eq (pc := 7) X dX11_branch_7 (tgt := 26) rfl (fun hb1 => ?_) (fun hb1 => ?_)
  · rw [if_pos hb1] at hm
    refine iv_aload_n (pc := 26) X dX11_branch_26 rfl ?_
    refine iv_iload_n (pc := 27) X dX11_branch_27 rfl ?_
    refine iv_aload_n (pc := 28) X dX11_branch_28 rfl ?_
    refine gF_X11_32_75 (pc := 29) X dX11_branch_29 ?_
    refine iv_iload_n (pc := 32) X dX11_branch_32 rfl ?_
    obtain ⟨hg, hm⟩ := gd_some hm
    refine aL_83 (pc := 33) X dX11_branch_33 hg (x := (S.1 83) x2.toNatClampNeg) rfl ?_
    obtain ⟨⟨r3, S2⟩, hc4, hm⟩ := bd_some hm
    refine cV_X11_426_75 (pc := 34) X [.int x1, .int ((S.1 83) x2.toNatClampNeg)] [] 2 rfl (f_X11_slot_e l g ad x1 ((S.1 83) x2.toNatClampNeg) S _ _ hc4) (by decide) (by decide) (Nat.le_of_ble_eq_true rfl) rfl dX11_branch_34 ?_
    refine iv_istore (pc := 37) X dX11_branch_37 (by decide) (lv' := [(4, .int r3), (0, .ref (ad 75)), (1, .int x1), (2, .int x2), (3, .int x3)]) rfl ?_
    refine iv_aload_n (pc := 39) X dX11_branch_39 rfl ?_
    refine gF_X11_162_75 (pc := 40) X dX11_branch_40 ?_
    refine iv_iload (pc := 43) X dX11_branch_43 rfl ?_
    obtain ⟨hg, hm⟩ := gd_some hm
    refine aL_126 (pc := 45) X dX11_branch_45 hg (x := (S2.1 126) r3.toNatClampNeg) rfl ?_
    refine iv_if_ne (pc := 46) X dX11_branch_46 (tgt := 51) rfl (fun hb5 => ?_) (fun hb5 => ?_)
    · rw [if_pos hb5] at hm
      refine iv_aload_n (pc := 51) X dX11_branch_51 rfl ?_
      refine gF_X11_162_75 (pc := 52) X dX11_branch_52 ?_
      refine iv_iload (pc := 55) X dX11_branch_55 rfl ?_
      obtain ⟨hg, hm⟩ := gd_some hm
      refine aL_126 (pc := 57) X dX11_branch_57 hg (x := (S2.1 126) r3.toNatClampNeg) rfl ?_
      refine iv_iconst (pc := 58) X dX11_branch_58 ic_4 ?_
      refine iv_icmp_ne (pc := 59) X dX11_branch_59 (tgt := 76) rfl (fun hb6 => ?_) (fun hb6 => ?_)
      · rw [if_pos hb6] at hm
        refine iv_aload_n (pc := 76) X dX11_branch_76 rfl ?_
        refine iv_dup (pc := 77) X dX11_branch_77 rfl ?_
        refine gF_X11_404_75 (pc := 78) X dX11_branch_78 (x := S2.1 75 72) rfl ?_
        refine iv_iconst (pc := 81) X dX11_branch_81 ic_1 ?_
        refine iv_iadd (pc := 82) X dX11_branch_82 ?_
        refine pF_X11_404_75 (pc := 83) X dX11_branch_83 ?_
        refine iv_aload_n (pc := 86) X dX11_branch_86 rfl ?_
        refine gF_X11_168_75 (pc := 87) X dX11_branch_87 ?_
        refine iv_iload_n (pc := 90) X dX11_branch_90 rfl ?_
        refine iv_aload_n (pc := 91) X dX11_branch_91 rfl ?_
        refine iv_aload_n (pc := 92) X dX11_branch_92 rfl ?_
        refine gF_X11_165_75 (pc := 93) X dX11_branch_93 ?_
        refine iv_iload (pc := 96) X dX11_branch_96 rfl ?_
        obtain ⟨hg, hm⟩ := gd_some hm
        refine aL_127 (pc := 98) X dX11_branch_98 hg (x := (S2.2.1 127) r3.toNatClampNeg) rfl ?_
        refine iv_lconst (pc := 99) X dX11_branch_99 lc_1 ?_
        refine iv_lcmp (pc := 100) X dX11_branch_100 ?_
        refine iv_if_ne (pc := 101) X dX11_branch_101 (tgt := 113) rfl (fun hb7 => ?_) (fun hb7 => ?_)
        · rw [if_pos hb7] at hm
          refine iv_aload_n (pc := 113) X dX11_branch_113 rfl ?_
          refine gF_X11_116_75 (pc := 114) X dX11_branch_114 ?_
          refine iv_iload_n (pc := 117) X dX11_branch_117 rfl ?_
          obtain ⟨hg, hm⟩ := gd_some hm
          refine aL_111 (pc := 118) X dX11_branch_118 hg (x := (S2.1 111) x2.toNatClampNeg) rfl ?_
          refine iv_iload_n (pc := 119) X dX11_branch_119 rfl ?_
          refine iv_iconst (pc := 120) X dX11_branch_120 ic_m1 ?_
          refine iv_iconst (pc := 121) X dX11_branch_121 ic_m1 ?_
          obtain ⟨⟨r9, S8⟩, hc10, hm⟩ := bd_some hm
          refine cV_X11_474_75 (pc := 122) X [.int ((S2.1 111) x2.toNatClampNeg), .int x1, .int (-1), .int (-1)] [.int x3, .ref (ad 128)] 4 rfl (f_X11_enter_e l g ad fu ((S2.1 111) x2.toNatClampNeg) x1 (-1) (-1) (uI S2 75 72 ((S2.1 75 72) + 1)) _ _ hc10) (by decide) (by decide) (Nat.le_of_ble_eq_true rfl) rfl dX11_branch_122 ?_
          obtain ⟨hg, hm⟩ := gd_some hm
          refine aS_128 (pc := 125) X dX11_branch_125 hg ?_
          refine iv_iconst (pc := 126) X dX11_branch_126 ic_1 ?_
          cases hm
          exact is_zret (pc := 127) X dX11_branch_127 rfl
        · rw [if_neg hb7] at hm
          refine iv_aload_n (pc := 104) X dX11_branch_104 rfl ?_
          refine gF_X11_113_75 (pc := 105) X dX11_branch_105 ?_
          refine iv_iload_n (pc := 108) X dX11_branch_108 rfl ?_
          obtain ⟨hg, hm⟩ := gd_some hm
          refine aL_110 (pc := 109) X dX11_branch_109 hg (x := (S2.1 110) x2.toNatClampNeg) rfl ?_
          refine iv_goto (pc := 110) X dX11_branch_110 (tgt := 119) rfl ?_
          refine iv_iload_n (pc := 119) X dX11_branch_119 rfl ?_
          refine iv_iconst (pc := 120) X dX11_branch_120 ic_m1 ?_
          refine iv_iconst (pc := 121) X dX11_branch_121 ic_m1 ?_
          obtain ⟨⟨r12, S11⟩, hc13, hm⟩ := bd_some hm
          refine cV_X11_474_75 (pc := 122) X [.int ((S2.1 110) x2.toNatClampNeg), .int x1, .int (-1), .int (-1)] [.int x3, .ref (ad 128)] 4 rfl (f_X11_enter_e l g ad fu ((S2.1 110) x2.toNatClampNeg) x1 (-1) (-1) (uI S2 75 72 ((S2.1 75 72) + 1)) _ _ hc13) (by decide) (by decide) (Nat.le_of_ble_eq_true rfl) rfl dX11_branch_122 ?_
          obtain ⟨hg, hm⟩ := gd_some hm
          refine aS_128 (pc := 125) X dX11_branch_125 hg ?_
          refine iv_iconst (pc := 126) X dX11_branch_126 ic_1 ?_
          cases hm
          exact is_zret (pc := 127) X dX11_branch_127 rfl
      · rw [if_neg hb6] at hm
        refine iv_aload_n (pc := 62) X dX11_branch_62 rfl ?_
        refine iv_iload_n (pc := 63) X dX11_branch_63 rfl ?_
        refine iv_iconst (pc := 64) X dX11_branch_64 ic_4 ?_
        refine iv_aload_n (pc := 65) X dX11_branch_65 rfl ?_
        refine gF_X11_165_75 (pc := 66) X dX11_branch_66 ?_
        refine iv_iload (pc := 69) X dX11_branch_69 rfl ?_
        obtain ⟨hg, hm⟩ := gd_some hm
        refine aL_127 (pc := 71) X dX11_branch_71 hg (x := (S2.2.1 127) r3.toNatClampNeg) rfl ?_
        obtain ⟨⟨r15, S14⟩, hc16, hm⟩ := bd_some hm
        refine cV_X11_478_75 (pc := 72) X [.int x3, .int 4, .long ((S2.2.1 127) r3.toNatClampNeg)] [] 3 rfl (f_X11_event_e l g ad x3 4 ((S2.2.1 127) r3.toNatClampNeg) S2 _ _ hc16) (by decide) (by decide) (Nat.le_of_ble_eq_true rfl) rfl dX11_branch_72 ?_
        obtain ⟨hg, hm⟩ := gd_some hm
        cases hm
        exact is_zret (pc := 75) X dX11_branch_75 (z_b_n hg)
    · rw [if_neg hb5] at hm
      refine iv_iconst (pc := 49) X dX11_branch_49 ic_0 ?_
      cases hm
      exact is_zret (pc := 50) X dX11_branch_50 rfl
  · rw [if_neg hb1] at hm
    refine iv_aload_n (pc := 10) X dX11_branch_10 rfl ?_
    refine iv_iload_n (pc := 11) X dX11_branch_11 rfl ?_
    refine iv_aload_n (pc := 12) X dX11_branch_12 rfl ?_
    refine iv_aload_n (pc := 13) X dX11_branch_13 rfl ?_
    refine gF_X11_168_75 (pc := 14) X dX11_branch_14 ?_
    refine iv_iload_n (pc := 17) X dX11_branch_17 rfl ?_
    obtain ⟨hg, hm⟩ := gd_some hm
    refine aL_128 (pc := 18) X dX11_branch_18 hg (x := (S.1 128) x3.toNatClampNeg) rfl ?_
    obtain ⟨⟨r18, S17⟩, hc19, hm⟩ := bd_some hm
    refine cV_X11_471_75 (pc := 19) X [.int ((S.1 128) x3.toNatClampNeg)] [.int x3, .ref (ad 75)] 1 rfl (f_X11_rootSlot_e l g ad ((S.1 128) x3.toNatClampNeg) S _ _ hc19) (by decide) (by decide) (Nat.le_of_ble_eq_true rfl) rfl dX11_branch_19 ?_
    obtain ⟨⟨r21, S20⟩, hc22, hm⟩ := bd_some hm
    refine cV_X11_448_75 (pc := 22) X [.int x3, .int r18] [] 2 rfl (f_X11_pass_e l g ad x3 r18 S17 _ _ hc22) (by decide) (by decide) (Nat.le_of_ble_eq_true rfl) rfl dX11_branch_22 ?_
    obtain ⟨hg, hm⟩ := gd_some hm
    cases hm
    exact is_zret (pc := 25) X dX11_branch_25 (z_b_n hg)
def f_X11_round (fu : Nat) (x1 : Int32) (x2 : Int32) (x3 : Int32) (S : im_S) : Option (Int32 × im_S) := gd (in_b x3 520000) (if ((S.1 128) x3.toNatClampNeg : Int32) ≠ (-1) then (gd (in_b x3 520000) (gd (in_b ((S.1 128) x3.toNatClampNeg) 24000) (gd (in_b x2 1200) (if ((S.1 120) (((S.1 128) x3.toNatClampNeg).toNatClampNeg) : Int32) ≠ ((S.1 112) x2.toNatClampNeg) then ((f_X11_rootSlot ((S.1 128) x3.toNatClampNeg) S).bind (fun qS3 => gd (in_b qS3.1 520000) (if ((qS3.2.1 126) qS3.1.toNatClampNeg : Int32) ≠ 0 then (gd (in_b qS3.1 520000) (if ((qS3.2.1 126) qS3.1.toNatClampNeg : Int32) ≠ 4 then (gd (in_b qS3.1 520000) (if (lg_cmp ((qS3.2.2.1 127) qS3.1.toNatClampNeg) 0 : Int32) ≠ 0 then (gd (in_b x2 1200) ((f_X11_enter fu ((qS3.2.1 111) x2.toNatClampNeg) ((S.1 128) x3.toNatClampNeg) (-1) (-1) (uI qS3.2 75 72 ((qS3.2.1 75 72) + 1))).bind (fun qS9 => gd (in_b x2 1200) ((f_X11_enter fu ((qS9.2.1 110) x2.toNatClampNeg) x1 ((S.1 128) x3.toNatClampNeg) qS9.1 qS9.2).bind (fun qS12 => gd (in_b x3 520000) (some (1, (uI qS12.2 128 x3.toNatClampNeg qS12.1)))))))) else (gd (in_b x2 1200) ((f_X11_enter fu ((qS3.2.1 112) x2.toNatClampNeg) ((S.1 128) x3.toNatClampNeg) (-1) (-1) (uI qS3.2 75 72 ((qS3.2.1 75 72) + 1))).bind (fun qS15 => gd (in_b x3 520000) (some (1, (uI qS15.2 128 x3.toNatClampNeg qS15.1)))))))) else (gd (in_b qS3.1 520000) ((f_X11_event x3 4 ((qS3.2.2.1 127) qS3.1.toNatClampNeg) qS3.2).bind (fun qS18 => gd (z_b qS18.1) (some (qS18.1, qS18.2))))))) else (some (0, qS3.2))))) else ((f_X11_rootSlot ((S.1 128) x3.toNatClampNeg) S).bind (fun qS21 => (f_X11_pass x3 qS21.1 qS21.2).bind (fun qS24 => gd (z_b qS24.1) (some (qS24.1, qS24.2))))))))) else (gd (in_b x2 1200) ((f_X11_enter fu ((S.1 110) x2.toNatClampNeg) x1 (-1) (-1) S).bind (fun qS27 => gd (in_b x3 520000) (some (1, (uI qS27.2 128 x3.toNatClampNeg qS27.1)))))))
set_option maxHeartbeats 4000000 in
set_option maxRecDepth 100000 in
theorem f_X11_round_e (l : Launch) (g : im_G) (ad : Nat → Nat) (fu : Nat) (x1 : Int32) (x2 : Int32) (x3 : Int32) (S : im_S) (r : Int32) (S' : im_S) (hm : f_X11_round fu x1 x2 x3 S = some (r, S')) : im_E l g ad 2 yX11_round cX11_round 7 (some Jvm.ClassFile.FieldType.boolean) [.ref (ad 75), .int x1, .int x2, .int x3] S (some (.int r)) S' := by
  unfold f_X11_round at hm
  refine is_met (own := RX11) (by decide +kernel) rfl (Nat.le_of_ble_eq_true rfl) (fun p e s m below meth c X => ?_)
  refine iv_aload_n (pc := 0) X dX11_round_0 rfl ?_
  refine gF_X11_168_75 (pc := 1) X dX11_round_1 ?_
  refine iv_iload_n (pc := 4) X dX11_round_4 rfl ?_
  obtain ⟨hg, hm⟩ := gd_some hm
  refine aL_128 (pc := 5) X dX11_round_5 hg (x := (S.1 128) x3.toNatClampNeg) rfl ?_
  refine iv_iconst (pc := 6) X dX11_round_6 ic_m1 ?_
  refine iv_icmp_ne (pc := 7) X dX11_round_7 (tgt := 31) rfl (fun hb1 => ?_) (fun hb1 => ?_)
  · rw [if_pos hb1] at hm
    refine iv_aload_n (pc := 31) X dX11_round_31 rfl ?_
    refine gF_X11_168_75 (pc := 32) X dX11_round_32 ?_
    refine iv_iload_n (pc := 35) X dX11_round_35 rfl ?_
    obtain ⟨hg, hm⟩ := gd_some hm
    refine aL_128 (pc := 36) X dX11_round_36 hg (x := (S.1 128) x3.toNatClampNeg) rfl ?_
    refine iv_istore (pc := 37) X dX11_round_37 (by decide) (lv' := [(4, .int ((S.1 128) x3.toNatClampNeg)), (0, .ref (ad 75)), (1, .int x1), (2, .int x2), (3, .int x3)]) rfl ?_
    refine iv_aload_n (pc := 39) X dX11_round_39 rfl ?_
    refine gF_X11_143_75 (pc := 40) X dX11_round_40 ?_
    refine iv_iload (pc := 43) X dX11_round_43 rfl ?_
    obtain ⟨hg, hm⟩ := gd_some hm
    refine aL_120 (pc := 45) X dX11_round_45 hg (x := (S.1 120) (((S.1 128) x3.toNatClampNeg).toNatClampNeg)) rfl ?_
    refine iv_aload_n (pc := 46) X dX11_round_46 rfl ?_
    refine gF_X11_119_75 (pc := 47) X dX11_round_47 ?_
    refine iv_iload_n (pc := 50) X dX11_round_50 rfl ?_
    obtain ⟨hg, hm⟩ := gd_some hm
    refine aL_112 (pc := 51) X dX11_round_51 hg (x := (S.1 112) x2.toNatClampNeg) rfl ?_
    refine iv_icmp_ne (pc := 52) X dX11_round_52 (tgt := 67) rfl (fun hb2 => ?_) (fun hb2 => ?_)
    · rw [if_pos hb2] at hm
      refine iv_aload_n (pc := 67) X dX11_round_67 rfl ?_
      refine iv_iload (pc := 68) X dX11_round_68 rfl ?_
      obtain ⟨⟨r4, S3⟩, hc5, hm⟩ := bd_some hm
      refine cV_X11_471_75 (pc := 70) X [.int ((S.1 128) x3.toNatClampNeg)] [] 1 rfl (f_X11_rootSlot_e l g ad ((S.1 128) x3.toNatClampNeg) S _ _ hc5) (by decide) (by decide) (Nat.le_of_ble_eq_true rfl) rfl dX11_round_70 ?_
      refine iv_istore (pc := 73) X dX11_round_73 (by decide) (lv' := [(5, .int r4), (4, .int ((S.1 128) x3.toNatClampNeg)), (0, .ref (ad 75)), (1, .int x1), (2, .int x2), (3, .int x3)]) rfl ?_
      refine iv_aload_n (pc := 75) X dX11_round_75 rfl ?_
      refine gF_X11_162_75 (pc := 76) X dX11_round_76 ?_
      refine iv_iload (pc := 79) X dX11_round_79 rfl ?_
      obtain ⟨hg, hm⟩ := gd_some hm
      refine aL_126 (pc := 81) X dX11_round_81 hg (x := (S3.1 126) r4.toNatClampNeg) rfl ?_
      refine iv_if_ne (pc := 82) X dX11_round_82 (tgt := 87) rfl (fun hb6 => ?_) (fun hb6 => ?_)
      · rw [if_pos hb6] at hm
        refine iv_aload_n (pc := 87) X dX11_round_87 rfl ?_
        refine gF_X11_162_75 (pc := 88) X dX11_round_88 ?_
        refine iv_iload (pc := 91) X dX11_round_91 rfl ?_
        obtain ⟨hg, hm⟩ := gd_some hm
        refine aL_126 (pc := 93) X dX11_round_93 hg (x := (S3.1 126) r4.toNatClampNeg) rfl ?_
        refine iv_iconst (pc := 94) X dX11_round_94 ic_4 ?_
        refine iv_icmp_ne (pc := 95) X dX11_round_95 (tgt := 112) rfl (fun hb7 => ?_) (fun hb7 => ?_)
        · rw [if_pos hb7] at hm
          refine iv_aload_n (pc := 112) X dX11_round_112 rfl ?_
          refine iv_dup (pc := 113) X dX11_round_113 rfl ?_
          refine gF_X11_404_75 (pc := 114) X dX11_round_114 (x := S3.1 75 72) rfl ?_
          refine iv_iconst (pc := 117) X dX11_round_117 ic_1 ?_
          refine iv_iadd (pc := 118) X dX11_round_118 ?_
          refine pF_X11_404_75 (pc := 119) X dX11_round_119 ?_
          refine iv_aload_n (pc := 122) X dX11_round_122 rfl ?_
          refine gF_X11_165_75 (pc := 123) X dX11_round_123 ?_
          refine iv_iload (pc := 126) X dX11_round_126 rfl ?_
          obtain ⟨hg, hm⟩ := gd_some hm
          refine aL_127 (pc := 128) X dX11_round_128 hg (x := (S3.2.1 127) r4.toNatClampNeg) rfl ?_
          refine iv_lconst (pc := 129) X dX11_round_129 lc_0 ?_
          refine iv_lcmp (pc := 130) X dX11_round_130 ?_
          refine iv_if_ne (pc := 131) X dX11_round_131 (tgt := 157) rfl (fun hb8 => ?_) (fun hb8 => ?_)
          · rw [if_pos hb8] at hm
            refine iv_aload_n (pc := 157) X dX11_round_157 rfl ?_
            refine iv_aload_n (pc := 158) X dX11_round_158 rfl ?_
            refine gF_X11_116_75 (pc := 159) X dX11_round_159 ?_
            refine iv_iload_n (pc := 162) X dX11_round_162 rfl ?_
            obtain ⟨hg, hm⟩ := gd_some hm
            refine aL_111 (pc := 163) X dX11_round_163 hg (x := (S3.1 111) x2.toNatClampNeg) rfl ?_
            refine iv_iload (pc := 164) X dX11_round_164 rfl ?_
            refine iv_iconst (pc := 166) X dX11_round_166 ic_m1 ?_
            refine iv_iconst (pc := 167) X dX11_round_167 ic_m1 ?_
            obtain ⟨⟨r10, S9⟩, hc11, hm⟩ := bd_some hm
            refine cV_X11_474_75 (pc := 168) X [.int ((S3.1 111) x2.toNatClampNeg), .int ((S.1 128) x3.toNatClampNeg), .int (-1), .int (-1)] [] 4 rfl (f_X11_enter_e l g ad fu ((S3.1 111) x2.toNatClampNeg) ((S.1 128) x3.toNatClampNeg) (-1) (-1) (uI S3 75 72 ((S3.1 75 72) + 1)) _ _ hc11) (by decide) (by decide) (Nat.le_of_ble_eq_true rfl) rfl dX11_round_168 ?_
            refine iv_istore (pc := 171) X dX11_round_171 (by decide) (lv' := [(6, .int r10), (5, .int r4), (4, .int ((S.1 128) x3.toNatClampNeg)), (0, .ref (ad 75)), (1, .int x1), (2, .int x2), (3, .int x3)]) rfl ?_
            refine iv_aload_n (pc := 173) X dX11_round_173 rfl ?_
            refine gF_X11_168_75 (pc := 174) X dX11_round_174 ?_
            refine iv_iload_n (pc := 177) X dX11_round_177 rfl ?_
            refine iv_aload_n (pc := 178) X dX11_round_178 rfl ?_
            refine iv_aload_n (pc := 179) X dX11_round_179 rfl ?_
            refine gF_X11_113_75 (pc := 180) X dX11_round_180 ?_
            refine iv_iload_n (pc := 183) X dX11_round_183 rfl ?_
            obtain ⟨hg, hm⟩ := gd_some hm
            refine aL_110 (pc := 184) X dX11_round_184 hg (x := (S9.1 110) x2.toNatClampNeg) rfl ?_
            refine iv_iload_n (pc := 185) X dX11_round_185 rfl ?_
            refine iv_iload (pc := 186) X dX11_round_186 rfl ?_
            refine iv_iload (pc := 188) X dX11_round_188 rfl ?_
            obtain ⟨⟨r13, S12⟩, hc14, hm⟩ := bd_some hm
            refine cV_X11_474_75 (pc := 190) X [.int ((S9.1 110) x2.toNatClampNeg), .int x1, .int ((S.1 128) x3.toNatClampNeg), .int r10] [.int x3, .ref (ad 128)] 4 rfl (f_X11_enter_e l g ad fu ((S9.1 110) x2.toNatClampNeg) x1 ((S.1 128) x3.toNatClampNeg) r10 S9 _ _ hc14) (by decide) (by decide) (Nat.le_of_ble_eq_true rfl) rfl dX11_round_190 ?_
            obtain ⟨hg, hm⟩ := gd_some hm
            refine aS_128 (pc := 193) X dX11_round_193 hg ?_
            refine iv_iconst (pc := 194) X dX11_round_194 ic_1 ?_
            cases hm
            exact is_zret (pc := 195) X dX11_round_195 rfl
          · rw [if_neg hb8] at hm
            refine iv_aload_n (pc := 134) X dX11_round_134 rfl ?_
            refine gF_X11_168_75 (pc := 135) X dX11_round_135 ?_
            refine iv_iload_n (pc := 138) X dX11_round_138 rfl ?_
            refine iv_aload_n (pc := 139) X dX11_round_139 rfl ?_
            refine iv_aload_n (pc := 140) X dX11_round_140 rfl ?_
            refine gF_X11_119_75 (pc := 141) X dX11_round_141 ?_
            refine iv_iload_n (pc := 144) X dX11_round_144 rfl ?_
            obtain ⟨hg, hm⟩ := gd_some hm
            refine aL_112 (pc := 145) X dX11_round_145 hg (x := (S3.1 112) x2.toNatClampNeg) rfl ?_
            refine iv_iload (pc := 146) X dX11_round_146 rfl ?_
            refine iv_iconst (pc := 148) X dX11_round_148 ic_m1 ?_
            refine iv_iconst (pc := 149) X dX11_round_149 ic_m1 ?_
            obtain ⟨⟨r16, S15⟩, hc17, hm⟩ := bd_some hm
            refine cV_X11_474_75 (pc := 150) X [.int ((S3.1 112) x2.toNatClampNeg), .int ((S.1 128) x3.toNatClampNeg), .int (-1), .int (-1)] [.int x3, .ref (ad 128)] 4 rfl (f_X11_enter_e l g ad fu ((S3.1 112) x2.toNatClampNeg) ((S.1 128) x3.toNatClampNeg) (-1) (-1) (uI S3 75 72 ((S3.1 75 72) + 1)) _ _ hc17) (by decide) (by decide) (Nat.le_of_ble_eq_true rfl) rfl dX11_round_150 ?_
            obtain ⟨hg, hm⟩ := gd_some hm
            refine aS_128 (pc := 153) X dX11_round_153 hg ?_
            refine iv_goto (pc := 154) X dX11_round_154 (tgt := 194) rfl ?_
            refine iv_iconst (pc := 194) X dX11_round_194 ic_1 ?_
            cases hm
            exact is_zret (pc := 195) X dX11_round_195 rfl
        · rw [if_neg hb7] at hm
          refine iv_aload_n (pc := 98) X dX11_round_98 rfl ?_
          refine iv_iload_n (pc := 99) X dX11_round_99 rfl ?_
          refine iv_iconst (pc := 100) X dX11_round_100 ic_4 ?_
          refine iv_aload_n (pc := 101) X dX11_round_101 rfl ?_
          refine gF_X11_165_75 (pc := 102) X dX11_round_102 ?_
          refine iv_iload (pc := 105) X dX11_round_105 rfl ?_
          obtain ⟨hg, hm⟩ := gd_some hm
          refine aL_127 (pc := 107) X dX11_round_107 hg (x := (S3.2.1 127) r4.toNatClampNeg) rfl ?_
          obtain ⟨⟨r19, S18⟩, hc20, hm⟩ := bd_some hm
          refine cV_X11_478_75 (pc := 108) X [.int x3, .int 4, .long ((S3.2.1 127) r4.toNatClampNeg)] [] 3 rfl (f_X11_event_e l g ad x3 4 ((S3.2.1 127) r4.toNatClampNeg) S3 _ _ hc20) (by decide) (by decide) (Nat.le_of_ble_eq_true rfl) rfl dX11_round_108 ?_
          obtain ⟨hg, hm⟩ := gd_some hm
          cases hm
          exact is_zret (pc := 111) X dX11_round_111 (z_b_n hg)
      · rw [if_neg hb6] at hm
        refine iv_iconst (pc := 85) X dX11_round_85 ic_0 ?_
        cases hm
        exact is_zret (pc := 86) X dX11_round_86 rfl
    · rw [if_neg hb2] at hm
      refine iv_aload_n (pc := 55) X dX11_round_55 rfl ?_
      refine iv_iload_n (pc := 56) X dX11_round_56 rfl ?_
      refine iv_aload_n (pc := 57) X dX11_round_57 rfl ?_
      refine iv_iload (pc := 58) X dX11_round_58 rfl ?_
      obtain ⟨⟨r22, S21⟩, hc23, hm⟩ := bd_some hm
      refine cV_X11_471_75 (pc := 60) X [.int ((S.1 128) x3.toNatClampNeg)] [.int x3, .ref (ad 75)] 1 rfl (f_X11_rootSlot_e l g ad ((S.1 128) x3.toNatClampNeg) S _ _ hc23) (by decide) (by decide) (Nat.le_of_ble_eq_true rfl) rfl dX11_round_60 ?_
      obtain ⟨⟨r25, S24⟩, hc26, hm⟩ := bd_some hm
      refine cV_X11_448_75 (pc := 63) X [.int x3, .int r22] [] 2 rfl (f_X11_pass_e l g ad x3 r22 S21 _ _ hc26) (by decide) (by decide) (Nat.le_of_ble_eq_true rfl) rfl dX11_round_63 ?_
      obtain ⟨hg, hm⟩ := gd_some hm
      cases hm
      exact is_zret (pc := 66) X dX11_round_66 (z_b_n hg)
  · rw [if_neg hb1] at hm
    refine iv_aload_n (pc := 10) X dX11_round_10 rfl ?_
    refine gF_X11_168_75 (pc := 11) X dX11_round_11 ?_
    refine iv_iload_n (pc := 14) X dX11_round_14 rfl ?_
    refine iv_aload_n (pc := 15) X dX11_round_15 rfl ?_
    refine iv_aload_n (pc := 16) X dX11_round_16 rfl ?_
    refine gF_X11_113_75 (pc := 17) X dX11_round_17 ?_
    refine iv_iload_n (pc := 20) X dX11_round_20 rfl ?_
    obtain ⟨hg, hm⟩ := gd_some hm
    refine aL_110 (pc := 21) X dX11_round_21 hg (x := (S.1 110) x2.toNatClampNeg) rfl ?_
    refine iv_iload_n (pc := 22) X dX11_round_22 rfl ?_
    refine iv_iconst (pc := 23) X dX11_round_23 ic_m1 ?_
    refine iv_iconst (pc := 24) X dX11_round_24 ic_m1 ?_
    obtain ⟨⟨r28, S27⟩, hc29, hm⟩ := bd_some hm
    refine cV_X11_474_75 (pc := 25) X [.int ((S.1 110) x2.toNatClampNeg), .int x1, .int (-1), .int (-1)] [.int x3, .ref (ad 128)] 4 rfl (f_X11_enter_e l g ad fu ((S.1 110) x2.toNatClampNeg) x1 (-1) (-1) S _ _ hc29) (by decide) (by decide) (Nat.le_of_ble_eq_true rfl) rfl dX11_round_25 ?_
    obtain ⟨hg, hm⟩ := gd_some hm
    refine aS_128 (pc := 28) X dX11_round_28 hg ?_
    refine iv_iconst (pc := 29) X dX11_round_29 ic_1 ?_
    cases hm
    exact is_zret (pc := 30) X dX11_round_30 rfl
def f_X11_ahead (x1 : Int32) (x2 : Int32) (x3 : Int32) (S : im_S) : Option (Int32 × im_S) := gd (in_b x3 520000) (if ((S.1 126) x3.toNatClampNeg : Int32) ≠ 0 then (gd (in_b x3 520000) (if ((S.1 126) x3.toNatClampNeg : Int32) ≠ 4 then (gd (in_b x1 1200) (if ((S.1 86) x1.toNatClampNeg : Int32) ≠ 45 then (gd (in_b x3 520000) ((f_X11_event x2 2 (1 - ((S.2.1 127) x3.toNatClampNeg)) S).bind (fun qS4 => gd (z_b qS4.1) (some (qS4.1, qS4.2))))) else (gd (in_b x3 520000) ((f_X11_event x2 1 (-((S.2.1 127) x3.toNatClampNeg)) S).bind (fun qS7 => gd (z_b qS7.1) (some (qS7.1, qS7.2))))))) else (gd (in_b x3 520000) ((f_X11_event x2 4 ((S.2.1 127) x3.toNatClampNeg) S).bind (fun qS10 => gd (z_b qS10.1) (some (qS10.1, qS10.2))))))) else (some (0, S)))
set_option maxHeartbeats 4000000 in
set_option maxRecDepth 100000 in
theorem f_X11_ahead_e (l : Launch) (g : im_G) (ad : Nat → Nat) (x1 : Int32) (x2 : Int32) (x3 : Int32) (S : im_S) (r : Int32) (S' : im_S) (hm : f_X11_ahead x1 x2 x3 S = some (r, S')) : im_E l g ad 2 yX11_ahead cX11_ahead 4 (some Jvm.ClassFile.FieldType.boolean) [.ref (ad 75), .int x1, .int x2, .int x3] S (some (.int r)) S' := by
  unfold f_X11_ahead at hm
  refine is_met (own := RX11) (by decide +kernel) rfl (Nat.le_of_ble_eq_true rfl) (fun p e s m below meth c X => ?_)
  refine iv_aload_n (pc := 0) X dX11_ahead_0 rfl ?_
  refine gF_X11_162_75 (pc := 1) X dX11_ahead_1 ?_
  refine iv_iload_n (pc := 4) X dX11_ahead_4 rfl ?_
  obtain ⟨hg, hm⟩ := gd_some hm
  refine aL_126 (pc := 5) X dX11_ahead_5 hg (x := (S.1 126) x3.toNatClampNeg) rfl ?_
  refine iv_if_ne (pc := 6) X dX11_ahead_6 (tgt := 11) rfl (fun hb1 => ?_) (fun hb1 => ?_)
  · rw [if_pos hb1] at hm
    refine iv_aload_n (pc := 11) X dX11_ahead_11 rfl ?_
    refine gF_X11_162_75 (pc := 12) X dX11_ahead_12 ?_
    refine iv_iload_n (pc := 15) X dX11_ahead_15 rfl ?_
    obtain ⟨hg, hm⟩ := gd_some hm
    refine aL_126 (pc := 16) X dX11_ahead_16 hg (x := (S.1 126) x3.toNatClampNeg) rfl ?_
    refine iv_iconst (pc := 17) X dX11_ahead_17 ic_4 ?_
    refine iv_icmp_ne (pc := 18) X dX11_ahead_18 (tgt := 34) rfl (fun hb2 => ?_) (fun hb2 => ?_)
    · rw [if_pos hb2] at hm
      refine iv_aload_n (pc := 34) X dX11_ahead_34 rfl ?_
      refine gF_X11_41_75 (pc := 35) X dX11_ahead_35 ?_
      refine iv_iload_n (pc := 38) X dX11_ahead_38 rfl ?_
      obtain ⟨hg, hm⟩ := gd_some hm
      refine aL_86 (pc := 39) X dX11_ahead_39 hg (x := (S.1 86) x1.toNatClampNeg) rfl ?_
      refine iv_bipush (pc := 40) X dX11_ahead_40 bc_45 ?_
      refine iv_icmp_ne (pc := 42) X dX11_ahead_42 (tgt := 61) rfl (fun hb3 => ?_) (fun hb3 => ?_)
      · rw [if_pos hb3] at hm
        refine iv_aload_n (pc := 61) X dX11_ahead_61 rfl ?_
        refine iv_iload_n (pc := 62) X dX11_ahead_62 rfl ?_
        refine iv_iconst (pc := 63) X dX11_ahead_63 ic_2 ?_
        refine iv_lconst (pc := 64) X dX11_ahead_64 lc_1 ?_
        refine iv_aload_n (pc := 65) X dX11_ahead_65 rfl ?_
        refine gF_X11_165_75 (pc := 66) X dX11_ahead_66 ?_
        refine iv_iload_n (pc := 69) X dX11_ahead_69 rfl ?_
        obtain ⟨hg, hm⟩ := gd_some hm
        refine aL_127 (pc := 70) X dX11_ahead_70 hg (x := (S.2.1 127) x3.toNatClampNeg) rfl ?_
        refine iv_lsub (pc := 71) X dX11_ahead_71 ?_
        obtain ⟨⟨r5, S4⟩, hc6, hm⟩ := bd_some hm
        refine cV_X11_478_75 (pc := 72) X [.int x2, .int 2, .long (1 - ((S.2.1 127) x3.toNatClampNeg))] [] 3 rfl (f_X11_event_e l g ad x2 2 (1 - ((S.2.1 127) x3.toNatClampNeg)) S _ _ hc6) (by decide) (by decide) (Nat.le_of_ble_eq_true rfl) rfl dX11_ahead_72 ?_
        obtain ⟨hg, hm⟩ := gd_some hm
        cases hm
        exact is_zret (pc := 75) X dX11_ahead_75 (z_b_n hg)
      · rw [if_neg hb3] at hm
        refine iv_aload_n (pc := 45) X dX11_ahead_45 rfl ?_
        refine iv_iload_n (pc := 46) X dX11_ahead_46 rfl ?_
        refine iv_iconst (pc := 47) X dX11_ahead_47 ic_1 ?_
        refine iv_aload_n (pc := 48) X dX11_ahead_48 rfl ?_
        refine gF_X11_165_75 (pc := 49) X dX11_ahead_49 ?_
        refine iv_iload_n (pc := 52) X dX11_ahead_52 rfl ?_
        obtain ⟨hg, hm⟩ := gd_some hm
        refine aL_127 (pc := 53) X dX11_ahead_53 hg (x := (S.2.1 127) x3.toNatClampNeg) rfl ?_
        refine iv_lneg (pc := 54) X dX11_ahead_54 ?_
        obtain ⟨⟨r8, S7⟩, hc9, hm⟩ := bd_some hm
        refine cV_X11_478_75 (pc := 55) X [.int x2, .int 1, .long (-((S.2.1 127) x3.toNatClampNeg))] [] 3 rfl (f_X11_event_e l g ad x2 1 (-((S.2.1 127) x3.toNatClampNeg)) S _ _ hc9) (by decide) (by decide) (Nat.le_of_ble_eq_true rfl) rfl dX11_ahead_55 ?_
        refine iv_goto (pc := 58) X dX11_ahead_58 (tgt := 75) rfl ?_
        obtain ⟨hg, hm⟩ := gd_some hm
        cases hm
        exact is_zret (pc := 75) X dX11_ahead_75 (z_b_n hg)
    · rw [if_neg hb2] at hm
      refine iv_aload_n (pc := 21) X dX11_ahead_21 rfl ?_
      refine iv_iload_n (pc := 22) X dX11_ahead_22 rfl ?_
      refine iv_iconst (pc := 23) X dX11_ahead_23 ic_4 ?_
      refine iv_aload_n (pc := 24) X dX11_ahead_24 rfl ?_
      refine gF_X11_165_75 (pc := 25) X dX11_ahead_25 ?_
      refine iv_iload_n (pc := 28) X dX11_ahead_28 rfl ?_
      obtain ⟨hg, hm⟩ := gd_some hm
      refine aL_127 (pc := 29) X dX11_ahead_29 hg (x := (S.2.1 127) x3.toNatClampNeg) rfl ?_
      obtain ⟨⟨r11, S10⟩, hc12, hm⟩ := bd_some hm
      refine cV_X11_478_75 (pc := 30) X [.int x2, .int 4, .long ((S.2.1 127) x3.toNatClampNeg)] [] 3 rfl (f_X11_event_e l g ad x2 4 ((S.2.1 127) x3.toNatClampNeg) S _ _ hc12) (by decide) (by decide) (Nat.le_of_ble_eq_true rfl) rfl dX11_ahead_30 ?_
      obtain ⟨hg, hm⟩ := gd_some hm
      cases hm
      exact is_zret (pc := 33) X dX11_ahead_33 (z_b_n hg)
  · rw [if_neg hb1] at hm
    refine iv_iconst (pc := 9) X dX11_ahead_9 ic_0 ?_
    cases hm
    exact is_zret (pc := 10) X dX11_ahead_10 rfl
def f_X11_errorOf (x1 : Int32) (x2 : Int32) (S : im_S) : Option (Int64 × im_S) := gd (in_b x1 520000) (if ((S.1 126) x1.toNatClampNeg : Int32) = 4 then (gd (in_b x2 520000) (if ((S.1 126) x2.toNatClampNeg : Int32) ≠ 4 then (gd (in_b x1 520000) (some ((S.2.1 127) x1.toNatClampNeg, S))) else (gd (in_b x2 520000) (gd (in_b x1 520000) (if (0 : Int32) ≤ (lg_cmp ((S.2.1 127) x2.toNatClampNeg) ((S.2.1 127) x1.toNatClampNeg)) then (gd (in_b x1 520000) (some ((S.2.1 127) x1.toNatClampNeg, S))) else (gd (in_b x2 520000) (some ((S.2.1 127) x2.toNatClampNeg, S)))))))) else (gd (in_b x2 520000) (if ((S.1 126) x2.toNatClampNeg : Int32) ≠ 4 then (some (0, S)) else (gd (in_b x2 520000) (some ((S.2.1 127) x2.toNatClampNeg, S))))))
set_option maxHeartbeats 4000000 in
set_option maxRecDepth 100000 in
theorem f_X11_errorOf_e (l : Launch) (g : im_G) (ad : Nat → Nat) (x1 : Int32) (x2 : Int32) (S : im_S) (r : Int64) (S' : im_S) (hm : f_X11_errorOf x1 x2 S = some (r, S')) : im_E l g ad 0 yX11_errorOf cX11_errorOf 3 (some Jvm.ClassFile.FieldType.long) [.ref (ad 75), .int x1, .int x2] S (some (.long r)) S' := by
  unfold f_X11_errorOf at hm
  refine is_met (own := RX11) (by decide +kernel) rfl (Nat.le_of_ble_eq_true rfl) (fun p e s m below meth c X => ?_)
  refine iv_aload_n (pc := 0) X dX11_errorOf_0 rfl ?_
  refine gF_X11_162_75 (pc := 1) X dX11_errorOf_1 ?_
  refine iv_iload_n (pc := 4) X dX11_errorOf_4 rfl ?_
  obtain ⟨hg, hm⟩ := gd_some hm
  refine aL_126 (pc := 5) X dX11_errorOf_5 hg (x := (S.1 126) x1.toNatClampNeg) rfl ?_
  refine iv_iconst (pc := 6) X dX11_errorOf_6 ic_4 ?_
  refine iv_icmp_eq (pc := 7) X dX11_errorOf_7 (tgt := 31) rfl (fun hb1 => ?_) (fun hb1 => ?_)
  · rw [if_pos hb1] at hm
    refine iv_aload_n (pc := 31) X dX11_errorOf_31 rfl ?_
    refine gF_X11_162_75 (pc := 32) X dX11_errorOf_32 ?_
    refine iv_iload_n (pc := 35) X dX11_errorOf_35 rfl ?_
    obtain ⟨hg, hm⟩ := gd_some hm
    refine aL_126 (pc := 36) X dX11_errorOf_36 hg (x := (S.1 126) x2.toNatClampNeg) rfl ?_
    refine iv_iconst (pc := 37) X dX11_errorOf_37 ic_4 ?_
    refine iv_icmp_ne (pc := 38) X dX11_errorOf_38 (tgt := 66) rfl (fun hb2 => ?_) (fun hb2 => ?_)
    · rw [if_pos hb2] at hm
      refine iv_aload_n (pc := 66) X dX11_errorOf_66 rfl ?_
      refine gF_X11_165_75 (pc := 67) X dX11_errorOf_67 ?_
      refine iv_iload_n (pc := 70) X dX11_errorOf_70 rfl ?_
      obtain ⟨hg, hm⟩ := gd_some hm
      refine aL_127 (pc := 71) X dX11_errorOf_71 hg (x := (S.2.1 127) x1.toNatClampNeg) rfl ?_
      cases hm
      exact is_lret (pc := 72) X dX11_errorOf_72
    · rw [if_neg hb2] at hm
      refine iv_aload_n (pc := 41) X dX11_errorOf_41 rfl ?_
      refine gF_X11_165_75 (pc := 42) X dX11_errorOf_42 ?_
      refine iv_iload_n (pc := 45) X dX11_errorOf_45 rfl ?_
      obtain ⟨hg, hm⟩ := gd_some hm
      refine aL_127 (pc := 46) X dX11_errorOf_46 hg (x := (S.2.1 127) x2.toNatClampNeg) rfl ?_
      refine iv_aload_n (pc := 47) X dX11_errorOf_47 rfl ?_
      refine gF_X11_165_75 (pc := 48) X dX11_errorOf_48 ?_
      refine iv_iload_n (pc := 51) X dX11_errorOf_51 rfl ?_
      obtain ⟨hg, hm⟩ := gd_some hm
      refine aL_127 (pc := 52) X dX11_errorOf_52 hg (x := (S.2.1 127) x1.toNatClampNeg) rfl ?_
      refine iv_lcmp (pc := 53) X dX11_errorOf_53 ?_
      refine iv_if_ge (pc := 54) X dX11_errorOf_54 (tgt := 66) rfl (fun hb3 => ?_) (fun hb3 => ?_)
      · rw [if_pos hb3] at hm
        refine iv_aload_n (pc := 66) X dX11_errorOf_66 rfl ?_
        refine gF_X11_165_75 (pc := 67) X dX11_errorOf_67 ?_
        refine iv_iload_n (pc := 70) X dX11_errorOf_70 rfl ?_
        obtain ⟨hg, hm⟩ := gd_some hm
        refine aL_127 (pc := 71) X dX11_errorOf_71 hg (x := (S.2.1 127) x1.toNatClampNeg) rfl ?_
        cases hm
        exact is_lret (pc := 72) X dX11_errorOf_72
      · rw [if_neg hb3] at hm
        refine iv_aload_n (pc := 57) X dX11_errorOf_57 rfl ?_
        refine gF_X11_165_75 (pc := 58) X dX11_errorOf_58 ?_
        refine iv_iload_n (pc := 61) X dX11_errorOf_61 rfl ?_
        obtain ⟨hg, hm⟩ := gd_some hm
        refine aL_127 (pc := 62) X dX11_errorOf_62 hg (x := (S.2.1 127) x2.toNatClampNeg) rfl ?_
        refine iv_goto (pc := 63) X dX11_errorOf_63 (tgt := 72) rfl ?_
        cases hm
        exact is_lret (pc := 72) X dX11_errorOf_72
  · rw [if_neg hb1] at hm
    refine iv_aload_n (pc := 10) X dX11_errorOf_10 rfl ?_
    refine gF_X11_162_75 (pc := 11) X dX11_errorOf_11 ?_
    refine iv_iload_n (pc := 14) X dX11_errorOf_14 rfl ?_
    obtain ⟨hg, hm⟩ := gd_some hm
    refine aL_126 (pc := 15) X dX11_errorOf_15 hg (x := (S.1 126) x2.toNatClampNeg) rfl ?_
    refine iv_iconst (pc := 16) X dX11_errorOf_16 ic_4 ?_
    refine iv_icmp_ne (pc := 17) X dX11_errorOf_17 (tgt := 29) rfl (fun hb4 => ?_) (fun hb4 => ?_)
    · rw [if_pos hb4] at hm
      refine iv_lconst (pc := 29) X dX11_errorOf_29 lc_0 ?_
      cases hm
      exact is_lret (pc := 30) X dX11_errorOf_30
    · rw [if_neg hb4] at hm
      refine iv_aload_n (pc := 20) X dX11_errorOf_20 rfl ?_
      refine gF_X11_165_75 (pc := 21) X dX11_errorOf_21 ?_
      refine iv_iload_n (pc := 24) X dX11_errorOf_24 rfl ?_
      obtain ⟨hg, hm⟩ := gd_some hm
      refine aL_127 (pc := 25) X dX11_errorOf_25 hg (x := (S.2.1 127) x2.toNatClampNeg) rfl ?_
      refine iv_goto (pc := 26) X dX11_errorOf_26 (tgt := 30) rfl ?_
      cases hm
      exact is_lret (pc := 30) X dX11_errorOf_30
def f_X11_both (x1 : Int32) (x2 : Int32) (x3 : Int32) (x4 : Int32) (S : im_S) : Option (Int32 × im_S) := gd (in_b x3 520000) (if ((S.1 126) x3.toNatClampNeg : Int32) = 0 then (some (0, S)) else (gd (in_b x4 520000) (if ((S.1 126) x4.toNatClampNeg : Int32) ≠ 0 then ((f_X11_errorOf x3 x4 S).bind (fun qS3 => if (lg_cmp qS3.1 0 : Int32) ≤ 0 then (gd (in_b x3 520000) (gd (in_b x4 520000) (gd (in_b x1 1200) (if ((qS3.2.1 86) x1.toNatClampNeg) = (38 : Int32) then ((f_X11_event x2 2 (((qS3.2.2.1 127) x3.toNatClampNeg) &&& ((qS3.2.2.1 127) x4.toNatClampNeg)) qS3.2).bind (fun qS8 => gd (z_b qS8.1) (some (qS8.1, qS8.2)))) else (if ((qS3.2.1 86) x1.toNatClampNeg) = (42 : Int32) then ((f_X11_event x2 1 (((qS3.2.2.1 127) x3.toNatClampNeg) * ((qS3.2.2.1 127) x4.toNatClampNeg)) qS3.2).bind (fun qS12 => gd (z_b qS12.1) (some (qS12.1, qS12.2)))) else (if ((qS3.2.1 86) x1.toNatClampNeg) = (43 : Int32) then ((f_X11_event x2 1 (((qS3.2.2.1 127) x3.toNatClampNeg) + ((qS3.2.2.1 127) x4.toNatClampNeg)) qS3.2).bind (fun qS16 => gd (z_b qS16.1) (some (qS16.1, qS16.2)))) else (if ((qS3.2.1 86) x1.toNatClampNeg) = (45 : Int32) then ((f_X11_event x2 1 (((qS3.2.2.1 127) x3.toNatClampNeg) - ((qS3.2.2.1 127) x4.toNatClampNeg)) qS3.2).bind (fun qS20 => gd (z_b qS20.1) (some (qS20.1, qS20.2)))) else (if ((qS3.2.1 86) x1.toNatClampNeg) = (60 : Int32) then (if (0 : Int32) ≤ (lg_cmp ((qS3.2.2.1 127) x3.toNatClampNeg) ((qS3.2.2.1 127) x4.toNatClampNeg)) then ((f_X11_event x2 2 0 qS3.2).bind (fun qS25 => gd (z_b qS25.1) (some (qS25.1, qS25.2)))) else ((f_X11_event x2 2 1 qS3.2).bind (fun qS28 => gd (z_b qS28.1) (some (qS28.1, qS28.2))))) else (if ((qS3.2.1 86) x1.toNatClampNeg) = (61 : Int32) then (if (lg_cmp ((qS3.2.2.1 127) x3.toNatClampNeg) ((qS3.2.2.1 127) x4.toNatClampNeg) : Int32) ≠ 0 then ((f_X11_event x2 2 0 qS3.2).bind (fun qS33 => gd (z_b qS33.1) (some (qS33.1, qS33.2)))) else ((f_X11_event x2 2 1 qS3.2).bind (fun qS36 => gd (z_b qS36.1) (some (qS36.1, qS36.2))))) else (if ((qS3.2.1 86) x1.toNatClampNeg) = (124 : Int32) then ((f_X11_event x2 2 (((qS3.2.2.1 127) x3.toNatClampNeg) ||| ((qS3.2.2.1 127) x4.toNatClampNeg)) qS3.2).bind (fun qS40 => gd (z_b qS40.1) (some (qS40.1, qS40.2)))) else (if (lg_cmp ((qS3.2.2.1 127) x4.toNatClampNeg) 0 : Int32) ≠ 0 then (if (lg_cmp ((qS3.2.2.1 127) x4.toNatClampNeg) (-1) : Int32) ≠ 0 then (gd (in_b x1 1200) (if ((qS3.2.1 86) x1.toNatClampNeg : Int32) ≠ 47 then (gd (nz_J ((qS3.2.2.1 127) x4.toNatClampNeg)) ((f_X11_event x2 1 (((qS3.2.2.1 127) x3.toNatClampNeg) - ((qS3.2.2.1 127) x3.toNatClampNeg) / ((qS3.2.2.1 127) x4.toNatClampNeg) * ((qS3.2.2.1 127) x4.toNatClampNeg)) qS3.2).bind (fun qS46 => gd (z_b qS46.1) (some (qS46.1, qS46.2))))) else (gd (nz_J ((qS3.2.2.1 127) x4.toNatClampNeg)) ((f_X11_event x2 1 (((qS3.2.2.1 127) x3.toNatClampNeg) / ((qS3.2.2.1 127) x4.toNatClampNeg)) qS3.2).bind (fun qS49 => gd (z_b qS49.1) (some (qS49.1, qS49.2))))))) else (gd (in_b x1 1200) (if ((qS3.2.1 86) x1.toNatClampNeg : Int32) ≠ 47 then ((f_X11_event x2 1 0 qS3.2).bind (fun qS53 => gd (z_b qS53.1) (some (qS53.1, qS53.2)))) else ((f_X11_event x2 1 (-((qS3.2.2.1 127) x3.toNatClampNeg)) qS3.2).bind (fun qS56 => gd (z_b qS56.1) (some (qS56.1, qS56.2))))))) else ((f_X11_event x2 4 1 qS3.2).bind (fun qS59 => gd (z_b qS59.1) (some (qS59.1, qS59.2))))))))))))))) else ((f_X11_event x2 4 qS3.1 qS3.2).bind (fun qS62 => gd (z_b qS62.1) (some (qS62.1, qS62.2)))))) else (some (0, S)))))
set_option maxHeartbeats 4000000 in
set_option maxRecDepth 100000 in
theorem f_X11_both_e (l : Launch) (g : im_G) (ad : Nat → Nat) (x1 : Int32) (x2 : Int32) (x3 : Int32) (x4 : Int32) (S : im_S) (r : Int32) (S' : im_S) (hm : f_X11_both x1 x2 x3 x4 S = some (r, S')) : im_E l g ad 2 yX11_both cX11_both 11 (some Jvm.ClassFile.FieldType.boolean) [.ref (ad 75), .int x1, .int x2, .int x3, .int x4] S (some (.int r)) S' := by
  unfold f_X11_both at hm
  refine is_met (own := RX11) (by decide +kernel) rfl (Nat.le_of_ble_eq_true rfl) (fun p e s m below meth c X => ?_)
  refine iv_aload_n (pc := 0) X dX11_both_0 rfl ?_
  refine gF_X11_162_75 (pc := 1) X dX11_both_1 ?_
  refine iv_iload_n (pc := 4) X dX11_both_4 rfl ?_
  obtain ⟨hg, hm⟩ := gd_some hm
  refine aL_126 (pc := 5) X dX11_both_5 hg (x := (S.1 126) x3.toNatClampNeg) rfl ?_
  refine iv_if_eq (pc := 6) X dX11_both_6 (tgt := 19) rfl (fun hb1 => ?_) (fun hb1 => ?_)
  · rw [if_pos hb1] at hm
    refine iv_iconst (pc := 19) X dX11_both_19 ic_0 ?_
    cases hm
    exact is_zret (pc := 20) X dX11_both_20 rfl
  · rw [if_neg hb1] at hm
    refine iv_aload_n (pc := 9) X dX11_both_9 rfl ?_
    refine gF_X11_162_75 (pc := 10) X dX11_both_10 ?_
    refine iv_iload (pc := 13) X dX11_both_13 rfl ?_
    obtain ⟨hg, hm⟩ := gd_some hm
    refine aL_126 (pc := 15) X dX11_both_15 hg (x := (S.1 126) x4.toNatClampNeg) rfl ?_
    refine iv_if_ne (pc := 16) X dX11_both_16 (tgt := 21) rfl (fun hb2 => ?_) (fun hb2 => ?_)
    · rw [if_pos hb2] at hm
      refine iv_aload_n (pc := 21) X dX11_both_21 rfl ?_
      refine iv_iload_n (pc := 22) X dX11_both_22 rfl ?_
      refine iv_iload (pc := 23) X dX11_both_23 rfl ?_
      obtain ⟨⟨r4, S3⟩, hc5, hm⟩ := bd_some hm
      refine cV_X11_481_75 (pc := 25) X [.int x3, .int x4] [] 2 rfl (f_X11_errorOf_e l g ad x3 x4 S _ _ hc5) (by decide) (by decide) (Nat.le_of_ble_eq_true rfl) rfl dX11_both_25 ?_
      refine iv_lstore (pc := 28) X dX11_both_28 (by decide) (lv' := [(5, .long r4), (0, .ref (ad 75)), (1, .int x1), (2, .int x2), (3, .int x3), (4, .int x4)]) rfl ?_
      refine iv_lload (pc := 30) X dX11_both_30 rfl ?_
      refine iv_lconst (pc := 32) X dX11_both_32 lc_0 ?_
      refine iv_lcmp (pc := 33) X dX11_both_33 ?_
      refine iv_if_le (pc := 34) X dX11_both_34 (tgt := 46) rfl (fun hb6 => ?_) (fun hb6 => ?_)
      · rw [if_pos hb6] at hm
        refine iv_aload_n (pc := 46) X dX11_both_46 rfl ?_
        refine gF_X11_165_75 (pc := 47) X dX11_both_47 ?_
        refine iv_iload_n (pc := 50) X dX11_both_50 rfl ?_
        obtain ⟨hg, hm⟩ := gd_some hm
        refine aL_127 (pc := 51) X dX11_both_51 hg (x := (S3.2.1 127) x3.toNatClampNeg) rfl ?_
        refine iv_lstore (pc := 52) X dX11_both_52 (by decide) (lv' := [(7, .long ((S3.2.1 127) x3.toNatClampNeg)), (5, .long r4), (0, .ref (ad 75)), (1, .int x1), (2, .int x2), (3, .int x3), (4, .int x4)]) rfl ?_
        refine iv_aload_n (pc := 54) X dX11_both_54 rfl ?_
        refine gF_X11_165_75 (pc := 55) X dX11_both_55 ?_
        refine iv_iload (pc := 58) X dX11_both_58 rfl ?_
        obtain ⟨hg, hm⟩ := gd_some hm
        refine aL_127 (pc := 60) X dX11_both_60 hg (x := (S3.2.1 127) x4.toNatClampNeg) rfl ?_
        refine iv_lstore (pc := 61) X dX11_both_61 (by decide) (lv' := [(9, .long ((S3.2.1 127) x4.toNatClampNeg)), (7, .long ((S3.2.1 127) x3.toNatClampNeg)), (5, .long r4), (0, .ref (ad 75)), (1, .int x1), (2, .int x2), (3, .int x3), (4, .int x4)]) rfl ?_
        refine iv_aload_n (pc := 63) X dX11_both_63 rfl ?_
        refine gF_X11_41_75 (pc := 64) X dX11_both_64 ?_
        refine iv_iload_n (pc := 67) X dX11_both_67 rfl ?_
        obtain ⟨hg, hm⟩ := gd_some hm
        refine aL_86 (pc := 68) X dX11_both_68 hg (x := (S3.1 86) x1.toNatClampNeg) rfl ?_
        by_cases hb7 : ((S3.1 86) x1.toNatClampNeg) = (38 : Int32)
        · rw [if_pos hb7] at hm
          refine iv_lookup X dX11_both_69 (off := 79) (tgt := 148) (by decide) (by rw [hb7]; decide) (by decide) ?_
          refine iv_aload_n (pc := 148) X dX11_both_148 rfl ?_
          refine iv_iload_n (pc := 149) X dX11_both_149 rfl ?_
          refine iv_iconst (pc := 150) X dX11_both_150 ic_2 ?_
          refine iv_lload (pc := 151) X dX11_both_151 rfl ?_
          refine iv_lload (pc := 153) X dX11_both_153 rfl ?_
          refine iv_land (pc := 155) X dX11_both_155 ?_
          obtain ⟨⟨r9, S8⟩, hc10, hm⟩ := bd_some hm
          refine cV_X11_478_75 (pc := 156) X [.int x2, .int 2, .long (((S3.2.1 127) x3.toNatClampNeg) &&& ((S3.2.1 127) x4.toNatClampNeg))] [] 3 rfl (f_X11_event_e l g ad x2 2 (((S3.2.1 127) x3.toNatClampNeg) &&& ((S3.2.1 127) x4.toNatClampNeg)) S3 _ _ hc10) (by decide) (by decide) (Nat.le_of_ble_eq_true rfl) rfl dX11_both_156 ?_
          obtain ⟨hg, hm⟩ := gd_some hm
          cases hm
          exact is_zret (pc := 159) X dX11_both_159 (z_b_n hg)
        · rw [if_neg hb7] at hm
          by_cases hb11 : ((S3.1 86) x1.toNatClampNeg) = (42 : Int32)
          · rw [if_pos hb11] at hm
            refine iv_lookup X dX11_both_69 (off := 155) (tgt := 224) (by decide) (by rw [hb11]; decide) (by decide) ?_
            refine iv_aload_n (pc := 224) X dX11_both_224 rfl ?_
            refine iv_iload_n (pc := 225) X dX11_both_225 rfl ?_
            refine iv_iconst (pc := 226) X dX11_both_226 ic_1 ?_
            refine iv_lload (pc := 227) X dX11_both_227 rfl ?_
            refine iv_lload (pc := 229) X dX11_both_229 rfl ?_
            refine iv_lmul (pc := 231) X dX11_both_231 ?_
            obtain ⟨⟨r13, S12⟩, hc14, hm⟩ := bd_some hm
            refine cV_X11_478_75 (pc := 232) X [.int x2, .int 1, .long (((S3.2.1 127) x3.toNatClampNeg) * ((S3.2.1 127) x4.toNatClampNeg))] [] 3 rfl (f_X11_event_e l g ad x2 1 (((S3.2.1 127) x3.toNatClampNeg) * ((S3.2.1 127) x4.toNatClampNeg)) S3 _ _ hc14) (by decide) (by decide) (Nat.le_of_ble_eq_true rfl) rfl dX11_both_232 ?_
            obtain ⟨hg, hm⟩ := gd_some hm
            cases hm
            exact is_zret (pc := 235) X dX11_both_235 (z_b_n hg)
          · rw [if_neg hb11] at hm
            by_cases hb15 : ((S3.1 86) x1.toNatClampNeg) = (43 : Int32)
            · rw [if_pos hb15] at hm
              refine iv_lookup X dX11_both_69 (off := 131) (tgt := 200) (by decide) (by rw [hb15]; decide) (by decide) ?_
              refine iv_aload_n (pc := 200) X dX11_both_200 rfl ?_
              refine iv_iload_n (pc := 201) X dX11_both_201 rfl ?_
              refine iv_iconst (pc := 202) X dX11_both_202 ic_1 ?_
              refine iv_lload (pc := 203) X dX11_both_203 rfl ?_
              refine iv_lload (pc := 205) X dX11_both_205 rfl ?_
              refine iv_ladd (pc := 207) X dX11_both_207 ?_
              obtain ⟨⟨r17, S16⟩, hc18, hm⟩ := bd_some hm
              refine cV_X11_478_75 (pc := 208) X [.int x2, .int 1, .long (((S3.2.1 127) x3.toNatClampNeg) + ((S3.2.1 127) x4.toNatClampNeg))] [] 3 rfl (f_X11_event_e l g ad x2 1 (((S3.2.1 127) x3.toNatClampNeg) + ((S3.2.1 127) x4.toNatClampNeg)) S3 _ _ hc18) (by decide) (by decide) (Nat.le_of_ble_eq_true rfl) rfl dX11_both_208 ?_
              obtain ⟨hg, hm⟩ := gd_some hm
              cases hm
              exact is_zret (pc := 211) X dX11_both_211 (z_b_n hg)
            · rw [if_neg hb15] at hm
              by_cases hb19 : ((S3.1 86) x1.toNatClampNeg) = (45 : Int32)
              · rw [if_pos hb19] at hm
                refine iv_lookup X dX11_both_69 (off := 143) (tgt := 212) (by decide) (by rw [hb19]; decide) (by decide) ?_
                refine iv_aload_n (pc := 212) X dX11_both_212 rfl ?_
                refine iv_iload_n (pc := 213) X dX11_both_213 rfl ?_
                refine iv_iconst (pc := 214) X dX11_both_214 ic_1 ?_
                refine iv_lload (pc := 215) X dX11_both_215 rfl ?_
                refine iv_lload (pc := 217) X dX11_both_217 rfl ?_
                refine iv_lsub (pc := 219) X dX11_both_219 ?_
                obtain ⟨⟨r21, S20⟩, hc22, hm⟩ := bd_some hm
                refine cV_X11_478_75 (pc := 220) X [.int x2, .int 1, .long (((S3.2.1 127) x3.toNatClampNeg) - ((S3.2.1 127) x4.toNatClampNeg))] [] 3 rfl (f_X11_event_e l g ad x2 1 (((S3.2.1 127) x3.toNatClampNeg) - ((S3.2.1 127) x4.toNatClampNeg)) S3 _ _ hc22) (by decide) (by decide) (Nat.le_of_ble_eq_true rfl) rfl dX11_both_220 ?_
                obtain ⟨hg, hm⟩ := gd_some hm
                cases hm
                exact is_zret (pc := 223) X dX11_both_223 (z_b_n hg)
              · rw [if_neg hb19] at hm
                by_cases hb23 : ((S3.1 86) x1.toNatClampNeg) = (60 : Int32)
                · rw [if_pos hb23] at hm
                  refine iv_lookup X dX11_both_69 (off := 111) (tgt := 180) (by decide) (by rw [hb23]; decide) (by decide) ?_
                  refine iv_aload_n (pc := 180) X dX11_both_180 rfl ?_
                  refine iv_iload_n (pc := 181) X dX11_both_181 rfl ?_
                  refine iv_iconst (pc := 182) X dX11_both_182 ic_2 ?_
                  refine iv_lload (pc := 183) X dX11_both_183 rfl ?_
                  refine iv_lload (pc := 185) X dX11_both_185 rfl ?_
                  refine iv_lcmp (pc := 187) X dX11_both_187 ?_
                  refine iv_if_ge (pc := 188) X dX11_both_188 (tgt := 195) rfl (fun hb24 => ?_) (fun hb24 => ?_)
                  · rw [if_pos hb24] at hm
                    refine iv_lconst (pc := 195) X dX11_both_195 lc_0 ?_
                    obtain ⟨⟨r26, S25⟩, hc27, hm⟩ := bd_some hm
                    refine cV_X11_478_75 (pc := 196) X [.int x2, .int 2, .long 0] [] 3 rfl (f_X11_event_e l g ad x2 2 0 S3 _ _ hc27) (by decide) (by decide) (Nat.le_of_ble_eq_true rfl) rfl dX11_both_196 ?_
                    obtain ⟨hg, hm⟩ := gd_some hm
                    cases hm
                    exact is_zret (pc := 199) X dX11_both_199 (z_b_n hg)
                  · rw [if_neg hb24] at hm
                    refine iv_lconst (pc := 191) X dX11_both_191 lc_1 ?_
                    refine iv_goto (pc := 192) X dX11_both_192 (tgt := 196) rfl ?_
                    obtain ⟨⟨r29, S28⟩, hc30, hm⟩ := bd_some hm
                    refine cV_X11_478_75 (pc := 196) X [.int x2, .int 2, .long 1] [] 3 rfl (f_X11_event_e l g ad x2 2 1 S3 _ _ hc30) (by decide) (by decide) (Nat.le_of_ble_eq_true rfl) rfl dX11_both_196 ?_
                    obtain ⟨hg, hm⟩ := gd_some hm
                    cases hm
                    exact is_zret (pc := 199) X dX11_both_199 (z_b_n hg)
                · rw [if_neg hb23] at hm
                  by_cases hb31 : ((S3.1 86) x1.toNatClampNeg) = (61 : Int32)
                  · rw [if_pos hb31] at hm
                    refine iv_lookup X dX11_both_69 (off := 91) (tgt := 160) (by decide) (by rw [hb31]; decide) (by decide) ?_
                    refine iv_aload_n (pc := 160) X dX11_both_160 rfl ?_
                    refine iv_iload_n (pc := 161) X dX11_both_161 rfl ?_
                    refine iv_iconst (pc := 162) X dX11_both_162 ic_2 ?_
                    refine iv_lload (pc := 163) X dX11_both_163 rfl ?_
                    refine iv_lload (pc := 165) X dX11_both_165 rfl ?_
                    refine iv_lcmp (pc := 167) X dX11_both_167 ?_
                    refine iv_if_ne (pc := 168) X dX11_both_168 (tgt := 175) rfl (fun hb32 => ?_) (fun hb32 => ?_)
                    · rw [if_pos hb32] at hm
                      refine iv_lconst (pc := 175) X dX11_both_175 lc_0 ?_
                      obtain ⟨⟨r34, S33⟩, hc35, hm⟩ := bd_some hm
                      refine cV_X11_478_75 (pc := 176) X [.int x2, .int 2, .long 0] [] 3 rfl (f_X11_event_e l g ad x2 2 0 S3 _ _ hc35) (by decide) (by decide) (Nat.le_of_ble_eq_true rfl) rfl dX11_both_176 ?_
                      obtain ⟨hg, hm⟩ := gd_some hm
                      cases hm
                      exact is_zret (pc := 179) X dX11_both_179 (z_b_n hg)
                    · rw [if_neg hb32] at hm
                      refine iv_lconst (pc := 171) X dX11_both_171 lc_1 ?_
                      refine iv_goto (pc := 172) X dX11_both_172 (tgt := 176) rfl ?_
                      obtain ⟨⟨r37, S36⟩, hc38, hm⟩ := bd_some hm
                      refine cV_X11_478_75 (pc := 176) X [.int x2, .int 2, .long 1] [] 3 rfl (f_X11_event_e l g ad x2 2 1 S3 _ _ hc38) (by decide) (by decide) (Nat.le_of_ble_eq_true rfl) rfl dX11_both_176 ?_
                      obtain ⟨hg, hm⟩ := gd_some hm
                      cases hm
                      exact is_zret (pc := 179) X dX11_both_179 (z_b_n hg)
                  · rw [if_neg hb31] at hm
                    by_cases hb39 : ((S3.1 86) x1.toNatClampNeg) = (124 : Int32)
                    · rw [if_pos hb39] at hm
                      refine iv_lookup X dX11_both_69 (off := 67) (tgt := 136) (by decide) (by rw [hb39]; decide) (by decide) ?_
                      refine iv_aload_n (pc := 136) X dX11_both_136 rfl ?_
                      refine iv_iload_n (pc := 137) X dX11_both_137 rfl ?_
                      refine iv_iconst (pc := 138) X dX11_both_138 ic_2 ?_
                      refine iv_lload (pc := 139) X dX11_both_139 rfl ?_
                      refine iv_lload (pc := 141) X dX11_both_141 rfl ?_
                      refine iv_lor (pc := 143) X dX11_both_143 ?_
                      obtain ⟨⟨r41, S40⟩, hc42, hm⟩ := bd_some hm
                      refine cV_X11_478_75 (pc := 144) X [.int x2, .int 2, .long (((S3.2.1 127) x3.toNatClampNeg) ||| ((S3.2.1 127) x4.toNatClampNeg))] [] 3 rfl (f_X11_event_e l g ad x2 2 (((S3.2.1 127) x3.toNatClampNeg) ||| ((S3.2.1 127) x4.toNatClampNeg)) S3 _ _ hc42) (by decide) (by decide) (Nat.le_of_ble_eq_true rfl) rfl dX11_both_144 ?_
                      obtain ⟨hg, hm⟩ := gd_some hm
                      cases hm
                      exact is_zret (pc := 147) X dX11_both_147 (z_b_n hg)
                    · rw [if_neg hb39] at hm
                      have k0 := sw_ne hb7 (n := 38) (by decide)
                      have k1 := sw_ne hb11 (n := 42) (by decide)
                      have k2 := sw_ne hb15 (n := 43) (by decide)
                      have k3 := sw_ne hb19 (n := 45) (by decide)
                      have k4 := sw_ne hb23 (n := 60) (by decide)
                      have k5 := sw_ne hb31 (n := 61) (by decide)
                      have k6 := sw_ne hb39 (n := 124) (by decide)
                      refine iv_lookup X dX11_both_69 (off := 167) (tgt := 236) (by decide) (by simp [Op.lookupswitch.offset, k0, k0.symm, k1, k1.symm, k2, k2.symm, k3, k3.symm, k4, k4.symm, k5, k5.symm, k6, k6.symm]) (by decide) ?_
                      refine iv_lload (pc := 236) X dX11_both_236 rfl ?_
                      refine iv_lconst (pc := 238) X dX11_both_238 lc_0 ?_
                      refine iv_lcmp (pc := 239) X dX11_both_239 ?_
                      refine iv_if_ne (pc := 240) X dX11_both_240 (tgt := 251) rfl (fun hb43 => ?_) (fun hb43 => ?_)
                      · rw [if_pos hb43] at hm
                        refine iv_lload (pc := 251) X dX11_both_251 rfl ?_
                        refine iv_ldc2 (pc := 253) X wk_X11_485 dX11_both_253 ?_
                        refine iv_lcmp (pc := 256) X dX11_both_256 ?_
                        refine iv_if_ne (pc := 257) X dX11_both_257 (tgt := 285) rfl (fun hb44 => ?_) (fun hb44 => ?_)
                        · rw [if_pos hb44] at hm
                          refine iv_aload_n (pc := 285) X dX11_both_285 rfl ?_
                          refine iv_iload_n (pc := 286) X dX11_both_286 rfl ?_
                          refine iv_iconst (pc := 287) X dX11_both_287 ic_1 ?_
                          refine iv_aload_n (pc := 288) X dX11_both_288 rfl ?_
                          refine gF_X11_41_75 (pc := 289) X dX11_both_289 ?_
                          refine iv_iload_n (pc := 292) X dX11_both_292 rfl ?_
                          obtain ⟨hg, hm⟩ := gd_some hm
                          refine aL_86 (pc := 293) X dX11_both_293 hg (x := (S3.1 86) x1.toNatClampNeg) rfl ?_
                          refine iv_bipush (pc := 294) X dX11_both_294 bc_47 ?_
                          refine iv_icmp_ne (pc := 296) X dX11_both_296 (tgt := 307) rfl (fun hb45 => ?_) (fun hb45 => ?_)
                          · rw [if_pos hb45] at hm
                            refine iv_lload (pc := 307) X dX11_both_307 rfl ?_
                            refine iv_lload (pc := 309) X dX11_both_309 rfl ?_
                            obtain ⟨hg, hm⟩ := gd_some hm
                            refine iv_lrem (pc := 311) X dX11_both_311 (of_decide_eq_true hg) ?_
                            obtain ⟨⟨r47, S46⟩, hc48, hm⟩ := bd_some hm
                            refine cV_X11_478_75 (pc := 312) X [.int x2, .int 1, .long (((S3.2.1 127) x3.toNatClampNeg) - ((S3.2.1 127) x3.toNatClampNeg) / ((S3.2.1 127) x4.toNatClampNeg) * ((S3.2.1 127) x4.toNatClampNeg))] [] 3 rfl (f_X11_event_e l g ad x2 1 (((S3.2.1 127) x3.toNatClampNeg) - ((S3.2.1 127) x3.toNatClampNeg) / ((S3.2.1 127) x4.toNatClampNeg) * ((S3.2.1 127) x4.toNatClampNeg)) S3 _ _ hc48) (by decide) (by decide) (Nat.le_of_ble_eq_true rfl) rfl dX11_both_312 ?_
                            obtain ⟨hg, hm⟩ := gd_some hm
                            cases hm
                            exact is_zret (pc := 315) X dX11_both_315 (z_b_n hg)
                          · rw [if_neg hb45] at hm
                            refine iv_lload (pc := 299) X dX11_both_299 rfl ?_
                            refine iv_lload (pc := 301) X dX11_both_301 rfl ?_
                            obtain ⟨hg, hm⟩ := gd_some hm
                            refine iv_ldiv (pc := 303) X dX11_both_303 (of_decide_eq_true hg) ?_
                            refine iv_goto (pc := 304) X dX11_both_304 (tgt := 312) rfl ?_
                            obtain ⟨⟨r50, S49⟩, hc51, hm⟩ := bd_some hm
                            refine cV_X11_478_75 (pc := 312) X [.int x2, .int 1, .long (((S3.2.1 127) x3.toNatClampNeg) / ((S3.2.1 127) x4.toNatClampNeg))] [] 3 rfl (f_X11_event_e l g ad x2 1 (((S3.2.1 127) x3.toNatClampNeg) / ((S3.2.1 127) x4.toNatClampNeg)) S3 _ _ hc51) (by decide) (by decide) (Nat.le_of_ble_eq_true rfl) rfl dX11_both_312 ?_
                            obtain ⟨hg, hm⟩ := gd_some hm
                            cases hm
                            exact is_zret (pc := 315) X dX11_both_315 (z_b_n hg)
                        · rw [if_neg hb44] at hm
                          refine iv_aload_n (pc := 260) X dX11_both_260 rfl ?_
                          refine iv_iload_n (pc := 261) X dX11_both_261 rfl ?_
                          refine iv_iconst (pc := 262) X dX11_both_262 ic_1 ?_
                          refine iv_aload_n (pc := 263) X dX11_both_263 rfl ?_
                          refine gF_X11_41_75 (pc := 264) X dX11_both_264 ?_
                          refine iv_iload_n (pc := 267) X dX11_both_267 rfl ?_
                          obtain ⟨hg, hm⟩ := gd_some hm
                          refine aL_86 (pc := 268) X dX11_both_268 hg (x := (S3.1 86) x1.toNatClampNeg) rfl ?_
                          refine iv_bipush (pc := 269) X dX11_both_269 bc_47 ?_
                          refine iv_icmp_ne (pc := 271) X dX11_both_271 (tgt := 280) rfl (fun hb52 => ?_) (fun hb52 => ?_)
                          · rw [if_pos hb52] at hm
                            refine iv_lconst (pc := 280) X dX11_both_280 lc_0 ?_
                            obtain ⟨⟨r54, S53⟩, hc55, hm⟩ := bd_some hm
                            refine cV_X11_478_75 (pc := 281) X [.int x2, .int 1, .long 0] [] 3 rfl (f_X11_event_e l g ad x2 1 0 S3 _ _ hc55) (by decide) (by decide) (Nat.le_of_ble_eq_true rfl) rfl dX11_both_281 ?_
                            obtain ⟨hg, hm⟩ := gd_some hm
                            cases hm
                            exact is_zret (pc := 284) X dX11_both_284 (z_b_n hg)
                          · rw [if_neg hb52] at hm
                            refine iv_lload (pc := 274) X dX11_both_274 rfl ?_
                            refine iv_lneg (pc := 276) X dX11_both_276 ?_
                            refine iv_goto (pc := 277) X dX11_both_277 (tgt := 281) rfl ?_
                            obtain ⟨⟨r57, S56⟩, hc58, hm⟩ := bd_some hm
                            refine cV_X11_478_75 (pc := 281) X [.int x2, .int 1, .long (-((S3.2.1 127) x3.toNatClampNeg))] [] 3 rfl (f_X11_event_e l g ad x2 1 (-((S3.2.1 127) x3.toNatClampNeg)) S3 _ _ hc58) (by decide) (by decide) (Nat.le_of_ble_eq_true rfl) rfl dX11_both_281 ?_
                            obtain ⟨hg, hm⟩ := gd_some hm
                            cases hm
                            exact is_zret (pc := 284) X dX11_both_284 (z_b_n hg)
                      · rw [if_neg hb43] at hm
                        refine iv_aload_n (pc := 243) X dX11_both_243 rfl ?_
                        refine iv_iload_n (pc := 244) X dX11_both_244 rfl ?_
                        refine iv_iconst (pc := 245) X dX11_both_245 ic_4 ?_
                        refine iv_lconst (pc := 246) X dX11_both_246 lc_1 ?_
                        obtain ⟨⟨r60, S59⟩, hc61, hm⟩ := bd_some hm
                        refine cV_X11_478_75 (pc := 247) X [.int x2, .int 4, .long 1] [] 3 rfl (f_X11_event_e l g ad x2 4 1 S3 _ _ hc61) (by decide) (by decide) (Nat.le_of_ble_eq_true rfl) rfl dX11_both_247 ?_
                        obtain ⟨hg, hm⟩ := gd_some hm
                        cases hm
                        exact is_zret (pc := 250) X dX11_both_250 (z_b_n hg)
      · rw [if_neg hb6] at hm
        refine iv_aload_n (pc := 37) X dX11_both_37 rfl ?_
        refine iv_iload_n (pc := 38) X dX11_both_38 rfl ?_
        refine iv_iconst (pc := 39) X dX11_both_39 ic_4 ?_
        refine iv_lload (pc := 40) X dX11_both_40 rfl ?_
        obtain ⟨⟨r63, S62⟩, hc64, hm⟩ := bd_some hm
        refine cV_X11_478_75 (pc := 42) X [.int x2, .int 4, .long r4] [] 3 rfl (f_X11_event_e l g ad x2 4 r4 S3 _ _ hc64) (by decide) (by decide) (Nat.le_of_ble_eq_true rfl) rfl dX11_both_42 ?_
        obtain ⟨hg, hm⟩ := gd_some hm
        cases hm
        exact is_zret (pc := 45) X dX11_both_45 (z_b_n hg)
    · rw [if_neg hb2] at hm
      refine iv_iconst (pc := 19) X dX11_both_19 ic_0 ?_
      cases hm
      exact is_zret (pc := 20) X dX11_both_20 rfl
def f_X11_cellOf (x1 : Int32) (x2 : Int32) (x3 : Int32) (S : im_S) : Option (Int32 × im_S) := gd (in_b x2 520000) (if ((S.1 126) x2.toNatClampNeg : Int32) = 0 then (some (0, S)) else (gd (in_b x3 520000) (if ((S.1 126) x3.toNatClampNeg : Int32) ≠ 0 then ((f_X11_errorOf x2 x3 S).bind (fun qS3 => if (lg_cmp qS3.1 0 : Int32) ≤ 0 then (gd (in_b x2 520000) (gd (in_b x3 520000) (if (lg_cmp ((qS3.2.2.1 127) x3.toNatClampNeg) 0 : Int32) < 0 then ((f_X11_event x1 4 2 qS3.2).bind (fun qS8 => gd (z_b qS8.1) (some (qS8.1, qS8.2)))) else (gd (in_b x3 520000) (gd (in_b (((qS3.2.2.1 127) x2.toNatClampNeg).toInt32) 1002) (if (lg_cmp ((qS3.2.2.1 127) x3.toNatClampNeg) (((qS3.2.1 130) ((((qS3.2.2.1 127) x2.toNatClampNeg).toInt32).toNatClampNeg)).toInt64) : Int32) < 0 then (gd (in_b (((qS3.2.2.1 127) x2.toNatClampNeg).toInt32) 1002) (gd (in_b x3 520000) ((f_X11_rootSlot (((qS3.2.1 129) ((((qS3.2.2.1 127) x2.toNatClampNeg).toInt32).toNatClampNeg)) + (((qS3.2.2.1 127) x3.toNatClampNeg).toInt32)) qS3.2).bind (fun qS12 => gd (in_b qS12.1 520000) (if ((qS12.2.1 126) qS12.1.toNatClampNeg : Int32) = 0 then (some (0, qS12.2)) else (gd (in_b qS12.1 520000) (gd (in_b qS12.1 520000) ((f_X11_event x1 ((qS12.2.1 126) qS12.1.toNatClampNeg) ((qS12.2.2.1 127) qS12.1.toNatClampNeg) qS12.2).bind (fun qS16 => if (qS16.1 : Int32) = 0 then (some (0, qS16.2)) else (some (1, qS16.2))))))))))) else ((f_X11_event x1 4 2 qS3.2).bind (fun qS20 => gd (z_b qS20.1) (some (qS20.1, qS20.2)))))))))) else ((f_X11_event x1 4 qS3.1 qS3.2).bind (fun qS23 => gd (z_b qS23.1) (some (qS23.1, qS23.2)))))) else (some (0, S)))))
set_option maxHeartbeats 4000000 in
set_option maxRecDepth 100000 in
theorem f_X11_cellOf_e (l : Launch) (g : im_G) (ad : Nat → Nat) (x1 : Int32) (x2 : Int32) (x3 : Int32) (S : im_S) (r : Int32) (S' : im_S) (hm : f_X11_cellOf x1 x2 x3 S = some (r, S')) : im_E l g ad 2 yX11_cellOf cX11_cellOf 8 (some Jvm.ClassFile.FieldType.boolean) [.ref (ad 75), .int x1, .int x2, .int x3] S (some (.int r)) S' := by
  unfold f_X11_cellOf at hm
  refine is_met (own := RX11) (by decide +kernel) rfl (Nat.le_of_ble_eq_true rfl) (fun p e s m below meth c X => ?_)
  refine iv_aload_n (pc := 0) X dX11_cellOf_0 rfl ?_
  refine gF_X11_162_75 (pc := 1) X dX11_cellOf_1 ?_
  refine iv_iload_n (pc := 4) X dX11_cellOf_4 rfl ?_
  obtain ⟨hg, hm⟩ := gd_some hm
  refine aL_126 (pc := 5) X dX11_cellOf_5 hg (x := (S.1 126) x2.toNatClampNeg) rfl ?_
  refine iv_if_eq (pc := 6) X dX11_cellOf_6 (tgt := 18) rfl (fun hb1 => ?_) (fun hb1 => ?_)
  · rw [if_pos hb1] at hm
    refine iv_iconst (pc := 18) X dX11_cellOf_18 ic_0 ?_
    cases hm
    exact is_zret (pc := 19) X dX11_cellOf_19 rfl
  · rw [if_neg hb1] at hm
    refine iv_aload_n (pc := 9) X dX11_cellOf_9 rfl ?_
    refine gF_X11_162_75 (pc := 10) X dX11_cellOf_10 ?_
    refine iv_iload_n (pc := 13) X dX11_cellOf_13 rfl ?_
    obtain ⟨hg, hm⟩ := gd_some hm
    refine aL_126 (pc := 14) X dX11_cellOf_14 hg (x := (S.1 126) x3.toNatClampNeg) rfl ?_
    refine iv_if_ne (pc := 15) X dX11_cellOf_15 (tgt := 20) rfl (fun hb2 => ?_) (fun hb2 => ?_)
    · rw [if_pos hb2] at hm
      refine iv_aload_n (pc := 20) X dX11_cellOf_20 rfl ?_
      refine iv_iload_n (pc := 21) X dX11_cellOf_21 rfl ?_
      refine iv_iload_n (pc := 22) X dX11_cellOf_22 rfl ?_
      obtain ⟨⟨r4, S3⟩, hc5, hm⟩ := bd_some hm
      refine cV_X11_481_75 (pc := 23) X [.int x2, .int x3] [] 2 rfl (f_X11_errorOf_e l g ad x2 x3 S _ _ hc5) (by decide) (by decide) (Nat.le_of_ble_eq_true rfl) rfl dX11_cellOf_23 ?_
      refine iv_lstore (pc := 26) X dX11_cellOf_26 (by decide) (lv' := [(4, .long r4), (0, .ref (ad 75)), (1, .int x1), (2, .int x2), (3, .int x3)]) rfl ?_
      refine iv_lload (pc := 28) X dX11_cellOf_28 rfl ?_
      refine iv_lconst (pc := 30) X dX11_cellOf_30 lc_0 ?_
      refine iv_lcmp (pc := 31) X dX11_cellOf_31 ?_
      refine iv_if_le (pc := 32) X dX11_cellOf_32 (tgt := 44) rfl (fun hb6 => ?_) (fun hb6 => ?_)
      · rw [if_pos hb6] at hm
        refine iv_aload_n (pc := 44) X dX11_cellOf_44 rfl ?_
        refine gF_X11_165_75 (pc := 45) X dX11_cellOf_45 ?_
        refine iv_iload_n (pc := 48) X dX11_cellOf_48 rfl ?_
        obtain ⟨hg, hm⟩ := gd_some hm
        refine aL_127 (pc := 49) X dX11_cellOf_49 hg (x := (S3.2.1 127) x2.toNatClampNeg) rfl ?_
        refine iv_l2i (pc := 50) X dX11_cellOf_50 rfl ?_
        refine iv_istore (pc := 51) X dX11_cellOf_51 (by decide) (lv' := [(6, .int (((S3.2.1 127) x2.toNatClampNeg).toInt32)), (4, .long r4), (0, .ref (ad 75)), (1, .int x1), (2, .int x2), (3, .int x3)]) rfl ?_
        refine iv_aload_n (pc := 53) X dX11_cellOf_53 rfl ?_
        refine gF_X11_165_75 (pc := 54) X dX11_cellOf_54 ?_
        refine iv_iload_n (pc := 57) X dX11_cellOf_57 rfl ?_
        obtain ⟨hg, hm⟩ := gd_some hm
        refine aL_127 (pc := 58) X dX11_cellOf_58 hg (x := (S3.2.1 127) x3.toNatClampNeg) rfl ?_
        refine iv_lconst (pc := 59) X dX11_cellOf_59 lc_0 ?_
        refine iv_lcmp (pc := 60) X dX11_cellOf_60 ?_
        refine iv_if_lt (pc := 61) X dX11_cellOf_61 (tgt := 82) rfl (fun hb7 => ?_) (fun hb7 => ?_)
        · rw [if_pos hb7] at hm
          refine iv_aload_n (pc := 82) X dX11_cellOf_82 rfl ?_
          refine iv_iload_n (pc := 83) X dX11_cellOf_83 rfl ?_
          refine iv_iconst (pc := 84) X dX11_cellOf_84 ic_4 ?_
          refine iv_ldc2 (pc := 85) X wk_X11_487 dX11_cellOf_85 ?_
          obtain ⟨⟨r9, S8⟩, hc10, hm⟩ := bd_some hm
          refine cV_X11_478_75 (pc := 88) X [.int x1, .int 4, .long 2] [] 3 rfl (f_X11_event_e l g ad x1 4 2 S3 _ _ hc10) (by decide) (by decide) (Nat.le_of_ble_eq_true rfl) rfl dX11_cellOf_88 ?_
          obtain ⟨hg, hm⟩ := gd_some hm
          cases hm
          exact is_zret (pc := 91) X dX11_cellOf_91 (z_b_n hg)
        · rw [if_neg hb7] at hm
          refine iv_aload_n (pc := 64) X dX11_cellOf_64 rfl ?_
          refine gF_X11_165_75 (pc := 65) X dX11_cellOf_65 ?_
          refine iv_iload_n (pc := 68) X dX11_cellOf_68 rfl ?_
          obtain ⟨hg, hm⟩ := gd_some hm
          refine aL_127 (pc := 69) X dX11_cellOf_69 hg (x := (S3.2.1 127) x3.toNatClampNeg) rfl ?_
          refine iv_aload_n (pc := 70) X dX11_cellOf_70 rfl ?_
          refine gF_X11_174_75 (pc := 71) X dX11_cellOf_71 ?_
          refine iv_iload (pc := 74) X dX11_cellOf_74 rfl ?_
          obtain ⟨hg, hm⟩ := gd_some hm
          refine aL_130 (pc := 76) X dX11_cellOf_76 hg (x := (S3.1 130) ((((S3.2.1 127) x2.toNatClampNeg).toInt32).toNatClampNeg)) rfl ?_
          refine iv_i2l (pc := 77) X dX11_cellOf_77 rfl ?_
          refine iv_lcmp (pc := 78) X dX11_cellOf_78 ?_
          refine iv_if_lt (pc := 79) X dX11_cellOf_79 (tgt := 92) rfl (fun hb11 => ?_) (fun hb11 => ?_)
          · rw [if_pos hb11] at hm
            refine iv_aload_n (pc := 92) X dX11_cellOf_92 rfl ?_
            refine iv_aload_n (pc := 93) X dX11_cellOf_93 rfl ?_
            refine gF_X11_171_75 (pc := 94) X dX11_cellOf_94 ?_
            refine iv_iload (pc := 97) X dX11_cellOf_97 rfl ?_
            obtain ⟨hg, hm⟩ := gd_some hm
            refine aL_129 (pc := 99) X dX11_cellOf_99 hg (x := (S3.1 129) ((((S3.2.1 127) x2.toNatClampNeg).toInt32).toNatClampNeg)) rfl ?_
            refine iv_aload_n (pc := 100) X dX11_cellOf_100 rfl ?_
            refine gF_X11_165_75 (pc := 101) X dX11_cellOf_101 ?_
            refine iv_iload_n (pc := 104) X dX11_cellOf_104 rfl ?_
            obtain ⟨hg, hm⟩ := gd_some hm
            refine aL_127 (pc := 105) X dX11_cellOf_105 hg (x := (S3.2.1 127) x3.toNatClampNeg) rfl ?_
            refine iv_l2i (pc := 106) X dX11_cellOf_106 rfl ?_
            refine iv_iadd (pc := 107) X dX11_cellOf_107 ?_
            obtain ⟨⟨r13, S12⟩, hc14, hm⟩ := bd_some hm
            refine cV_X11_471_75 (pc := 108) X [.int (((S3.1 129) ((((S3.2.1 127) x2.toNatClampNeg).toInt32).toNatClampNeg)) + (((S3.2.1 127) x3.toNatClampNeg).toInt32))] [] 1 rfl (f_X11_rootSlot_e l g ad (((S3.1 129) ((((S3.2.1 127) x2.toNatClampNeg).toInt32).toNatClampNeg)) + (((S3.2.1 127) x3.toNatClampNeg).toInt32)) S3 _ _ hc14) (by decide) (by decide) (Nat.le_of_ble_eq_true rfl) rfl dX11_cellOf_108 ?_
            refine iv_istore (pc := 111) X dX11_cellOf_111 (by decide) (lv' := [(7, .int r13), (6, .int (((S3.2.1 127) x2.toNatClampNeg).toInt32)), (4, .long r4), (0, .ref (ad 75)), (1, .int x1), (2, .int x2), (3, .int x3)]) rfl ?_
            refine iv_aload_n (pc := 113) X dX11_cellOf_113 rfl ?_
            refine gF_X11_162_75 (pc := 114) X dX11_cellOf_114 ?_
            refine iv_iload (pc := 117) X dX11_cellOf_117 rfl ?_
            obtain ⟨hg, hm⟩ := gd_some hm
            refine aL_126 (pc := 119) X dX11_cellOf_119 hg (x := (S12.1 126) r13.toNatClampNeg) rfl ?_
            refine iv_if_eq (pc := 120) X dX11_cellOf_120 (tgt := 149) rfl (fun hb15 => ?_) (fun hb15 => ?_)
            · rw [if_pos hb15] at hm
              refine iv_iconst (pc := 149) X dX11_cellOf_149 ic_0 ?_
              cases hm
              exact is_zret (pc := 150) X dX11_cellOf_150 rfl
            · rw [if_neg hb15] at hm
              refine iv_aload_n (pc := 123) X dX11_cellOf_123 rfl ?_
              refine iv_iload_n (pc := 124) X dX11_cellOf_124 rfl ?_
              refine iv_aload_n (pc := 125) X dX11_cellOf_125 rfl ?_
              refine gF_X11_162_75 (pc := 126) X dX11_cellOf_126 ?_
              refine iv_iload (pc := 129) X dX11_cellOf_129 rfl ?_
              obtain ⟨hg, hm⟩ := gd_some hm
              refine aL_126 (pc := 131) X dX11_cellOf_131 hg (x := (S12.1 126) r13.toNatClampNeg) rfl ?_
              refine iv_aload_n (pc := 132) X dX11_cellOf_132 rfl ?_
              refine gF_X11_165_75 (pc := 133) X dX11_cellOf_133 ?_
              refine iv_iload (pc := 136) X dX11_cellOf_136 rfl ?_
              obtain ⟨hg, hm⟩ := gd_some hm
              refine aL_127 (pc := 138) X dX11_cellOf_138 hg (x := (S12.2.1 127) r13.toNatClampNeg) rfl ?_
              obtain ⟨⟨r17, S16⟩, hc18, hm⟩ := bd_some hm
              refine cV_X11_478_75 (pc := 139) X [.int x1, .int ((S12.1 126) r13.toNatClampNeg), .long ((S12.2.1 127) r13.toNatClampNeg)] [] 3 rfl (f_X11_event_e l g ad x1 ((S12.1 126) r13.toNatClampNeg) ((S12.2.1 127) r13.toNatClampNeg) S12 _ _ hc18) (by decide) (by decide) (Nat.le_of_ble_eq_true rfl) rfl dX11_cellOf_139 ?_
              refine iv_if_eq (pc := 142) X dX11_cellOf_142 (tgt := 149) rfl (fun hb19 => ?_) (fun hb19 => ?_)
              · rw [if_pos hb19] at hm
                refine iv_iconst (pc := 149) X dX11_cellOf_149 ic_0 ?_
                cases hm
                exact is_zret (pc := 150) X dX11_cellOf_150 rfl
              · rw [if_neg hb19] at hm
                refine iv_iconst (pc := 145) X dX11_cellOf_145 ic_1 ?_
                refine iv_goto (pc := 146) X dX11_cellOf_146 (tgt := 150) rfl ?_
                cases hm
                exact is_zret (pc := 150) X dX11_cellOf_150 rfl
          · rw [if_neg hb11] at hm
            refine iv_aload_n (pc := 82) X dX11_cellOf_82 rfl ?_
            refine iv_iload_n (pc := 83) X dX11_cellOf_83 rfl ?_
            refine iv_iconst (pc := 84) X dX11_cellOf_84 ic_4 ?_
            refine iv_ldc2 (pc := 85) X wk_X11_487 dX11_cellOf_85 ?_
            obtain ⟨⟨r21, S20⟩, hc22, hm⟩ := bd_some hm
            refine cV_X11_478_75 (pc := 88) X [.int x1, .int 4, .long 2] [] 3 rfl (f_X11_event_e l g ad x1 4 2 S3 _ _ hc22) (by decide) (by decide) (Nat.le_of_ble_eq_true rfl) rfl dX11_cellOf_88 ?_
            obtain ⟨hg, hm⟩ := gd_some hm
            cases hm
            exact is_zret (pc := 91) X dX11_cellOf_91 (z_b_n hg)
      · rw [if_neg hb6] at hm
        refine iv_aload_n (pc := 35) X dX11_cellOf_35 rfl ?_
        refine iv_iload_n (pc := 36) X dX11_cellOf_36 rfl ?_
        refine iv_iconst (pc := 37) X dX11_cellOf_37 ic_4 ?_
        refine iv_lload (pc := 38) X dX11_cellOf_38 rfl ?_
        obtain ⟨⟨r24, S23⟩, hc25, hm⟩ := bd_some hm
        refine cV_X11_478_75 (pc := 40) X [.int x1, .int 4, .long r4] [] 3 rfl (f_X11_event_e l g ad x1 4 r4 S3 _ _ hc25) (by decide) (by decide) (Nat.le_of_ble_eq_true rfl) rfl dX11_cellOf_40 ?_
        obtain ⟨hg, hm⟩ := gd_some hm
        cases hm
        exact is_zret (pc := 43) X dX11_cellOf_43 (z_b_n hg)
    · rw [if_neg hb2] at hm
      refine iv_iconst (pc := 18) X dX11_cellOf_18 ic_0 ?_
      cases hm
      exact is_zret (pc := 19) X dX11_cellOf_19 rfl
def f_X11_table_L110 (fu : Nat) : Nat → Int32 → Int32 → Int32 → Int32 → Int32 → Int32 → im_S → Option (Int32 × im_S)
  | 0, _, _, _, _, _, _, _ => none
  | nf + 1, z1, z2, z3, z4, z5, z6, S => if (z5 : Int32) ≤ z6 then ((f_X11_event z3 3 ((((S.1 75 68) + 1) - 1).toInt64) (uI (uI S 75 72 ((S.1 75 72) + z5)) 75 68 ((S.1 75 68) + 1))).bind (fun qS2 => gd (z_b qS2.1) (some (qS2.1, qS2.2)))) else (gd (in_b z2 1200) ((f_X11_enter fu ((S.1 110) z2.toNatClampNeg) z1 (-1) z6 S).bind (fun qS5 => f_X11_table_L110 fu nf z1 z2 z3 z4 z5 (z6 + 1) qS5.2)))
set_option maxHeartbeats 4000000 in
set_option maxRecDepth 100000 in
theorem f_X11_table_L110_w {fu : Nat} (l : Launch) (g : im_G) (ad : Nat → Nat) {p : Program} {e : Env} {s : State} {m : MethodId} {below : List Frame} {meth : Method} {c : Code} {args : Array Value} (X : im_X p l s m args meth c g cX11_table 7 RX11 (some Jvm.ClassFile.FieldType.boolean)) : ∀ (nf : Nat) (z1 : Int32) (z2 : Int32) (z3 : Int32) (z4 : Int32) (z5 : Int32) (z6 : Int32) (S : im_S) (r : Int32) (S' : im_S), f_X11_table_L110 fu nf z1 z2 z3 z4 z5 z6 S = some (r, S') → im_V p l e (im_R 2 0 0) s m args below meth c g 7 (im_Z below g ad args s (some (.int r)) S') ad im_N (im_cn g ad S) 0 0 110 [(0, .ref (ad 75)), (1, .int z1), (2, .int z2), (3, .int z3), (4, .int z4), (5, .int z5), (6, .int z6)] [] := by
  intro nf
  induction nf with
  | zero =>
    intro z1 z2 z3 z4 z5 z6 S r S' hm
    cases hm
  | succ nf ih =>
    intro z1 z2 z3 z4 z5 z6 S r S' hm
    unfold f_X11_table_L110 at hm
    refine iv_iload (pc := 110) X dX11_table_110 rfl ?_
    refine iv_iload (pc := 112) X dX11_table_112 rfl ?_
    refine iv_icmp_ge (pc := 114) X dX11_table_114 (tgt := 138) rfl (fun hb1 => ?_) (fun hb1 => ?_)
    · rw [if_pos hb1] at hm
      refine iv_aload_n (pc := 138) X dX11_table_138 rfl ?_
      refine iv_dup (pc := 139) X dX11_table_139 rfl ?_
      refine gF_X11_404_75 (pc := 140) X dX11_table_140 (x := S.1 75 72) rfl ?_
      refine iv_iload (pc := 143) X dX11_table_143 rfl ?_
      refine iv_iadd (pc := 145) X dX11_table_145 ?_
      refine pF_X11_404_75 (pc := 146) X dX11_table_146 ?_
      refine iv_aload_n (pc := 149) X dX11_table_149 rfl ?_
      refine iv_dup (pc := 150) X dX11_table_150 rfl ?_
      refine gF_X11_493_75 (pc := 151) X dX11_table_151 (x := S.1 75 68) rfl ?_
      refine iv_iconst (pc := 154) X dX11_table_154 ic_1 ?_
      refine iv_iadd (pc := 155) X dX11_table_155 ?_
      refine pF_X11_493_75 (pc := 156) X dX11_table_156 ?_
      refine iv_aload_n (pc := 159) X dX11_table_159 rfl ?_
      refine iv_iload_n (pc := 160) X dX11_table_160 rfl ?_
      refine iv_iconst (pc := 161) X dX11_table_161 ic_3 ?_
      refine iv_aload_n (pc := 162) X dX11_table_162 rfl ?_
      refine gF_X11_493_75 (pc := 163) X dX11_table_163 (x := (S.1 75 68) + 1) rfl ?_
      refine iv_iconst (pc := 166) X dX11_table_166 ic_1 ?_
      refine iv_isub (pc := 167) X dX11_table_167 ?_
      refine iv_i2l (pc := 168) X dX11_table_168 rfl ?_
      obtain ⟨⟨r3, S2⟩, hc4, hm⟩ := bd_some hm
      refine cV_X11_478_75 (pc := 169) X [.int z3, .int 3, .long ((((S.1 75 68) + 1) - 1).toInt64)] [] 3 rfl (f_X11_event_e l g ad z3 3 ((((S.1 75 68) + 1) - 1).toInt64) (uI (uI S 75 72 ((S.1 75 72) + z5)) 75 68 ((S.1 75 68) + 1)) _ _ hc4) (by decide) (by decide) (Nat.le_of_ble_eq_true rfl) rfl dX11_table_169 ?_
      obtain ⟨hg, hm⟩ := gd_some hm
      cases hm
      exact is_zret (pc := 172) X dX11_table_172 (z_b_n hg)
    · rw [if_neg hb1] at hm
      refine iv_aload_n (pc := 117) X dX11_table_117 rfl ?_
      refine iv_aload_n (pc := 118) X dX11_table_118 rfl ?_
      refine gF_X11_113_75 (pc := 119) X dX11_table_119 ?_
      refine iv_iload_n (pc := 122) X dX11_table_122 rfl ?_
      obtain ⟨hg, hm⟩ := gd_some hm
      refine aL_110 (pc := 123) X dX11_table_123 hg (x := (S.1 110) z2.toNatClampNeg) rfl ?_
      refine iv_iload_n (pc := 124) X dX11_table_124 rfl ?_
      refine iv_iconst (pc := 125) X dX11_table_125 ic_m1 ?_
      refine iv_iload (pc := 126) X dX11_table_126 rfl ?_
      obtain ⟨⟨r6, S5⟩, hc7, hm⟩ := bd_some hm
      refine cV_X11_474_75 (pc := 128) X [.int ((S.1 110) z2.toNatClampNeg), .int z1, .int (-1), .int z6] [] 4 rfl (f_X11_enter_e l g ad fu ((S.1 110) z2.toNatClampNeg) z1 (-1) z6 S _ _ hc7) (by decide) (by decide) (Nat.le_of_ble_eq_true rfl) rfl dX11_table_128 ?_
      refine iv_pop (pc := 131) X dX11_table_131 rfl ?_
      refine iv_iinc (pc := 132) X dX11_table_132 rfl (by decide) (v := z6 + 1) rfl (lv' := [(6, .int (z6 + 1)), (0, .ref (ad 75)), (1, .int z1), (2, .int z2), (3, .int z3), (4, .int z4), (5, .int z5)]) rfl ?_
      refine iv_goto (pc := 135) X dX11_table_135 (tgt := 110) rfl ?_
      refine iv_sub [1, 2, 3, 4, 5, 6, 0] (lv2 := [(0, .ref (ad 75)), (1, .int z1), (2, .int z2), (3, .int z3), (4, .int z4), (5, .int z5), (6, .int (z6 + 1))]) rfl ?_
      exact ih z1 z2 z3 z4 z5 (z6 + 1) S5 _ _ hm
def f_X11_table (fu : Nat) (x1 : Int32) (x2 : Int32) (x3 : Int32) (x4 : Int32) (S : im_S) : Option (Int32 × im_S) := gd (in_b x4 520000) (if ((S.1 126) x4.toNatClampNeg : Int32) ≠ 0 then (gd (in_b x4 520000) (if ((S.1 126) x4.toNatClampNeg : Int32) ≠ 4 then (gd (in_b x4 520000) (if (lg_cmp ((S.2.1 127) x4.toNatClampNeg) 0 : Int32) < 0 then ((f_X11_event x3 4 3 S).bind (fun qS4 => gd (z_b qS4.1) (some (qS4.1, qS4.2)))) else (gd (in_b x4 520000) (if (lg_cmp ((S.2.1 127) x4.toNatClampNeg) 20 : Int32) ≤ 0 then (gd (in_b x4 520000) (gd (in_b (S.1 75 68) 1002) (gd (in_b (S.1 75 68) 1002) (f_X11_table_L110 fu fu x1 x2 x3 x4 (((S.2.1 127) x4.toNatClampNeg).toInt32) 0 (uI (uI S 129 ((S.1 75 68).toNatClampNeg) (S.1 75 57)) 130 ((S.1 75 68).toNatClampNeg) (((S.2.1 127) x4.toNatClampNeg).toInt32)))))) else ((f_X11_event x3 4 3 S).bind (fun qS8 => gd (z_b qS8.1) (some (qS8.1, qS8.2)))))))) else (gd (in_b x4 520000) ((f_X11_event x3 4 ((S.2.1 127) x4.toNatClampNeg) S).bind (fun qS11 => gd (z_b qS11.1) (some (qS11.1, qS11.2))))))) else (some (0, S)))
set_option maxHeartbeats 4000000 in
set_option maxRecDepth 100000 in
theorem f_X11_table_e (l : Launch) (g : im_G) (ad : Nat → Nat) (fu : Nat) (x1 : Int32) (x2 : Int32) (x3 : Int32) (x4 : Int32) (S : im_S) (r : Int32) (S' : im_S) (hm : f_X11_table fu x1 x2 x3 x4 S = some (r, S')) : im_E l g ad 2 yX11_table cX11_table 7 (some Jvm.ClassFile.FieldType.boolean) [.ref (ad 75), .int x1, .int x2, .int x3, .int x4] S (some (.int r)) S' := by
  unfold f_X11_table at hm
  refine is_met (own := RX11) (by decide +kernel) rfl (Nat.le_of_ble_eq_true rfl) (fun p e s m below meth c X => ?_)
  refine iv_aload_n (pc := 0) X dX11_table_0 rfl ?_
  refine gF_X11_162_75 (pc := 1) X dX11_table_1 ?_
  refine iv_iload (pc := 4) X dX11_table_4 rfl ?_
  obtain ⟨hg, hm⟩ := gd_some hm
  refine aL_126 (pc := 6) X dX11_table_6 hg (x := (S.1 126) x4.toNatClampNeg) rfl ?_
  refine iv_if_ne (pc := 7) X dX11_table_7 (tgt := 12) rfl (fun hb1 => ?_) (fun hb1 => ?_)
  · rw [if_pos hb1] at hm
    refine iv_aload_n (pc := 12) X dX11_table_12 rfl ?_
    refine gF_X11_162_75 (pc := 13) X dX11_table_13 ?_
    refine iv_iload (pc := 16) X dX11_table_16 rfl ?_
    obtain ⟨hg, hm⟩ := gd_some hm
    refine aL_126 (pc := 18) X dX11_table_18 hg (x := (S.1 126) x4.toNatClampNeg) rfl ?_
    refine iv_iconst (pc := 19) X dX11_table_19 ic_4 ?_
    refine iv_icmp_ne (pc := 20) X dX11_table_20 (tgt := 37) rfl (fun hb2 => ?_) (fun hb2 => ?_)
    · rw [if_pos hb2] at hm
      refine iv_aload_n (pc := 37) X dX11_table_37 rfl ?_
      refine gF_X11_165_75 (pc := 38) X dX11_table_38 ?_
      refine iv_iload (pc := 41) X dX11_table_41 rfl ?_
      obtain ⟨hg, hm⟩ := gd_some hm
      refine aL_127 (pc := 43) X dX11_table_43 hg (x := (S.2.1 127) x4.toNatClampNeg) rfl ?_
      refine iv_lconst (pc := 44) X dX11_table_44 lc_0 ?_
      refine iv_lcmp (pc := 45) X dX11_table_45 ?_
      refine iv_if_lt (pc := 46) X dX11_table_46 (tgt := 63) rfl (fun hb3 => ?_) (fun hb3 => ?_)
      · rw [if_pos hb3] at hm
        refine iv_aload_n (pc := 63) X dX11_table_63 rfl ?_
        refine iv_iload_n (pc := 64) X dX11_table_64 rfl ?_
        refine iv_iconst (pc := 65) X dX11_table_65 ic_4 ?_
        refine iv_ldc2 (pc := 66) X wk_X11_491 dX11_table_66 ?_
        obtain ⟨⟨r5, S4⟩, hc6, hm⟩ := bd_some hm
        refine cV_X11_478_75 (pc := 69) X [.int x3, .int 4, .long 3] [] 3 rfl (f_X11_event_e l g ad x3 4 3 S _ _ hc6) (by decide) (by decide) (Nat.le_of_ble_eq_true rfl) rfl dX11_table_69 ?_
        obtain ⟨hg, hm⟩ := gd_some hm
        cases hm
        exact is_zret (pc := 72) X dX11_table_72 (z_b_n hg)
      · rw [if_neg hb3] at hm
        refine iv_aload_n (pc := 49) X dX11_table_49 rfl ?_
        refine gF_X11_165_75 (pc := 50) X dX11_table_50 ?_
        refine iv_iload (pc := 53) X dX11_table_53 rfl ?_
        obtain ⟨hg, hm⟩ := gd_some hm
        refine aL_127 (pc := 55) X dX11_table_55 hg (x := (S.2.1 127) x4.toNatClampNeg) rfl ?_
        refine iv_ldc2 (pc := 56) X wk_X11_489 dX11_table_56 ?_
        refine iv_lcmp (pc := 59) X dX11_table_59 ?_
        refine iv_if_le (pc := 60) X dX11_table_60 (tgt := 73) rfl (fun hb7 => ?_) (fun hb7 => ?_)
        · rw [if_pos hb7] at hm
          refine iv_aload_n (pc := 73) X dX11_table_73 rfl ?_
          refine gF_X11_165_75 (pc := 74) X dX11_table_74 ?_
          refine iv_iload (pc := 77) X dX11_table_77 rfl ?_
          obtain ⟨hg, hm⟩ := gd_some hm
          refine aL_127 (pc := 79) X dX11_table_79 hg (x := (S.2.1 127) x4.toNatClampNeg) rfl ?_
          refine iv_l2i (pc := 80) X dX11_table_80 rfl ?_
          refine iv_istore (pc := 81) X dX11_table_81 (by decide) (lv' := [(5, .int (((S.2.1 127) x4.toNatClampNeg).toInt32)), (0, .ref (ad 75)), (1, .int x1), (2, .int x2), (3, .int x3), (4, .int x4)]) rfl ?_
          refine iv_aload_n (pc := 83) X dX11_table_83 rfl ?_
          refine gF_X11_171_75 (pc := 84) X dX11_table_84 ?_
          refine iv_aload_n (pc := 87) X dX11_table_87 rfl ?_
          refine gF_X11_493_75 (pc := 88) X dX11_table_88 (x := S.1 75 68) rfl ?_
          refine iv_aload_n (pc := 91) X dX11_table_91 rfl ?_
          refine gF_X11_410_75 (pc := 92) X dX11_table_92 (x := S.1 75 57) rfl ?_
          obtain ⟨hg, hm⟩ := gd_some hm
          refine aS_129 (pc := 95) X dX11_table_95 hg ?_
          refine iv_aload_n (pc := 96) X dX11_table_96 rfl ?_
          refine gF_X11_174_75 (pc := 97) X dX11_table_97 ?_
          refine iv_aload_n (pc := 100) X dX11_table_100 rfl ?_
          refine gF_X11_493_75 (pc := 101) X dX11_table_101 (x := S.1 75 68) rfl ?_
          refine iv_iload (pc := 104) X dX11_table_104 rfl ?_
          obtain ⟨hg, hm⟩ := gd_some hm
          refine aS_130 (pc := 106) X dX11_table_106 hg ?_
          refine iv_iconst (pc := 107) X dX11_table_107 ic_0 ?_
          refine iv_istore (pc := 108) X dX11_table_108 (by decide) (lv' := [(6, .int 0), (5, .int (((S.2.1 127) x4.toNatClampNeg).toInt32)), (0, .ref (ad 75)), (1, .int x1), (2, .int x2), (3, .int x3), (4, .int x4)]) rfl ?_
          refine iv_sub [2, 3, 4, 5, 6, 1, 0] (lv2 := [(0, .ref (ad 75)), (1, .int x1), (2, .int x2), (3, .int x3), (4, .int x4), (5, .int (((S.2.1 127) x4.toNatClampNeg).toInt32)), (6, .int 0)]) rfl ?_
          exact f_X11_table_L110_w (fu := fu) l g ad X fu x1 x2 x3 x4 (((S.2.1 127) x4.toNatClampNeg).toInt32) 0 (uI (uI S 129 ((S.1 75 68).toNatClampNeg) (S.1 75 57)) 130 ((S.1 75 68).toNatClampNeg) (((S.2.1 127) x4.toNatClampNeg).toInt32)) _ _ hm
        · rw [if_neg hb7] at hm
          refine iv_aload_n (pc := 63) X dX11_table_63 rfl ?_
          refine iv_iload_n (pc := 64) X dX11_table_64 rfl ?_
          refine iv_iconst (pc := 65) X dX11_table_65 ic_4 ?_
          refine iv_ldc2 (pc := 66) X wk_X11_491 dX11_table_66 ?_
          obtain ⟨⟨r9, S8⟩, hc10, hm⟩ := bd_some hm
          refine cV_X11_478_75 (pc := 69) X [.int x3, .int 4, .long 3] [] 3 rfl (f_X11_event_e l g ad x3 4 3 S _ _ hc10) (by decide) (by decide) (Nat.le_of_ble_eq_true rfl) rfl dX11_table_69 ?_
          obtain ⟨hg, hm⟩ := gd_some hm
          cases hm
          exact is_zret (pc := 72) X dX11_table_72 (z_b_n hg)
    · rw [if_neg hb2] at hm
      refine iv_aload_n (pc := 23) X dX11_table_23 rfl ?_
      refine iv_iload_n (pc := 24) X dX11_table_24 rfl ?_
      refine iv_iconst (pc := 25) X dX11_table_25 ic_4 ?_
      refine iv_aload_n (pc := 26) X dX11_table_26 rfl ?_
      refine gF_X11_165_75 (pc := 27) X dX11_table_27 ?_
      refine iv_iload (pc := 30) X dX11_table_30 rfl ?_
      obtain ⟨hg, hm⟩ := gd_some hm
      refine aL_127 (pc := 32) X dX11_table_32 hg (x := (S.2.1 127) x4.toNatClampNeg) rfl ?_
      obtain ⟨⟨r12, S11⟩, hc13, hm⟩ := bd_some hm
      refine cV_X11_478_75 (pc := 33) X [.int x3, .int 4, .long ((S.2.1 127) x4.toNatClampNeg)] [] 3 rfl (f_X11_event_e l g ad x3 4 ((S.2.1 127) x4.toNatClampNeg) S _ _ hc13) (by decide) (by decide) (Nat.le_of_ble_eq_true rfl) rfl dX11_table_33 ?_
      obtain ⟨hg, hm⟩ := gd_some hm
      cases hm
      exact is_zret (pc := 36) X dX11_table_36 (z_b_n hg)
  · rw [if_neg hb1] at hm
    refine iv_iconst (pc := 10) X dX11_table_10 ic_0 ?_
    cases hm
    exact is_zret (pc := 11) X dX11_table_11 rfl
def f_X11_limit (S : im_S) : Option (Int32 × im_S) := if (S.1 75 72 : Int32) ≤ 1000 then (some (S.1 75 72, S)) else (some (1000, S))
set_option maxHeartbeats 4000000 in
set_option maxRecDepth 100000 in
theorem f_X11_limit_e (l : Launch) (g : im_G) (ad : Nat → Nat) (S : im_S) (r : Int32) (S' : im_S) (hm : f_X11_limit  S = some (r, S')) : im_E l g ad 0 yX11_limit cX11_limit 1 (some Jvm.ClassFile.FieldType.int) [.ref (ad 75)] S (some (.int r)) S' := by
  unfold f_X11_limit at hm
  refine is_met (own := RX11) (by decide +kernel) rfl (Nat.le_of_ble_eq_true rfl) (fun p e s m below meth c X => ?_)
  refine iv_aload_n (pc := 0) X dX11_limit_0 rfl ?_
  refine gF_X11_404_75 (pc := 1) X dX11_limit_1 (x := S.1 75 72) rfl ?_
  refine iv_sipush (pc := 4) X dX11_limit_4 sc_1000 ?_
  refine iv_icmp_le (pc := 7) X dX11_limit_7 (tgt := 16) rfl (fun hb1 => ?_) (fun hb1 => ?_)
  · rw [if_pos hb1] at hm
    refine iv_aload_n (pc := 16) X dX11_limit_16 rfl ?_
    refine gF_X11_404_75 (pc := 17) X dX11_limit_17 (x := S.1 75 72) rfl ?_
    cases hm
    exact is_iret (pc := 20) X dX11_limit_20
  · rw [if_neg hb1] at hm
    refine iv_sipush (pc := 10) X dX11_limit_10 sc_1000 ?_
    refine iv_goto (pc := 13) X dX11_limit_13 (tgt := 20) rfl ?_
    cases hm
    exact is_iret (pc := 20) X dX11_limit_20
def f_X11_stateOf (S : im_S) : Option (Int32 × im_S) := if (S.1 75 73 : Int32) ≠ 0 then ((f_X11_limit S).bind (fun qS2 => if (qS2.1 : Int32) ≤ (S.1 75 74) then (if (qS2.2.1 75 72 : Int32) ≤ 1000 then ((f_X11_rootSlot 0 qS2.2).bind (fun qS7 => gd (in_b qS7.1 520000) (if ((qS7.2.1 126) qS7.1.toNatClampNeg : Int32) = 0 then (some (3, qS7.2)) else (some (2, qS7.2))))) else (some (4, qS2.2))) else (some (1, qS2.2)))) else (some (0, S))
set_option maxHeartbeats 4000000 in
set_option maxRecDepth 100000 in
theorem f_X11_stateOf_e (l : Launch) (g : im_G) (ad : Nat → Nat) (S : im_S) (r : Int32) (S' : im_S) (hm : f_X11_stateOf  S = some (r, S')) : im_E l g ad 2 yX11_stateOf cX11_stateOf 1 (some Jvm.ClassFile.FieldType.int) [.ref (ad 75)] S (some (.int r)) S' := by
  unfold f_X11_stateOf at hm
  refine is_met (own := RX11) (by decide +kernel) rfl (Nat.le_of_ble_eq_true rfl) (fun p e s m below meth c X => ?_)
  refine iv_aload_n (pc := 0) X dX11_stateOf_0 rfl ?_
  refine gF_X11_400_75 (pc := 1) X dX11_stateOf_1 (x := S.1 75 73) rfl ?_
  refine iv_if_ne (pc := 4) X dX11_stateOf_4 (tgt := 9) rfl (fun hb1 => ?_) (fun hb1 => ?_)
  · rw [if_pos hb1] at hm
    refine iv_aload_n (pc := 9) X dX11_stateOf_9 rfl ?_
    refine gF_X11_407_75 (pc := 10) X dX11_stateOf_10 (x := S.1 75 74) rfl ?_
    refine iv_aload_n (pc := 13) X dX11_stateOf_13 rfl ?_
    obtain ⟨⟨r3, S2⟩, hc4, hm⟩ := bd_some hm
    refine cV_X11_514_75 (pc := 14) X [] [.int (S.1 75 74)] 0 rfl (f_X11_limit_e l g ad  S _ _ hc4) (by decide) (by decide) (Nat.le_of_ble_eq_true rfl) rfl dX11_stateOf_14 ?_
    refine iv_icmp_ge (pc := 17) X dX11_stateOf_17 (tgt := 22) rfl (fun hb5 => ?_) (fun hb5 => ?_)
    · rw [if_pos hb5] at hm
      refine iv_aload_n (pc := 22) X dX11_stateOf_22 rfl ?_
      refine gF_X11_404_75 (pc := 23) X dX11_stateOf_23 (x := S2.1 75 72) rfl ?_
      refine iv_sipush (pc := 26) X dX11_stateOf_26 sc_1000 ?_
      refine iv_icmp_le (pc := 29) X dX11_stateOf_29 (tgt := 34) rfl (fun hb6 => ?_) (fun hb6 => ?_)
      · rw [if_pos hb6] at hm
        refine iv_aload_n (pc := 34) X dX11_stateOf_34 rfl ?_
        refine gF_X11_162_75 (pc := 35) X dX11_stateOf_35 ?_
        refine iv_aload_n (pc := 38) X dX11_stateOf_38 rfl ?_
        refine iv_iconst (pc := 39) X dX11_stateOf_39 ic_0 ?_
        obtain ⟨⟨r8, S7⟩, hc9, hm⟩ := bd_some hm
        refine cV_X11_471_75 (pc := 40) X [.int 0] [.ref (ad 126)] 1 rfl (f_X11_rootSlot_e l g ad 0 S2 _ _ hc9) (by decide) (by decide) (Nat.le_of_ble_eq_true rfl) rfl dX11_stateOf_40 ?_
        obtain ⟨hg, hm⟩ := gd_some hm
        refine aL_126 (pc := 43) X dX11_stateOf_43 hg (x := (S7.1 126) r8.toNatClampNeg) rfl ?_
        refine iv_if_eq (pc := 44) X dX11_stateOf_44 (tgt := 51) rfl (fun hb10 => ?_) (fun hb10 => ?_)
        · rw [if_pos hb10] at hm
          refine iv_iconst (pc := 51) X dX11_stateOf_51 ic_3 ?_
          cases hm
          exact is_iret (pc := 52) X dX11_stateOf_52
        · rw [if_neg hb10] at hm
          refine iv_iconst (pc := 47) X dX11_stateOf_47 ic_2 ?_
          refine iv_goto (pc := 48) X dX11_stateOf_48 (tgt := 52) rfl ?_
          cases hm
          exact is_iret (pc := 52) X dX11_stateOf_52
      · rw [if_neg hb6] at hm
        refine iv_iconst (pc := 32) X dX11_stateOf_32 ic_4 ?_
        cases hm
        exact is_iret (pc := 33) X dX11_stateOf_33
    · rw [if_neg hb5] at hm
      refine iv_iconst (pc := 20) X dX11_stateOf_20 ic_1 ?_
      cases hm
      exact is_iret (pc := 21) X dX11_stateOf_21
  · rw [if_neg hb1] at hm
    refine iv_iconst (pc := 7) X dX11_stateOf_7 ic_0 ?_
    cases hm
    exact is_iret (pc := 8) X dX11_stateOf_8
def f_X11_state (S : im_S) : Option (Int32 × im_S) := (f_X11_stateOf (uI S 75 0 0)).bind (fun qS1 => some (qS1.1, qS1.2))
set_option maxHeartbeats 4000000 in
set_option maxRecDepth 100000 in
theorem f_X11_state_e (l : Launch) (g : im_G) (ad : Nat → Nat) (S : im_S) (r : Int32) (S' : im_S) (hm : f_X11_state  S = some (r, S')) : im_E l g ad 3 yX11_state cX11_state 1 (some Jvm.ClassFile.FieldType.int) [.ref (ad 75)] S (some (.int r)) S' := by
  unfold f_X11_state at hm
  refine is_met (own := RX11) (by decide +kernel) rfl (Nat.le_of_ble_eq_true rfl) (fun p e s m below meth c X => ?_)
  refine iv_aload_n (pc := 0) X dX11_state_0 rfl ?_
  refine iv_iconst (pc := 1) X dX11_state_1 ic_0 ?_
  refine pF_X11_186_75 (pc := 2) X dX11_state_2 ?_
  refine iv_aload_n (pc := 5) X dX11_state_5 rfl ?_
  obtain ⟨⟨r2, S1⟩, hc3, hm⟩ := bd_some hm
  refine cV_X11_508_75 (pc := 6) X [] [] 0 rfl (f_X11_stateOf_e l g ad  (uI S 75 0 0) _ _ hc3) (by decide) (by decide) (Nat.le_of_ble_eq_true rfl) rfl dX11_state_6 ?_
  cases hm
  exact is_iret (pc := 9) X dX11_state_9
def f_X11_kind (S : im_S) : Option (Int32 × im_S) := (f_X11_stateOf (uI S 75 0 0)).bind (fun qS1 => if (qS1.1 : Int32) ≠ 2 then (some (0, qS1.2)) else ((f_X11_rootSlot 0 qS1.2).bind (fun qS5 => gd (in_b qS5.1 520000) (some ((qS5.2.1 126) qS5.1.toNatClampNeg, qS5.2)))))
set_option maxHeartbeats 4000000 in
set_option maxRecDepth 100000 in
theorem f_X11_kind_e (l : Launch) (g : im_G) (ad : Nat → Nat) (S : im_S) (r : Int32) (S' : im_S) (hm : f_X11_kind  S = some (r, S')) : im_E l g ad 3 yX11_kind cX11_kind 1 (some Jvm.ClassFile.FieldType.int) [.ref (ad 75)] S (some (.int r)) S' := by
  unfold f_X11_kind at hm
  refine is_met (own := RX11) (by decide +kernel) rfl (Nat.le_of_ble_eq_true rfl) (fun p e s m below meth c X => ?_)
  refine iv_aload_n (pc := 0) X dX11_kind_0 rfl ?_
  refine iv_iconst (pc := 1) X dX11_kind_1 ic_0 ?_
  refine pF_X11_186_75 (pc := 2) X dX11_kind_2 ?_
  refine iv_aload_n (pc := 5) X dX11_kind_5 rfl ?_
  obtain ⟨⟨r2, S1⟩, hc3, hm⟩ := bd_some hm
  refine cV_X11_508_75 (pc := 6) X [] [] 0 rfl (f_X11_stateOf_e l g ad  (uI S 75 0 0) _ _ hc3) (by decide) (by decide) (Nat.le_of_ble_eq_true rfl) rfl dX11_kind_6 ?_
  refine iv_iconst (pc := 9) X dX11_kind_9 ic_2 ?_
  refine iv_icmp_ne (pc := 10) X dX11_kind_10 (tgt := 26) rfl (fun hb4 => ?_) (fun hb4 => ?_)
  · rw [if_pos hb4] at hm
    refine iv_iconst (pc := 26) X dX11_kind_26 ic_0 ?_
    cases hm
    exact is_iret (pc := 27) X dX11_kind_27
  · rw [if_neg hb4] at hm
    refine iv_aload_n (pc := 13) X dX11_kind_13 rfl ?_
    refine gF_X11_162_75 (pc := 14) X dX11_kind_14 ?_
    refine iv_aload_n (pc := 17) X dX11_kind_17 rfl ?_
    refine iv_iconst (pc := 18) X dX11_kind_18 ic_0 ?_
    obtain ⟨⟨r6, S5⟩, hc7, hm⟩ := bd_some hm
    refine cV_X11_471_75 (pc := 19) X [.int 0] [.ref (ad 126)] 1 rfl (f_X11_rootSlot_e l g ad 0 S1 _ _ hc7) (by decide) (by decide) (Nat.le_of_ble_eq_true rfl) rfl dX11_kind_19 ?_
    obtain ⟨hg, hm⟩ := gd_some hm
    refine aL_126 (pc := 22) X dX11_kind_22 hg (x := (S5.1 126) r6.toNatClampNeg) rfl ?_
    refine iv_goto (pc := 23) X dX11_kind_23 (tgt := 27) rfl ?_
    cases hm
    exact is_iret (pc := 27) X dX11_kind_27
def f_X11_value (S : im_S) : Option (Int64 × im_S) := (f_X11_stateOf S).bind (fun qS1 => if (qS1.1 : Int32) ≠ 2 then (some (0, (uI qS1.2 75 0 1))) else ((f_X11_rootSlot 0 (uI qS1.2 75 0 0)).bind (fun qS7 => gd (in_b qS7.1 520000) (if ((qS7.2.1 126) qS7.1.toNatClampNeg : Int32) ≠ 3 then (gd (in_b qS7.1 520000) (some ((qS7.2.2.1 127) qS7.1.toNatClampNeg, qS7.2))) else (gd (in_b qS7.1 520000) (gd (in_b (((qS7.2.2.1 127) qS7.1.toNatClampNeg).toInt32) 1002) (some (((qS7.2.1 130) ((((qS7.2.2.1 127) qS7.1.toNatClampNeg).toInt32).toNatClampNeg)).toInt64, qS7.2))))))))
set_option maxHeartbeats 4000000 in
set_option maxRecDepth 100000 in
theorem f_X11_value_e (l : Launch) (g : im_G) (ad : Nat → Nat) (S : im_S) (r : Int64) (S' : im_S) (hm : f_X11_value  S = some (r, S')) : im_E l g ad 3 yX11_value cX11_value 2 (some Jvm.ClassFile.FieldType.long) [.ref (ad 75)] S (some (.long r)) S' := by
  unfold f_X11_value at hm
  refine is_met (own := RX11) (by decide +kernel) rfl (Nat.le_of_ble_eq_true rfl) (fun p e s m below meth c X => ?_)
  refine iv_aload_n (pc := 0) X dX11_value_0 rfl ?_
  refine iv_aload_n (pc := 1) X dX11_value_1 rfl ?_
  obtain ⟨⟨r2, S1⟩, hc3, hm⟩ := bd_some hm
  refine cV_X11_508_75 (pc := 2) X [] [.ref (ad 75)] 0 rfl (f_X11_stateOf_e l g ad  S _ _ hc3) (by decide) (by decide) (Nat.le_of_ble_eq_true rfl) rfl dX11_value_2 ?_
  refine iv_iconst (pc := 5) X dX11_value_5 ic_2 ?_
  refine iv_icmp_ne (pc := 6) X dX11_value_6 (tgt := 13) rfl (fun hb4 => ?_) (fun hb4 => ?_)
  · rw [if_pos hb4] at hm
    refine iv_iconst (pc := 13) X dX11_value_13 ic_1 ?_
    refine pF_X11_186_75 (pc := 14) X dX11_value_14 ?_
    refine iv_aload_n (pc := 17) X dX11_value_17 rfl ?_
    refine gF_X11_186_75 (pc := 18) X dX11_value_18 (x := 1) rfl ?_
    refine iv_if_eq (pc := 21) X dX11_value_21 (tgt := 26) rfl (fun hb => absurd hb (by decide)) (fun _ => ?_)
    refine iv_lconst (pc := 24) X dX11_value_24 lc_0 ?_
    cases hm
    exact is_lret (pc := 25) X dX11_value_25
  · rw [if_neg hb4] at hm
    refine iv_iconst (pc := 9) X dX11_value_9 ic_0 ?_
    refine iv_goto (pc := 10) X dX11_value_10 (tgt := 14) rfl ?_
    refine pF_X11_186_75 (pc := 14) X dX11_value_14 ?_
    refine iv_aload_n (pc := 17) X dX11_value_17 rfl ?_
    refine gF_X11_186_75 (pc := 18) X dX11_value_18 (x := 0) rfl ?_
    refine iv_if_eq (pc := 21) X dX11_value_21 (tgt := 26) rfl (fun _ => ?_) (fun hb => absurd (by decide) hb)
    refine iv_aload_n (pc := 26) X dX11_value_26 rfl ?_
    refine iv_iconst (pc := 27) X dX11_value_27 ic_0 ?_
    obtain ⟨⟨r8, S7⟩, hc9, hm⟩ := bd_some hm
    refine cV_X11_471_75 (pc := 28) X [.int 0] [] 1 rfl (f_X11_rootSlot_e l g ad 0 (uI S1 75 0 0) _ _ hc9) (by decide) (by decide) (Nat.le_of_ble_eq_true rfl) rfl dX11_value_28 ?_
    refine iv_istore_n (pc := 31) X dX11_value_31 (by decide) (lv' := [(1, .int r8), (0, .ref (ad 75))]) rfl ?_
    refine iv_aload_n (pc := 32) X dX11_value_32 rfl ?_
    refine gF_X11_162_75 (pc := 33) X dX11_value_33 ?_
    refine iv_iload_n (pc := 36) X dX11_value_36 rfl ?_
    obtain ⟨hg, hm⟩ := gd_some hm
    refine aL_126 (pc := 37) X dX11_value_37 hg (x := (S7.1 126) r8.toNatClampNeg) rfl ?_
    refine iv_iconst (pc := 38) X dX11_value_38 ic_3 ?_
    refine iv_icmp_ne (pc := 39) X dX11_value_39 (tgt := 58) rfl (fun hb10 => ?_) (fun hb10 => ?_)
    · rw [if_pos hb10] at hm
      refine iv_aload_n (pc := 58) X dX11_value_58 rfl ?_
      refine gF_X11_165_75 (pc := 59) X dX11_value_59 ?_
      refine iv_iload_n (pc := 62) X dX11_value_62 rfl ?_
      obtain ⟨hg, hm⟩ := gd_some hm
      refine aL_127 (pc := 63) X dX11_value_63 hg (x := (S7.2.1 127) r8.toNatClampNeg) rfl ?_
      cases hm
      exact is_lret (pc := 64) X dX11_value_64
    · rw [if_neg hb10] at hm
      refine iv_aload_n (pc := 42) X dX11_value_42 rfl ?_
      refine gF_X11_174_75 (pc := 43) X dX11_value_43 ?_
      refine iv_aload_n (pc := 46) X dX11_value_46 rfl ?_
      refine gF_X11_165_75 (pc := 47) X dX11_value_47 ?_
      refine iv_iload_n (pc := 50) X dX11_value_50 rfl ?_
      obtain ⟨hg, hm⟩ := gd_some hm
      refine aL_127 (pc := 51) X dX11_value_51 hg (x := (S7.2.1 127) r8.toNatClampNeg) rfl ?_
      refine iv_l2i (pc := 52) X dX11_value_52 rfl ?_
      obtain ⟨hg, hm⟩ := gd_some hm
      refine aL_130 (pc := 53) X dX11_value_53 hg (x := (S7.1 130) ((((S7.2.1 127) r8.toNatClampNeg).toInt32).toNatClampNeg)) rfl ?_
      refine iv_i2l (pc := 54) X dX11_value_54 rfl ?_
      refine iv_goto (pc := 55) X dX11_value_55 (tgt := 64) rfl ?_
      cases hm
      exact is_lret (pc := 64) X dX11_value_64
def f_X11_cell (x1 : Int32) (x2 : Int32) (S : im_S) : Option (Int64 × im_S) := (f_X11_stateOf S).bind (fun qS1 => if (qS1.1 : Int32) ≠ 2 then (some (0, (uI qS1.2 75 0 1))) else ((f_X11_rootSlot 0 qS1.2).bind (fun qS8 => gd (in_b qS8.1 520000) (if ((qS8.2.1 126) qS8.1.toNatClampNeg : Int32) ≠ 3 then (some (0, (uI qS8.2 75 0 1))) else ((f_X11_rootSlot 0 qS8.2).bind (fun qS16 => gd (in_b qS16.1 520000) (if (x1 : Int32) < 0 then (some (0, (uI qS16.2 75 0 1))) else (gd (in_b (((qS16.2.2.1 127) qS16.1.toNatClampNeg).toInt32) 1002) (if ((qS16.2.1 130) ((((qS16.2.2.1 127) qS16.1.toNatClampNeg).toInt32).toNatClampNeg) : Int32) ≤ x1 then (some (0, (uI qS16.2 75 0 1))) else (if (x2 : Int32) < 0 then (some (0, (uI qS16.2 75 0 1))) else (if (x2 : Int32) ≤ 1 then (gd (in_b (((qS16.2.2.1 127) qS16.1.toNatClampNeg).toInt32) 1002) ((f_X11_rootSlot (((qS16.2.1 129) ((((qS16.2.2.1 127) qS16.1.toNatClampNeg).toInt32).toNatClampNeg)) + x1) (uI qS16.2 75 0 0)).bind (fun qS28 => if (x2 : Int32) ≠ 0 then (gd (in_b qS28.1 520000) (if ((qS28.2.1 126) qS28.1.toNatClampNeg : Int32) ≠ 0 then (gd (in_b qS28.1 520000) (some ((qS28.2.2.1 127) qS28.1.toNatClampNeg, qS28.2))) else (some (0, qS28.2)))) else (gd (in_b qS28.1 520000) (some (((qS28.2.1 126) qS28.1.toNatClampNeg).toInt64, qS28.2)))))) else (some (0, (uI qS16.2 75 0 1))))))))))))))
set_option maxHeartbeats 4000000 in
set_option maxRecDepth 100000 in
theorem f_X11_cell_e (l : Launch) (g : im_G) (ad : Nat → Nat) (x1 : Int32) (x2 : Int32) (S : im_S) (r : Int64) (S' : im_S) (hm : f_X11_cell x1 x2 S = some (r, S')) : im_E l g ad 3 yX11_cell cX11_cell 6 (some Jvm.ClassFile.FieldType.long) [.ref (ad 75), .int x1, .int x2] S (some (.long r)) S' := by
  unfold f_X11_cell at hm
  refine is_met (own := RX11) (by decide +kernel) rfl (Nat.le_of_ble_eq_true rfl) (fun p e s m below meth c X => ?_)
  refine iv_aload_n (pc := 0) X dX11_cell_0 rfl ?_
  obtain ⟨⟨r2, S1⟩, hc3, hm⟩ := bd_some hm
  refine cV_X11_508_75 (pc := 1) X [] [] 0 rfl (f_X11_stateOf_e l g ad  S _ _ hc3) (by decide) (by decide) (Nat.le_of_ble_eq_true rfl) rfl dX11_cell_1 ?_
  refine iv_iconst (pc := 4) X dX11_cell_4 ic_2 ?_
  refine iv_icmp_ne (pc := 5) X dX11_cell_5 (tgt := 26) rfl (fun hb4 => ?_) (fun hb4 => ?_)
  · rw [if_pos hb4] at hm
    refine iv_iconst (pc := 26) X dX11_cell_26 ic_0 ?_
    refine iv_istore_n (pc := 27) X dX11_cell_27 (by decide) (lv' := [(3, .int 0), (0, .ref (ad 75)), (1, .int x1), (2, .int x2)]) rfl ?_
    refine iv_iload_n (pc := 28) X dX11_cell_28 rfl ?_
    refine iv_if_eq (pc := 29) X dX11_cell_29 (tgt := 46) rfl (fun _ => ?_) (fun hb => absurd (by decide) hb)
    refine iv_iconst (pc := 46) X dX11_cell_46 ic_0 ?_
    refine iv_istore (pc := 47) X dX11_cell_47 (by decide) (lv' := [(4, .int 0), (3, .int 0), (0, .ref (ad 75)), (1, .int x1), (2, .int x2)]) rfl ?_
    refine iv_aload_n (pc := 49) X dX11_cell_49 rfl ?_
    refine iv_iload_n (pc := 50) X dX11_cell_50 rfl ?_
    refine iv_if_eq (pc := 51) X dX11_cell_51 (tgt := 78) rfl (fun _ => ?_) (fun hb => absurd (by decide) hb)
    refine iv_iconst (pc := 78) X dX11_cell_78 ic_1 ?_
    refine iv_goto (pc := 79) X dX11_cell_79 (tgt := 83) rfl ?_
    refine pF_X11_186_75 (pc := 83) X dX11_cell_83 ?_
    refine iv_aload_n (pc := 86) X dX11_cell_86 rfl ?_
    refine gF_X11_186_75 (pc := 87) X dX11_cell_87 (x := 1) rfl ?_
    refine iv_if_eq (pc := 90) X dX11_cell_90 (tgt := 95) rfl (fun hb => absurd hb (by decide)) (fun _ => ?_)
    refine iv_lconst (pc := 93) X dX11_cell_93 lc_0 ?_
    cases hm
    exact is_lret (pc := 94) X dX11_cell_94
  · rw [if_neg hb4] at hm
    refine iv_aload_n (pc := 8) X dX11_cell_8 rfl ?_
    refine gF_X11_162_75 (pc := 9) X dX11_cell_9 ?_
    refine iv_aload_n (pc := 12) X dX11_cell_12 rfl ?_
    refine iv_iconst (pc := 13) X dX11_cell_13 ic_0 ?_
    obtain ⟨⟨r9, S8⟩, hc10, hm⟩ := bd_some hm
    refine cV_X11_471_75 (pc := 14) X [.int 0] [.ref (ad 126)] 1 rfl (f_X11_rootSlot_e l g ad 0 S1 _ _ hc10) (by decide) (by decide) (Nat.le_of_ble_eq_true rfl) rfl dX11_cell_14 ?_
    obtain ⟨hg, hm⟩ := gd_some hm
    refine aL_126 (pc := 17) X dX11_cell_17 hg (x := (S8.1 126) r9.toNatClampNeg) rfl ?_
    refine iv_iconst (pc := 18) X dX11_cell_18 ic_3 ?_
    refine iv_icmp_ne (pc := 19) X dX11_cell_19 (tgt := 26) rfl (fun hb11 => ?_) (fun hb11 => ?_)
    · rw [if_pos hb11] at hm
      refine iv_iconst (pc := 26) X dX11_cell_26 ic_0 ?_
      refine iv_istore_n (pc := 27) X dX11_cell_27 (by decide) (lv' := [(3, .int 0), (0, .ref (ad 75)), (1, .int x1), (2, .int x2)]) rfl ?_
      refine iv_iload_n (pc := 28) X dX11_cell_28 rfl ?_
      refine iv_if_eq (pc := 29) X dX11_cell_29 (tgt := 46) rfl (fun _ => ?_) (fun hb => absurd (by decide) hb)
      refine iv_iconst (pc := 46) X dX11_cell_46 ic_0 ?_
      refine iv_istore (pc := 47) X dX11_cell_47 (by decide) (lv' := [(4, .int 0), (3, .int 0), (0, .ref (ad 75)), (1, .int x1), (2, .int x2)]) rfl ?_
      refine iv_aload_n (pc := 49) X dX11_cell_49 rfl ?_
      refine iv_iload_n (pc := 50) X dX11_cell_50 rfl ?_
      refine iv_if_eq (pc := 51) X dX11_cell_51 (tgt := 78) rfl (fun _ => ?_) (fun hb => absurd (by decide) hb)
      refine iv_iconst (pc := 78) X dX11_cell_78 ic_1 ?_
      refine iv_goto (pc := 79) X dX11_cell_79 (tgt := 83) rfl ?_
      refine pF_X11_186_75 (pc := 83) X dX11_cell_83 ?_
      refine iv_aload_n (pc := 86) X dX11_cell_86 rfl ?_
      refine gF_X11_186_75 (pc := 87) X dX11_cell_87 (x := 1) rfl ?_
      refine iv_if_eq (pc := 90) X dX11_cell_90 (tgt := 95) rfl (fun hb => absurd hb (by decide)) (fun _ => ?_)
      refine iv_lconst (pc := 93) X dX11_cell_93 lc_0 ?_
      cases hm
      exact is_lret (pc := 94) X dX11_cell_94
    · rw [if_neg hb11] at hm
      refine iv_iconst (pc := 22) X dX11_cell_22 ic_1 ?_
      refine iv_goto (pc := 23) X dX11_cell_23 (tgt := 27) rfl ?_
      refine iv_istore_n (pc := 27) X dX11_cell_27 (by decide) (lv' := [(3, .int 1), (0, .ref (ad 75)), (1, .int x1), (2, .int x2)]) rfl ?_
      refine iv_iload_n (pc := 28) X dX11_cell_28 rfl ?_
      refine iv_if_eq (pc := 29) X dX11_cell_29 (tgt := 46) rfl (fun hb => absurd hb (by decide)) (fun _ => ?_)
      refine iv_aload_n (pc := 32) X dX11_cell_32 rfl ?_
      refine gF_X11_165_75 (pc := 33) X dX11_cell_33 ?_
      refine iv_aload_n (pc := 36) X dX11_cell_36 rfl ?_
      refine iv_iconst (pc := 37) X dX11_cell_37 ic_0 ?_
      obtain ⟨⟨r17, S16⟩, hc18, hm⟩ := bd_some hm
      refine cV_X11_471_75 (pc := 38) X [.int 0] [.ref (ad 127)] 1 rfl (f_X11_rootSlot_e l g ad 0 S8 _ _ hc18) (by decide) (by decide) (Nat.le_of_ble_eq_true rfl) rfl dX11_cell_38 ?_
      obtain ⟨hg, hm⟩ := gd_some hm
      refine aL_127 (pc := 41) X dX11_cell_41 hg (x := (S16.2.1 127) r17.toNatClampNeg) rfl ?_
      refine iv_l2i (pc := 42) X dX11_cell_42 rfl ?_
      refine iv_goto (pc := 43) X dX11_cell_43 (tgt := 47) rfl ?_
      refine iv_istore (pc := 47) X dX11_cell_47 (by decide) (lv' := [(4, .int (((S16.2.1 127) r17.toNatClampNeg).toInt32)), (3, .int 1), (0, .ref (ad 75)), (1, .int x1), (2, .int x2)]) rfl ?_
      refine iv_aload_n (pc := 49) X dX11_cell_49 rfl ?_
      refine iv_iload_n (pc := 50) X dX11_cell_50 rfl ?_
      refine iv_if_eq (pc := 51) X dX11_cell_51 (tgt := 78) rfl (fun hb => absurd hb (by decide)) (fun _ => ?_)
      refine iv_iload_n (pc := 54) X dX11_cell_54 rfl ?_
      refine iv_if_lt (pc := 55) X dX11_cell_55 (tgt := 78) rfl (fun hb20 => ?_) (fun hb20 => ?_)
      · rw [if_pos hb20] at hm
        refine iv_iconst (pc := 78) X dX11_cell_78 ic_1 ?_
        refine iv_goto (pc := 79) X dX11_cell_79 (tgt := 83) rfl ?_
        refine pF_X11_186_75 (pc := 83) X dX11_cell_83 ?_
        refine iv_aload_n (pc := 86) X dX11_cell_86 rfl ?_
        refine gF_X11_186_75 (pc := 87) X dX11_cell_87 (x := 1) rfl ?_
        refine iv_if_eq (pc := 90) X dX11_cell_90 (tgt := 95) rfl (fun hb => absurd hb (by decide)) (fun _ => ?_)
        refine iv_lconst (pc := 93) X dX11_cell_93 lc_0 ?_
        cases hm
        exact is_lret (pc := 94) X dX11_cell_94
      · rw [if_neg hb20] at hm
        refine iv_iload_n (pc := 58) X dX11_cell_58 rfl ?_
        refine iv_aload_n (pc := 59) X dX11_cell_59 rfl ?_
        refine gF_X11_174_75 (pc := 60) X dX11_cell_60 ?_
        refine iv_iload (pc := 63) X dX11_cell_63 rfl ?_
        obtain ⟨hg, hm⟩ := gd_some hm
        refine aL_130 (pc := 65) X dX11_cell_65 hg (x := (S16.1 130) ((((S16.2.1 127) r17.toNatClampNeg).toInt32).toNatClampNeg)) rfl ?_
        refine iv_icmp_ge (pc := 66) X dX11_cell_66 (tgt := 78) rfl (fun hb22 => ?_) (fun hb22 => ?_)
        · rw [if_pos hb22] at hm
          refine iv_iconst (pc := 78) X dX11_cell_78 ic_1 ?_
          refine iv_goto (pc := 79) X dX11_cell_79 (tgt := 83) rfl ?_
          refine pF_X11_186_75 (pc := 83) X dX11_cell_83 ?_
          refine iv_aload_n (pc := 86) X dX11_cell_86 rfl ?_
          refine gF_X11_186_75 (pc := 87) X dX11_cell_87 (x := 1) rfl ?_
          refine iv_if_eq (pc := 90) X dX11_cell_90 (tgt := 95) rfl (fun hb => absurd hb (by decide)) (fun _ => ?_)
          refine iv_lconst (pc := 93) X dX11_cell_93 lc_0 ?_
          cases hm
          exact is_lret (pc := 94) X dX11_cell_94
        · rw [if_neg hb22] at hm
          refine iv_iload_n (pc := 69) X dX11_cell_69 rfl ?_
          refine iv_if_lt (pc := 70) X dX11_cell_70 (tgt := 78) rfl (fun hb24 => ?_) (fun hb24 => ?_)
          · rw [if_pos hb24] at hm
            refine iv_iconst (pc := 78) X dX11_cell_78 ic_1 ?_
            refine iv_goto (pc := 79) X dX11_cell_79 (tgt := 83) rfl ?_
            refine pF_X11_186_75 (pc := 83) X dX11_cell_83 ?_
            refine iv_aload_n (pc := 86) X dX11_cell_86 rfl ?_
            refine gF_X11_186_75 (pc := 87) X dX11_cell_87 (x := 1) rfl ?_
            refine iv_if_eq (pc := 90) X dX11_cell_90 (tgt := 95) rfl (fun hb => absurd hb (by decide)) (fun _ => ?_)
            refine iv_lconst (pc := 93) X dX11_cell_93 lc_0 ?_
            cases hm
            exact is_lret (pc := 94) X dX11_cell_94
          · rw [if_neg hb24] at hm
            refine iv_iload_n (pc := 73) X dX11_cell_73 rfl ?_
            refine iv_iconst (pc := 74) X dX11_cell_74 ic_1 ?_
            refine iv_icmp_le (pc := 75) X dX11_cell_75 (tgt := 82) rfl (fun hb26 => ?_) (fun hb26 => ?_)
            · rw [if_pos hb26] at hm
              refine iv_iconst (pc := 82) X dX11_cell_82 ic_0 ?_
              refine pF_X11_186_75 (pc := 83) X dX11_cell_83 ?_
              refine iv_aload_n (pc := 86) X dX11_cell_86 rfl ?_
              refine gF_X11_186_75 (pc := 87) X dX11_cell_87 (x := 0) rfl ?_
              refine iv_if_eq (pc := 90) X dX11_cell_90 (tgt := 95) rfl (fun _ => ?_) (fun hb => absurd (by decide) hb)
              refine iv_aload_n (pc := 95) X dX11_cell_95 rfl ?_
              refine iv_aload_n (pc := 96) X dX11_cell_96 rfl ?_
              refine gF_X11_171_75 (pc := 97) X dX11_cell_97 ?_
              refine iv_iload (pc := 100) X dX11_cell_100 rfl ?_
              obtain ⟨hg, hm⟩ := gd_some hm
              refine aL_129 (pc := 102) X dX11_cell_102 hg (x := (S16.1 129) ((((S16.2.1 127) r17.toNatClampNeg).toInt32).toNatClampNeg)) rfl ?_
              refine iv_iload_n (pc := 103) X dX11_cell_103 rfl ?_
              refine iv_iadd (pc := 104) X dX11_cell_104 ?_
              obtain ⟨⟨r29, S28⟩, hc30, hm⟩ := bd_some hm
              refine cV_X11_471_75 (pc := 105) X [.int (((S16.1 129) ((((S16.2.1 127) r17.toNatClampNeg).toInt32).toNatClampNeg)) + x1)] [] 1 rfl (f_X11_rootSlot_e l g ad (((S16.1 129) ((((S16.2.1 127) r17.toNatClampNeg).toInt32).toNatClampNeg)) + x1) (uI S16 75 0 0) _ _ hc30) (by decide) (by decide) (Nat.le_of_ble_eq_true rfl) rfl dX11_cell_105 ?_
              refine iv_istore (pc := 108) X dX11_cell_108 (by decide) (lv' := [(5, .int r29), (4, .int (((S16.2.1 127) r17.toNatClampNeg).toInt32)), (3, .int 1), (0, .ref (ad 75)), (1, .int x1), (2, .int x2)]) rfl ?_
              refine iv_iload_n (pc := 110) X dX11_cell_110 rfl ?_
              refine iv_if_ne (pc := 111) X dX11_cell_111 (tgt := 125) rfl (fun hb31 => ?_) (fun hb31 => ?_)
              · rw [if_pos hb31] at hm
                refine iv_aload_n (pc := 125) X dX11_cell_125 rfl ?_
                refine gF_X11_162_75 (pc := 126) X dX11_cell_126 ?_
                refine iv_iload (pc := 129) X dX11_cell_129 rfl ?_
                obtain ⟨hg, hm⟩ := gd_some hm
                refine aL_126 (pc := 131) X dX11_cell_131 hg (x := (S28.1 126) r29.toNatClampNeg) rfl ?_
                refine iv_if_ne (pc := 132) X dX11_cell_132 (tgt := 139) rfl (fun hb32 => ?_) (fun hb32 => ?_)
                · rw [if_pos hb32] at hm
                  refine iv_aload_n (pc := 139) X dX11_cell_139 rfl ?_
                  refine gF_X11_165_75 (pc := 140) X dX11_cell_140 ?_
                  refine iv_iload (pc := 143) X dX11_cell_143 rfl ?_
                  obtain ⟨hg, hm⟩ := gd_some hm
                  refine aL_127 (pc := 145) X dX11_cell_145 hg (x := (S28.2.1 127) r29.toNatClampNeg) rfl ?_
                  cases hm
                  exact is_lret (pc := 146) X dX11_cell_146
                · rw [if_neg hb32] at hm
                  refine iv_lconst (pc := 135) X dX11_cell_135 lc_0 ?_
                  refine iv_goto (pc := 136) X dX11_cell_136 (tgt := 146) rfl ?_
                  cases hm
                  exact is_lret (pc := 146) X dX11_cell_146
              · rw [if_neg hb31] at hm
                refine iv_aload_n (pc := 114) X dX11_cell_114 rfl ?_
                refine gF_X11_162_75 (pc := 115) X dX11_cell_115 ?_
                refine iv_iload (pc := 118) X dX11_cell_118 rfl ?_
                obtain ⟨hg, hm⟩ := gd_some hm
                refine aL_126 (pc := 120) X dX11_cell_120 hg (x := (S28.1 126) r29.toNatClampNeg) rfl ?_
                refine iv_i2l (pc := 121) X dX11_cell_121 rfl ?_
                refine iv_goto (pc := 122) X dX11_cell_122 (tgt := 146) rfl ?_
                cases hm
                exact is_lret (pc := 146) X dX11_cell_146
            · rw [if_neg hb26] at hm
              refine iv_iconst (pc := 78) X dX11_cell_78 ic_1 ?_
              refine iv_goto (pc := 79) X dX11_cell_79 (tgt := 83) rfl ?_
              refine pF_X11_186_75 (pc := 83) X dX11_cell_83 ?_
              refine iv_aload_n (pc := 86) X dX11_cell_86 rfl ?_
              refine gF_X11_186_75 (pc := 87) X dX11_cell_87 (x := 1) rfl ?_
              refine iv_if_eq (pc := 90) X dX11_cell_90 (tgt := 95) rfl (fun hb => absurd hb (by decide)) (fun _ => ?_)
              refine iv_lconst (pc := 93) X dX11_cell_93 lc_0 ?_
              cases hm
              exact is_lret (pc := 94) X dX11_cell_94
def f_X11_count (x1 : Int32) (S : im_S) : Option (Int32 × im_S) := if (x1 : Int32) ≠ 0 then (if (x1 : Int32) ≠ 1 then (if (x1 : Int32) ≠ 2 then (if (x1 : Int32) ≠ 3 then (some ((-1), (uI S 75 0 0))) else (some (S.1 75 76, (uI S 75 0 0)))) else (some (S.1 75 35, (uI S 75 0 0)))) else (some (S.1 75 75, (uI S 75 0 0)))) else (some (S.1 75 74, (uI S 75 0 0)))
set_option maxHeartbeats 4000000 in
set_option maxRecDepth 100000 in
theorem f_X11_count_e (l : Launch) (g : im_G) (ad : Nat → Nat) (x1 : Int32) (S : im_S) (r : Int32) (S' : im_S) (hm : f_X11_count x1 S = some (r, S')) : im_E l g ad 0 yX11_count cX11_count 2 (some Jvm.ClassFile.FieldType.int) [.ref (ad 75), .int x1] S (some (.int r)) S' := by
  unfold f_X11_count at hm
  refine is_met (own := RX11) (by decide +kernel) rfl (Nat.le_of_ble_eq_true rfl) (fun p e s m below meth c X => ?_)
  refine iv_aload_n (pc := 0) X dX11_count_0 rfl ?_
  refine iv_iconst (pc := 1) X dX11_count_1 ic_0 ?_
  refine pF_X11_186_75 (pc := 2) X dX11_count_2 ?_
  refine iv_iload_n (pc := 5) X dX11_count_5 rfl ?_
  refine iv_if_ne (pc := 6) X dX11_count_6 (tgt := 16) rfl (fun hb1 => ?_) (fun hb1 => ?_)
  · rw [if_pos hb1] at hm
    refine iv_iload_n (pc := 16) X dX11_count_16 rfl ?_
    refine iv_iconst (pc := 17) X dX11_count_17 ic_1 ?_
    refine iv_icmp_ne (pc := 18) X dX11_count_18 (tgt := 28) rfl (fun hb2 => ?_) (fun hb2 => ?_)
    · rw [if_pos hb2] at hm
      refine iv_iload_n (pc := 28) X dX11_count_28 rfl ?_
      refine iv_iconst (pc := 29) X dX11_count_29 ic_2 ?_
      refine iv_icmp_ne (pc := 30) X dX11_count_30 (tgt := 40) rfl (fun hb3 => ?_) (fun hb3 => ?_)
      · rw [if_pos hb3] at hm
        refine iv_iload_n (pc := 40) X dX11_count_40 rfl ?_
        refine iv_iconst (pc := 41) X dX11_count_41 ic_3 ?_
        refine iv_icmp_ne (pc := 42) X dX11_count_42 (tgt := 52) rfl (fun hb4 => ?_) (fun hb4 => ?_)
        · rw [if_pos hb4] at hm
          refine iv_iconst (pc := 52) X dX11_count_52 ic_m1 ?_
          cases hm
          exact is_iret (pc := 53) X dX11_count_53
        · rw [if_neg hb4] at hm
          refine iv_aload_n (pc := 45) X dX11_count_45 rfl ?_
          refine gF_X11_502_75 (pc := 46) X dX11_count_46 (x := S.1 75 76) rfl ?_
          refine iv_goto (pc := 49) X dX11_count_49 (tgt := 53) rfl ?_
          cases hm
          exact is_iret (pc := 53) X dX11_count_53
      · rw [if_neg hb3] at hm
        refine iv_aload_n (pc := 33) X dX11_count_33 rfl ?_
        refine gF_X11_397_75 (pc := 34) X dX11_count_34 (x := S.1 75 35) rfl ?_
        refine iv_goto (pc := 37) X dX11_count_37 (tgt := 53) rfl ?_
        cases hm
        exact is_iret (pc := 53) X dX11_count_53
    · rw [if_neg hb2] at hm
      refine iv_aload_n (pc := 21) X dX11_count_21 rfl ?_
      refine gF_X11_511_75 (pc := 22) X dX11_count_22 (x := S.1 75 75) rfl ?_
      refine iv_goto (pc := 25) X dX11_count_25 (tgt := 53) rfl ?_
      cases hm
      exact is_iret (pc := 53) X dX11_count_53
  · rw [if_neg hb1] at hm
    refine iv_aload_n (pc := 9) X dX11_count_9 rfl ?_
    refine gF_X11_407_75 (pc := 10) X dX11_count_10 (x := S.1 75 74) rfl ?_
    refine iv_goto (pc := 13) X dX11_count_13 (tgt := 53) rfl ?_
    cases hm
    exact is_iret (pc := 53) X dX11_count_53
def f_X11_tokenize_L9 (fu : Nat) : Nat → Int32 → Int32 → im_S → Option (Unit × im_S)
  | 0, _, _, _ => none
  | nf + 1, z1, z2, S => if (z2 : Int32) = 0 then ((f_X11_token 0 0 (S.1 75 2) 0 S).bind (fun qS2 => some ((), qS2.2))) else (if (S.1 75 2 : Int32) ≤ z1 then ((f_X11_token 0 0 (S.1 75 2) 0 S).bind (fun qS6 => some ((), qS6.2))) else ((f_X11_character z1 S).bind (fun qS9 => if (qS9.1 : Int32) ≠ 32 then ((f_X11_oneToken fu z1 qS9.2).bind (fun qS13 => gd (in_b ((qS13.2.1 75 5) - 1) 502) (if ((qS13.2.1 77) (((qS13.2.1 75 5) - 1).toNatClampNeg) : Int32) = 9 then (f_X11_tokenize_L9 fu nf qS13.1 0 qS13.2) else (f_X11_tokenize_L9 fu nf qS13.1 1 qS13.2)))) else (f_X11_tokenize_L9 fu nf (z1 + 1) z2 qS9.2))))
set_option maxHeartbeats 4000000 in
set_option maxRecDepth 100000 in
theorem f_X11_tokenize_L9_w {fu : Nat} (l : Launch) (g : im_G) (ad : Nat → Nat) {p : Program} {e : Env} {s : State} {m : MethodId} {below : List Frame} {meth : Method} {c : Code} {args : Array Value} (X : im_X p l s m args meth c g cX11_tokenize 3 RX11 none) : ∀ (nf : Nat) (z1 : Int32) (z2 : Int32) (S : im_S) (r : Unit) (S' : im_S), f_X11_tokenize_L9 fu nf z1 z2 S = some (r, S') → im_V p l e (im_R 3 0 0) s m args below meth c g 3 (im_Z below g ad args s none S') ad im_N (im_cn g ad S) 0 0 9 [(0, .ref (ad 75)), (1, .int z1), (2, .int z2)] [] := by
  intro nf
  induction nf with
  | zero =>
    intro z1 z2 S r S' hm
    cases hm
  | succ nf ih =>
    intro z1 z2 S r S' hm
    unfold f_X11_tokenize_L9 at hm
    refine iv_iload_n (pc := 9) X dX11_tokenize_9 rfl ?_
    refine iv_if_eq (pc := 10) X dX11_tokenize_10 (tgt := 68) rfl (fun hb1 => ?_) (fun hb1 => ?_)
    · rw [if_pos hb1] at hm
      refine iv_aload_n (pc := 68) X dX11_tokenize_68 rfl ?_
      refine iv_iconst (pc := 69) X dX11_tokenize_69 ic_0 ?_
      refine iv_iconst (pc := 70) X dX11_tokenize_70 ic_0 ?_
      refine iv_aload_n (pc := 71) X dX11_tokenize_71 rfl ?_
      refine gF_X11_190_75 (pc := 72) X dX11_tokenize_72 (x := S.1 75 2) rfl ?_
      refine iv_lconst (pc := 75) X dX11_tokenize_75 lc_0 ?_
      obtain ⟨⟨r3, S2⟩, hc4, hm⟩ := bd_some hm
      refine cV_X11_209_75 (pc := 76) X [.int 0, .int 0, .int (S.1 75 2), .long 0] [] 4 rfl (f_X11_token_e l g ad 0 0 (S.1 75 2) 0 S _ _ hc4) (by decide) (by decide) (Nat.le_of_ble_eq_true rfl) rfl dX11_tokenize_76 ?_
      cases hm
      exact is_vret (pc := 79) X dX11_tokenize_79
    · rw [if_neg hb1] at hm
      refine iv_iload_n (pc := 13) X dX11_tokenize_13 rfl ?_
      refine iv_aload_n (pc := 14) X dX11_tokenize_14 rfl ?_
      refine gF_X11_190_75 (pc := 15) X dX11_tokenize_15 (x := S.1 75 2) rfl ?_
      refine iv_icmp_ge (pc := 18) X dX11_tokenize_18 (tgt := 68) rfl (fun hb5 => ?_) (fun hb5 => ?_)
      · rw [if_pos hb5] at hm
        refine iv_aload_n (pc := 68) X dX11_tokenize_68 rfl ?_
        refine iv_iconst (pc := 69) X dX11_tokenize_69 ic_0 ?_
        refine iv_iconst (pc := 70) X dX11_tokenize_70 ic_0 ?_
        refine iv_aload_n (pc := 71) X dX11_tokenize_71 rfl ?_
        refine gF_X11_190_75 (pc := 72) X dX11_tokenize_72 (x := S.1 75 2) rfl ?_
        refine iv_lconst (pc := 75) X dX11_tokenize_75 lc_0 ?_
        obtain ⟨⟨r7, S6⟩, hc8, hm⟩ := bd_some hm
        refine cV_X11_209_75 (pc := 76) X [.int 0, .int 0, .int (S.1 75 2), .long 0] [] 4 rfl (f_X11_token_e l g ad 0 0 (S.1 75 2) 0 S _ _ hc8) (by decide) (by decide) (Nat.le_of_ble_eq_true rfl) rfl dX11_tokenize_76 ?_
        cases hm
        exact is_vret (pc := 79) X dX11_tokenize_79
      · rw [if_neg hb5] at hm
        refine iv_aload_n (pc := 21) X dX11_tokenize_21 rfl ?_
        refine iv_iload_n (pc := 22) X dX11_tokenize_22 rfl ?_
        obtain ⟨⟨r10, S9⟩, hc11, hm⟩ := bd_some hm
        refine cV_X11_202_75 (pc := 23) X [.int z1] [] 1 rfl (f_X11_character_e l g ad z1 S _ _ hc11) (by decide) (by decide) (Nat.le_of_ble_eq_true rfl) rfl dX11_tokenize_23 ?_
        refine iv_bipush (pc := 26) X dX11_tokenize_26 bc_32 ?_
        refine iv_icmp_ne (pc := 28) X dX11_tokenize_28 (tgt := 37) rfl (fun hb12 => ?_) (fun hb12 => ?_)
        · rw [if_pos hb12] at hm
          refine iv_aload_n (pc := 37) X dX11_tokenize_37 rfl ?_
          refine iv_iload_n (pc := 38) X dX11_tokenize_38 rfl ?_
          obtain ⟨⟨r14, S13⟩, hc15, hm⟩ := bd_some hm
          refine cV_X11_206_75 (pc := 39) X [.int z1] [] 1 rfl (f_X11_oneToken_e l g ad fu z1 S9 _ _ hc15) (by decide) (by decide) (Nat.le_of_ble_eq_true rfl) rfl dX11_tokenize_39 ?_
          refine iv_istore_n (pc := 42) X dX11_tokenize_42 (by decide) (lv' := [(1, .int r14), (0, .ref (ad 75)), (2, .int z2)]) rfl ?_
          refine iv_aload_n (pc := 43) X dX11_tokenize_43 rfl ?_
          refine gF_X11_13_75 (pc := 44) X dX11_tokenize_44 ?_
          refine iv_aload_n (pc := 47) X dX11_tokenize_47 rfl ?_
          refine gF_X11_199_75 (pc := 48) X dX11_tokenize_48 (x := S13.1 75 5) rfl ?_
          refine iv_iconst (pc := 51) X dX11_tokenize_51 ic_1 ?_
          refine iv_isub (pc := 52) X dX11_tokenize_52 ?_
          obtain ⟨hg, hm⟩ := gd_some hm
          refine aL_77 (pc := 53) X dX11_tokenize_53 hg (x := (S13.1 77) (((S13.1 75 5) - 1).toNatClampNeg)) rfl ?_
          refine iv_bipush (pc := 54) X dX11_tokenize_54 bc_9 ?_
          refine iv_icmp_eq (pc := 56) X dX11_tokenize_56 (tgt := 63) rfl (fun hb16 => ?_) (fun hb16 => ?_)
          · rw [if_pos hb16] at hm
            refine iv_iconst (pc := 63) X dX11_tokenize_63 ic_0 ?_
            refine iv_istore_n (pc := 64) X dX11_tokenize_64 (by decide) (lv' := [(2, .int 0), (1, .int r14), (0, .ref (ad 75))]) rfl ?_
            refine iv_goto (pc := 65) X dX11_tokenize_65 (tgt := 9) rfl ?_
            refine iv_sub [2, 1, 0] (lv2 := [(0, .ref (ad 75)), (1, .int r14), (2, .int 0)]) rfl ?_
            exact ih r14 0 S13 _ _ hm
          · rw [if_neg hb16] at hm
            refine iv_iconst (pc := 59) X dX11_tokenize_59 ic_1 ?_
            refine iv_goto (pc := 60) X dX11_tokenize_60 (tgt := 64) rfl ?_
            refine iv_istore_n (pc := 64) X dX11_tokenize_64 (by decide) (lv' := [(2, .int 1), (1, .int r14), (0, .ref (ad 75))]) rfl ?_
            refine iv_goto (pc := 65) X dX11_tokenize_65 (tgt := 9) rfl ?_
            refine iv_sub [2, 1, 0] (lv2 := [(0, .ref (ad 75)), (1, .int r14), (2, .int 1)]) rfl ?_
            exact ih r14 1 S13 _ _ hm
        · rw [if_neg hb12] at hm
          refine iv_iinc (pc := 31) X dX11_tokenize_31 rfl (by decide) (v := z1 + 1) rfl (lv' := [(1, .int (z1 + 1)), (0, .ref (ad 75)), (2, .int z2)]) rfl ?_
          refine iv_goto (pc := 34) X dX11_tokenize_34 (tgt := 9) rfl ?_
          refine iv_sub [1, 0, 2] (lv2 := [(0, .ref (ad 75)), (1, .int (z1 + 1)), (2, .int z2)]) rfl ?_
          exact ih (z1 + 1) z2 S9 _ _ hm
def f_X11_tokenize (fu : Nat) (S : im_S) : Option (Unit × im_S) := f_X11_tokenize_L9 fu fu 0 1 (uI S 75 5 0)
set_option maxHeartbeats 4000000 in
set_option maxRecDepth 100000 in
theorem f_X11_tokenize_e (l : Launch) (g : im_G) (ad : Nat → Nat) (fu : Nat) (S : im_S) (r : Unit) (S' : im_S) (hm : f_X11_tokenize fu  S = some (r, S')) : im_E l g ad 3 yX11_tokenize cX11_tokenize 3 none [.ref (ad 75)] S none S' := by
  unfold f_X11_tokenize at hm
  refine is_met (own := RX11) (by decide +kernel) rfl (Nat.le_of_ble_eq_true rfl) (fun p e s m below meth c X => ?_)
  refine iv_aload_n (pc := 0) X dX11_tokenize_0 rfl ?_
  refine iv_iconst (pc := 1) X dX11_tokenize_1 ic_0 ?_
  refine pF_X11_199_75 (pc := 2) X dX11_tokenize_2 ?_
  refine iv_iconst (pc := 5) X dX11_tokenize_5 ic_0 ?_
  refine iv_istore_n (pc := 6) X dX11_tokenize_6 (by decide) (lv' := [(1, .int 0), (0, .ref (ad 75))]) rfl ?_
  refine iv_iconst (pc := 7) X dX11_tokenize_7 ic_1 ?_
  refine iv_istore_n (pc := 8) X dX11_tokenize_8 (by decide) (lv' := [(2, .int 1), (1, .int 0), (0, .ref (ad 75))]) rfl ?_
  refine iv_sub [2, 1, 0] (lv2 := [(0, .ref (ad 75)), (1, .int 0), (2, .int 1)]) rfl ?_
  exact f_X11_tokenize_L9_w (fu := fu) l g ad X fu 0 1 (uI S 75 5 0) _ _ hm
def f_X11_name (fu : Nat) (x1 : Int32) (x2 : Int32) (S : im_S) : Option (Unit × im_S) := gd (in_b x2 1200) (gd (in_b x2 1200) (if ((S.1 113) x2.toNatClampNeg) = (1 : Int32) then (gd (in_b (((S.1 114) x2.toNatClampNeg) - (8 * (S.1 75 37))) 16) ((f_X11_around fu x1 ((S.1 96) ((((S.1 114) x2.toNatClampNeg) - (8 * (S.1 75 37))).toNatClampNeg)) S).bind (fun qS2 => gd (in_b qS2.1 24000) (if ((qS2.2.1 124) qS2.1.toNatClampNeg : Int32) ≠ (-1) then (gd (in_b qS2.1 24000) (gd (in_b qS2.1 24000) (gd (in_b ((qS2.2.1 125) qS2.1.toNatClampNeg) 1200) (gd (in_b x2 1200) (gd (in_b (((qS2.2.1 89) (((qS2.2.1 125) qS2.1.toNatClampNeg).toNatClampNeg)) + ((qS2.2.1 115) x2.toNatClampNeg)) 1200) ((f_X11_slot ((qS2.2.1 124) qS2.1.toNatClampNeg) ((qS2.2.1 95) ((((qS2.2.1 89) (((qS2.2.1 125) qS2.1.toNatClampNeg).toNatClampNeg)) + ((qS2.2.1 115) x2.toNatClampNeg)).toNatClampNeg)) qS2.2).bind (fun qS6 => (f_X11_foundAt qS6.1 qS6.2).bind (fun qS9 => some ((), qS9.2))))))))) else (gd (in_b x2 1200) (gd (in_b ((qS2.2.1 115) x2.toNatClampNeg) 4) (some ((), (uJ (uI qS2.2 75 81 1) 75 82 ((qS2.2.2.1 131) (((qS2.2.1 115) x2.toNatClampNeg).toNatClampNeg))))))))))) else (if ((S.1 113) x2.toNatClampNeg) = (2 : Int32) then (gd (in_b ((S.1 114) x2.toNatClampNeg) 1200) ((f_X11_around fu x1 ((S.1 103) (((S.1 114) x2.toNatClampNeg).toNatClampNeg)) S).bind (fun qS13 => gd (in_b ((S.1 114) x2.toNatClampNeg) 1200) ((f_X11_slot qS13.1 ((qS13.2.1 83) (((S.1 114) x2.toNatClampNeg).toNatClampNeg)) qS13.2).bind (fun qS16 => (f_X11_foundAt qS16.1 qS16.2).bind (fun qS19 => some ((), qS19.2))))))) else (if ((S.1 113) x2.toNatClampNeg) = (3 : Int32) then (gd (in_b ((S.1 114) x2.toNatClampNeg) 1200) ((f_X11_around fu x1 ((S.1 110) (((S.1 114) x2.toNatClampNeg).toNatClampNeg)) S).bind (fun qS23 => gd (in_b x2 1200) ((f_X11_loopName fu qS23.1 ((S.1 114) x2.toNatClampNeg) ((qS23.2.1 115) x2.toNatClampNeg) qS23.2).bind (fun qS26 => some ((), qS26.2)))))) else (if ((S.1 113) x2.toNatClampNeg) = (4 : Int32) then (gd (in_b ((S.1 114) x2.toNatClampNeg) 1200) ((f_X11_around fu x1 ((S.1 110) (((S.1 114) x2.toNatClampNeg).toNatClampNeg)) (uI S 75 81 1)).bind (fun qS30 => gd (in_b qS30.1 24000) (some ((), (uJ qS30.2 75 82 (((qS30.2.1 125) qS30.1.toNatClampNeg).toInt64))))))) else (gd (in_b ((S.1 114) x2.toNatClampNeg) 1200) ((f_X11_around fu x1 ((S.1 103) (((S.1 114) x2.toNatClampNeg).toNatClampNeg)) S).bind (fun qS33 => (f_X11_slot qS33.1 ((S.1 114) x2.toNatClampNeg) qS33.2).bind (fun qS36 => (f_X11_foundAt qS36.1 qS36.2).bind (fun qS39 => some ((), qS39.2)))))))))))
set_option maxHeartbeats 4000000 in
set_option maxRecDepth 100000 in
theorem f_X11_name_e (l : Launch) (g : im_G) (ad : Nat → Nat) (fu : Nat) (x1 : Int32) (x2 : Int32) (S : im_S) (r : Unit) (S' : im_S) (hm : f_X11_name fu x1 x2 S = some (r, S')) : im_E l g ad 2 yX11_name cX11_name 5 none [.ref (ad 75), .int x1, .int x2] S none S' := by
  unfold f_X11_name at hm
  refine is_met (own := RX11) (by decide +kernel) rfl (Nat.le_of_ble_eq_true rfl) (fun p e s m below meth c X => ?_)
  refine iv_aload_n (pc := 0) X dX11_name_0 rfl ?_
  refine gF_X11_125_75 (pc := 1) X dX11_name_1 ?_
  refine iv_iload_n (pc := 4) X dX11_name_4 rfl ?_
  obtain ⟨hg, hm⟩ := gd_some hm
  refine aL_114 (pc := 5) X dX11_name_5 hg (x := (S.1 114) x2.toNatClampNeg) rfl ?_
  refine iv_istore_n (pc := 6) X dX11_name_6 (by decide) (lv' := [(3, .int ((S.1 114) x2.toNatClampNeg)), (0, .ref (ad 75)), (1, .int x1), (2, .int x2)]) rfl ?_
  refine iv_aload_n (pc := 7) X dX11_name_7 rfl ?_
  refine gF_X11_122_75 (pc := 8) X dX11_name_8 ?_
  refine iv_iload_n (pc := 11) X dX11_name_11 rfl ?_
  obtain ⟨hg, hm⟩ := gd_some hm
  refine aL_113 (pc := 12) X dX11_name_12 hg (x := (S.1 113) x2.toNatClampNeg) rfl ?_
  by_cases hb1 : ((S.1 113) x2.toNatClampNeg) = (1 : Int32)
  · rw [if_pos hb1] at hm
    refine iv_tableIn X dX11_name_13 (off := 31) (tgt := 44) (by rw [hb1]; decide) (by rw [hb1]; decide) (by rw [hb1]; decide) (by decide) ?_
    refine iv_aload_n (pc := 44) X dX11_name_44 rfl ?_
    refine iv_iload_n (pc := 45) X dX11_name_45 rfl ?_
    refine iv_aload_n (pc := 46) X dX11_name_46 rfl ?_
    refine gF_X11_71_75 (pc := 47) X dX11_name_47 ?_
    refine iv_iload_n (pc := 50) X dX11_name_50 rfl ?_
    refine iv_bipush (pc := 51) X dX11_name_51 bc_8 ?_
    refine iv_aload_n (pc := 53) X dX11_name_53 rfl ?_
    refine gF_X11_317_75 (pc := 54) X dX11_name_54 (x := S.1 75 37) rfl ?_
    refine iv_imul (pc := 57) X dX11_name_57 ?_
    refine iv_isub (pc := 58) X dX11_name_58 ?_
    obtain ⟨hg, hm⟩ := gd_some hm
    refine aL_96 (pc := 59) X dX11_name_59 hg (x := (S.1 96) ((((S.1 114) x2.toNatClampNeg) - (8 * (S.1 75 37))).toNatClampNeg)) rfl ?_
    obtain ⟨⟨r3, S2⟩, hc4, hm⟩ := bd_some hm
    refine cV_X11_423_75 (pc := 60) X [.int x1, .int ((S.1 96) ((((S.1 114) x2.toNatClampNeg) - (8 * (S.1 75 37))).toNatClampNeg))] [] 2 rfl (f_X11_around_e l g ad fu x1 ((S.1 96) ((((S.1 114) x2.toNatClampNeg) - (8 * (S.1 75 37))).toNatClampNeg)) S _ _ hc4) (by decide) (by decide) (Nat.le_of_ble_eq_true rfl) rfl dX11_name_60 ?_
    refine iv_istore (pc := 63) X dX11_name_63 (by decide) (lv' := [(4, .int r3), (3, .int ((S.1 114) x2.toNatClampNeg)), (0, .ref (ad 75)), (1, .int x1), (2, .int x2)]) rfl ?_
    refine iv_aload_n (pc := 65) X dX11_name_65 rfl ?_
    refine gF_X11_155_75 (pc := 66) X dX11_name_66 ?_
    refine iv_iload (pc := 69) X dX11_name_69 rfl ?_
    obtain ⟨hg, hm⟩ := gd_some hm
    refine aL_124 (pc := 71) X dX11_name_71 hg (x := (S2.1 124) r3.toNatClampNeg) rfl ?_
    refine iv_iconst (pc := 72) X dX11_name_72 ic_m1 ?_
    refine iv_icmp_ne (pc := 73) X dX11_name_73 (tgt := 99) rfl (fun hb5 => ?_) (fun hb5 => ?_)
    · rw [if_pos hb5] at hm
      refine iv_aload_n (pc := 99) X dX11_name_99 rfl ?_
      refine iv_aload_n (pc := 100) X dX11_name_100 rfl ?_
      refine iv_aload_n (pc := 101) X dX11_name_101 rfl ?_
      refine gF_X11_155_75 (pc := 102) X dX11_name_102 ?_
      refine iv_iload (pc := 105) X dX11_name_105 rfl ?_
      obtain ⟨hg, hm⟩ := gd_some hm
      refine aL_124 (pc := 107) X dX11_name_107 hg (x := (S2.1 124) r3.toNatClampNeg) rfl ?_
      refine iv_aload_n (pc := 108) X dX11_name_108 rfl ?_
      refine gF_X11_68_75 (pc := 109) X dX11_name_109 ?_
      refine iv_aload_n (pc := 112) X dX11_name_112 rfl ?_
      refine gF_X11_50_75 (pc := 113) X dX11_name_113 ?_
      refine iv_aload_n (pc := 116) X dX11_name_116 rfl ?_
      refine gF_X11_158_75 (pc := 117) X dX11_name_117 ?_
      refine iv_iload (pc := 120) X dX11_name_120 rfl ?_
      obtain ⟨hg, hm⟩ := gd_some hm
      refine aL_125 (pc := 122) X dX11_name_122 hg (x := (S2.1 125) r3.toNatClampNeg) rfl ?_
      obtain ⟨hg, hm⟩ := gd_some hm
      refine aL_89 (pc := 123) X dX11_name_123 hg (x := (S2.1 89) (((S2.1 125) r3.toNatClampNeg).toNatClampNeg)) rfl ?_
      refine iv_aload_n (pc := 124) X dX11_name_124 rfl ?_
      refine gF_X11_128_75 (pc := 125) X dX11_name_125 ?_
      refine iv_iload_n (pc := 128) X dX11_name_128 rfl ?_
      obtain ⟨hg, hm⟩ := gd_some hm
      refine aL_115 (pc := 129) X dX11_name_129 hg (x := (S2.1 115) x2.toNatClampNeg) rfl ?_
      refine iv_iadd (pc := 130) X dX11_name_130 ?_
      obtain ⟨hg, hm⟩ := gd_some hm
      refine aL_95 (pc := 131) X dX11_name_131 hg (x := (S2.1 95) ((((S2.1 89) (((S2.1 125) r3.toNatClampNeg).toNatClampNeg)) + ((S2.1 115) x2.toNatClampNeg)).toNatClampNeg)) rfl ?_
      obtain ⟨⟨r7, S6⟩, hc8, hm⟩ := bd_some hm
      refine cV_X11_426_75 (pc := 132) X [.int ((S2.1 124) r3.toNatClampNeg), .int ((S2.1 95) ((((S2.1 89) (((S2.1 125) r3.toNatClampNeg).toNatClampNeg)) + ((S2.1 115) x2.toNatClampNeg)).toNatClampNeg))] [.ref (ad 75)] 2 rfl (f_X11_slot_e l g ad ((S2.1 124) r3.toNatClampNeg) ((S2.1 95) ((((S2.1 89) (((S2.1 125) r3.toNatClampNeg).toNatClampNeg)) + ((S2.1 115) x2.toNatClampNeg)).toNatClampNeg)) S2 _ _ hc8) (by decide) (by decide) (Nat.le_of_ble_eq_true rfl) rfl dX11_name_132 ?_
      obtain ⟨⟨r10, S9⟩, hc11, hm⟩ := bd_some hm
      refine cV_X11_429_75 (pc := 135) X [.int r7] [] 1 rfl (f_X11_foundAt_e l g ad r7 S6 _ _ hc11) (by decide) (by decide) (Nat.le_of_ble_eq_true rfl) rfl dX11_name_135 ?_
      refine iv_goto (pc := 138) X dX11_name_138 (tgt := 243) rfl ?_
      cases hm
      exact is_vret (pc := 243) X dX11_name_243
    · rw [if_neg hb5] at hm
      refine iv_aload_n (pc := 76) X dX11_name_76 rfl ?_
      refine iv_iconst (pc := 77) X dX11_name_77 ic_1 ?_
      refine pF_X11_416_75 (pc := 78) X dX11_name_78 ?_
      refine iv_aload_n (pc := 81) X dX11_name_81 rfl ?_
      refine iv_aload_n (pc := 82) X dX11_name_82 rfl ?_
      refine gF_X11_177_75 (pc := 83) X dX11_name_83 ?_
      refine iv_aload_n (pc := 86) X dX11_name_86 rfl ?_
      refine gF_X11_128_75 (pc := 87) X dX11_name_87 ?_
      refine iv_iload_n (pc := 90) X dX11_name_90 rfl ?_
      obtain ⟨hg, hm⟩ := gd_some hm
      refine aL_115 (pc := 91) X dX11_name_91 hg (x := (S2.1 115) x2.toNatClampNeg) rfl ?_
      obtain ⟨hg, hm⟩ := gd_some hm
      refine aL_131 (pc := 92) X dX11_name_92 hg (x := (S2.2.1 131) (((S2.1 115) x2.toNatClampNeg).toNatClampNeg)) rfl ?_
      refine pF_X11_419_75 (pc := 93) X dX11_name_93 ?_
      refine iv_goto (pc := 96) X dX11_name_96 (tgt := 243) rfl ?_
      cases hm
      exact is_vret (pc := 243) X dX11_name_243
  · rw [if_neg hb1] at hm
    by_cases hb12 : ((S.1 113) x2.toNatClampNeg) = (2 : Int32)
    · rw [if_pos hb12] at hm
      refine iv_tableIn X dX11_name_13 (off := 128) (tgt := 141) (by rw [hb12]; decide) (by rw [hb12]; decide) (by rw [hb12]; decide) (by decide) ?_
      refine iv_aload_n (pc := 141) X dX11_name_141 rfl ?_
      refine iv_aload_n (pc := 142) X dX11_name_142 rfl ?_
      refine iv_aload_n (pc := 143) X dX11_name_143 rfl ?_
      refine iv_iload_n (pc := 144) X dX11_name_144 rfl ?_
      refine iv_aload_n (pc := 145) X dX11_name_145 rfl ?_
      refine gF_X11_92_75 (pc := 146) X dX11_name_146 ?_
      refine iv_iload_n (pc := 149) X dX11_name_149 rfl ?_
      obtain ⟨hg, hm⟩ := gd_some hm
      refine aL_103 (pc := 150) X dX11_name_150 hg (x := (S.1 103) (((S.1 114) x2.toNatClampNeg).toNatClampNeg)) rfl ?_
      obtain ⟨⟨r14, S13⟩, hc15, hm⟩ := bd_some hm
      refine cV_X11_423_75 (pc := 151) X [.int x1, .int ((S.1 103) (((S.1 114) x2.toNatClampNeg).toNatClampNeg))] [.ref (ad 75), .ref (ad 75)] 2 rfl (f_X11_around_e l g ad fu x1 ((S.1 103) (((S.1 114) x2.toNatClampNeg).toNatClampNeg)) S _ _ hc15) (by decide) (by decide) (Nat.le_of_ble_eq_true rfl) rfl dX11_name_151 ?_
      refine iv_aload_n (pc := 154) X dX11_name_154 rfl ?_
      refine gF_X11_32_75 (pc := 155) X dX11_name_155 ?_
      refine iv_iload_n (pc := 158) X dX11_name_158 rfl ?_
      obtain ⟨hg, hm⟩ := gd_some hm
      refine aL_83 (pc := 159) X dX11_name_159 hg (x := (S13.1 83) (((S.1 114) x2.toNatClampNeg).toNatClampNeg)) rfl ?_
      obtain ⟨⟨r17, S16⟩, hc18, hm⟩ := bd_some hm
      refine cV_X11_426_75 (pc := 160) X [.int r14, .int ((S13.1 83) (((S.1 114) x2.toNatClampNeg).toNatClampNeg))] [.ref (ad 75)] 2 rfl (f_X11_slot_e l g ad r14 ((S13.1 83) (((S.1 114) x2.toNatClampNeg).toNatClampNeg)) S13 _ _ hc18) (by decide) (by decide) (Nat.le_of_ble_eq_true rfl) rfl dX11_name_160 ?_
      obtain ⟨⟨r20, S19⟩, hc21, hm⟩ := bd_some hm
      refine cV_X11_429_75 (pc := 163) X [.int r17] [] 1 rfl (f_X11_foundAt_e l g ad r17 S16 _ _ hc21) (by decide) (by decide) (Nat.le_of_ble_eq_true rfl) rfl dX11_name_163 ?_
      refine iv_goto (pc := 166) X dX11_name_166 (tgt := 243) rfl ?_
      cases hm
      exact is_vret (pc := 243) X dX11_name_243
    · rw [if_neg hb12] at hm
      by_cases hb22 : ((S.1 113) x2.toNatClampNeg) = (3 : Int32)
      · rw [if_pos hb22] at hm
        refine iv_tableIn X dX11_name_13 (off := 156) (tgt := 169) (by rw [hb22]; decide) (by rw [hb22]; decide) (by rw [hb22]; decide) (by decide) ?_
        refine iv_aload_n (pc := 169) X dX11_name_169 rfl ?_
        refine iv_aload_n (pc := 170) X dX11_name_170 rfl ?_
        refine iv_iload_n (pc := 171) X dX11_name_171 rfl ?_
        refine iv_aload_n (pc := 172) X dX11_name_172 rfl ?_
        refine gF_X11_113_75 (pc := 173) X dX11_name_173 ?_
        refine iv_iload_n (pc := 176) X dX11_name_176 rfl ?_
        obtain ⟨hg, hm⟩ := gd_some hm
        refine aL_110 (pc := 177) X dX11_name_177 hg (x := (S.1 110) (((S.1 114) x2.toNatClampNeg).toNatClampNeg)) rfl ?_
        obtain ⟨⟨r24, S23⟩, hc25, hm⟩ := bd_some hm
        refine cV_X11_423_75 (pc := 178) X [.int x1, .int ((S.1 110) (((S.1 114) x2.toNatClampNeg).toNatClampNeg))] [.ref (ad 75)] 2 rfl (f_X11_around_e l g ad fu x1 ((S.1 110) (((S.1 114) x2.toNatClampNeg).toNatClampNeg)) S _ _ hc25) (by decide) (by decide) (Nat.le_of_ble_eq_true rfl) rfl dX11_name_178 ?_
        refine iv_iload_n (pc := 181) X dX11_name_181 rfl ?_
        refine iv_aload_n (pc := 182) X dX11_name_182 rfl ?_
        refine gF_X11_128_75 (pc := 183) X dX11_name_183 ?_
        refine iv_iload_n (pc := 186) X dX11_name_186 rfl ?_
        obtain ⟨hg, hm⟩ := gd_some hm
        refine aL_115 (pc := 187) X dX11_name_187 hg (x := (S23.1 115) x2.toNatClampNeg) rfl ?_
        obtain ⟨⟨r27, S26⟩, hc28, hm⟩ := bd_some hm
        refine cV_X11_433_75 (pc := 188) X [.int r24, .int ((S.1 114) x2.toNatClampNeg), .int ((S23.1 115) x2.toNatClampNeg)] [] 3 rfl (f_X11_loopName_e l g ad fu r24 ((S.1 114) x2.toNatClampNeg) ((S23.1 115) x2.toNatClampNeg) S23 _ _ hc28) (by decide) (by decide) (Nat.le_of_ble_eq_true rfl) rfl dX11_name_188 ?_
        refine iv_goto (pc := 191) X dX11_name_191 (tgt := 243) rfl ?_
        cases hm
        exact is_vret (pc := 243) X dX11_name_243
      · rw [if_neg hb22] at hm
        by_cases hb29 : ((S.1 113) x2.toNatClampNeg) = (4 : Int32)
        · rw [if_pos hb29] at hm
          refine iv_tableIn X dX11_name_13 (off := 181) (tgt := 194) (by rw [hb29]; decide) (by rw [hb29]; decide) (by rw [hb29]; decide) (by decide) ?_
          refine iv_aload_n (pc := 194) X dX11_name_194 rfl ?_
          refine iv_iconst (pc := 195) X dX11_name_195 ic_1 ?_
          refine pF_X11_416_75 (pc := 196) X dX11_name_196 ?_
          refine iv_aload_n (pc := 199) X dX11_name_199 rfl ?_
          refine iv_aload_n (pc := 200) X dX11_name_200 rfl ?_
          refine gF_X11_158_75 (pc := 201) X dX11_name_201 ?_
          refine iv_aload_n (pc := 204) X dX11_name_204 rfl ?_
          refine iv_iload_n (pc := 205) X dX11_name_205 rfl ?_
          refine iv_aload_n (pc := 206) X dX11_name_206 rfl ?_
          refine gF_X11_113_75 (pc := 207) X dX11_name_207 ?_
          refine iv_iload_n (pc := 210) X dX11_name_210 rfl ?_
          obtain ⟨hg, hm⟩ := gd_some hm
          refine aL_110 (pc := 211) X dX11_name_211 hg (x := (S.1 110) (((S.1 114) x2.toNatClampNeg).toNatClampNeg)) rfl ?_
          obtain ⟨⟨r31, S30⟩, hc32, hm⟩ := bd_some hm
          refine cV_X11_423_75 (pc := 212) X [.int x1, .int ((S.1 110) (((S.1 114) x2.toNatClampNeg).toNatClampNeg))] [.ref (ad 125), .ref (ad 75)] 2 rfl (f_X11_around_e l g ad fu x1 ((S.1 110) (((S.1 114) x2.toNatClampNeg).toNatClampNeg)) (uI S 75 81 1) _ _ hc32) (by decide) (by decide) (Nat.le_of_ble_eq_true rfl) rfl dX11_name_212 ?_
          obtain ⟨hg, hm⟩ := gd_some hm
          refine aL_125 (pc := 215) X dX11_name_215 hg (x := (S30.1 125) r31.toNatClampNeg) rfl ?_
          refine iv_i2l (pc := 216) X dX11_name_216 rfl ?_
          refine pF_X11_419_75 (pc := 217) X dX11_name_217 ?_
          refine iv_goto (pc := 220) X dX11_name_220 (tgt := 243) rfl ?_
          cases hm
          exact is_vret (pc := 243) X dX11_name_243
        · rw [if_neg hb29] at hm
          have k0 := sw_ne hb1 (n := 1) (by decide)
          have k1 := sw_ne hb12 (n := 2) (by decide)
          have k2 := sw_ne hb22 (n := 3) (by decide)
          have k3 := sw_ne hb29 (n := 4) (by decide)
          refine iv_tableOut X dX11_name_13 (tgt := 223) (by omega) (by decide) ?_
          refine iv_aload_n (pc := 223) X dX11_name_223 rfl ?_
          refine iv_aload_n (pc := 224) X dX11_name_224 rfl ?_
          refine iv_aload_n (pc := 225) X dX11_name_225 rfl ?_
          refine iv_iload_n (pc := 226) X dX11_name_226 rfl ?_
          refine iv_aload_n (pc := 227) X dX11_name_227 rfl ?_
          refine gF_X11_92_75 (pc := 228) X dX11_name_228 ?_
          refine iv_iload_n (pc := 231) X dX11_name_231 rfl ?_
          obtain ⟨hg, hm⟩ := gd_some hm
          refine aL_103 (pc := 232) X dX11_name_232 hg (x := (S.1 103) (((S.1 114) x2.toNatClampNeg).toNatClampNeg)) rfl ?_
          obtain ⟨⟨r34, S33⟩, hc35, hm⟩ := bd_some hm
          refine cV_X11_423_75 (pc := 233) X [.int x1, .int ((S.1 103) (((S.1 114) x2.toNatClampNeg).toNatClampNeg))] [.ref (ad 75), .ref (ad 75)] 2 rfl (f_X11_around_e l g ad fu x1 ((S.1 103) (((S.1 114) x2.toNatClampNeg).toNatClampNeg)) S _ _ hc35) (by decide) (by decide) (Nat.le_of_ble_eq_true rfl) rfl dX11_name_233 ?_
          refine iv_iload_n (pc := 236) X dX11_name_236 rfl ?_
          obtain ⟨⟨r37, S36⟩, hc38, hm⟩ := bd_some hm
          refine cV_X11_426_75 (pc := 237) X [.int r34, .int ((S.1 114) x2.toNatClampNeg)] [.ref (ad 75)] 2 rfl (f_X11_slot_e l g ad r34 ((S.1 114) x2.toNatClampNeg) S33 _ _ hc38) (by decide) (by decide) (Nat.le_of_ble_eq_true rfl) rfl dX11_name_237 ?_
          obtain ⟨⟨r40, S39⟩, hc41, hm⟩ := bd_some hm
          refine cV_X11_429_75 (pc := 240) X [.int r37] [] 1 rfl (f_X11_foundAt_e l g ad r37 S36 _ _ hc41) (by decide) (by decide) (Nat.le_of_ble_eq_true rfl) rfl dX11_name_240 ?_
          cases hm
          exact is_vret (pc := 243) X dX11_name_243
def f_X11_step (fu : Nat) (x1 : Int32) (x2 : Int32) (S : im_S) : Option (Int32 × im_S) := (f_X11_slot x1 x2 S).bind (fun qS1 => gd (in_b x2 1200) (if ((qS1.2.1 81) x2.toNatClampNeg) = (1 : Int32) then (gd (in_b x2 1200) ((f_X11_give qS1.1 1 ((qS1.2.2.1 87) x2.toNatClampNeg) qS1.2).bind (fun qS5 => gd (z_b qS5.1) (some (qS5.1, qS5.2))))) else (if ((qS1.2.1 81) x2.toNatClampNeg) = (2 : Int32) then (gd (in_b x2 1200) ((f_X11_give qS1.1 2 ((qS1.2.2.1 87) x2.toNatClampNeg) qS1.2).bind (fun qS9 => gd (z_b qS9.1) (some (qS9.1, qS9.2))))) else (if ((qS1.2.1 81) x2.toNatClampNeg) = (3 : Int32) then ((f_X11_name fu x1 x2 qS1.2).bind (fun qS13 => if (qS13.2.1 75 81 : Int32) = 0 then (some (0, qS13.2)) else ((f_X11_give qS1.1 (qS13.2.1 75 81) (qS13.2.2.1 75 82) qS13.2).bind (fun qS17 => if (qS17.1 : Int32) = 0 then (some (0, qS17.2)) else (some (1, qS17.2)))))) else (if ((qS1.2.1 81) x2.toNatClampNeg) = (4 : Int32) then ((f_X11_call fu x1 x2 qS1.1 qS1.2).bind (fun qS22 => gd (z_b qS22.1) (some (qS22.1, qS22.2)))) else (if ((qS1.2.1 81) x2.toNatClampNeg) = (5 : Int32) then (gd (in_b x2 1200) ((f_X11_slot x1 ((qS1.2.1 84) x2.toNatClampNeg) qS1.2).bind (fun qS26 => (f_X11_pass qS1.1 qS26.1 qS26.2).bind (fun qS29 => gd (z_b qS29.1) (some (qS29.1, qS29.2)))))) else (if ((qS1.2.1 81) x2.toNatClampNeg) = (6 : Int32) then ((f_X11_branch fu x1 x2 qS1.1 qS1.2).bind (fun qS33 => gd (z_b qS33.1) (some (qS33.1, qS33.2)))) else (if ((qS1.2.1 81) x2.toNatClampNeg) = (7 : Int32) then ((f_X11_round fu x1 x2 qS1.1 qS1.2).bind (fun qS37 => gd (z_b qS37.1) (some (qS37.1, qS37.2)))) else (if ((qS1.2.1 81) x2.toNatClampNeg) = (8 : Int32) then (gd (in_b x2 1200) ((f_X11_slot x1 ((qS1.2.1 83) x2.toNatClampNeg) qS1.2).bind (fun qS41 => (f_X11_ahead x2 qS1.1 qS41.1 qS41.2).bind (fun qS44 => gd (z_b qS44.1) (some (qS44.1, qS44.2)))))) else (if ((qS1.2.1 81) x2.toNatClampNeg) = (9 : Int32) then (gd (in_b x2 1200) ((f_X11_slot x1 ((qS1.2.1 83) x2.toNatClampNeg) qS1.2).bind (fun qS48 => gd (in_b x2 1200) ((f_X11_slot x1 ((qS48.2.1 84) x2.toNatClampNeg) qS48.2).bind (fun qS51 => (f_X11_both x2 qS1.1 qS48.1 qS51.1 qS51.2).bind (fun qS54 => gd (z_b qS54.1) (some (qS54.1, qS54.2)))))))) else (if ((qS1.2.1 81) x2.toNatClampNeg) = (10 : Int32) then (gd (in_b x2 1200) ((f_X11_slot x1 ((qS1.2.1 83) x2.toNatClampNeg) qS1.2).bind (fun qS58 => gd (in_b x2 1200) ((f_X11_slot x1 ((qS58.2.1 84) x2.toNatClampNeg) qS58.2).bind (fun qS61 => (f_X11_cellOf qS1.1 qS58.1 qS61.1 qS61.2).bind (fun qS64 => gd (z_b qS64.1) (some (qS64.1, qS64.2)))))))) else (if ((qS1.2.1 81) x2.toNatClampNeg) = (11 : Int32) then (gd (in_b x2 1200) ((f_X11_slot x1 ((qS1.2.1 83) x2.toNatClampNeg) qS1.2).bind (fun qS68 => (f_X11_table fu x1 x2 qS1.1 qS68.1 qS68.2).bind (fun qS71 => gd (z_b qS71.1) (some (qS71.1, qS71.2)))))) else (gd (in_b x2 1200) ((f_X11_slot x1 ((qS1.2.1 83) x2.toNatClampNeg) qS1.2).bind (fun qS74 => (f_X11_pass qS1.1 qS74.1 qS74.2).bind (fun qS77 => gd (z_b qS77.1) (some (qS77.1, qS77.2))))))))))))))))))
set_option maxHeartbeats 4000000 in
set_option maxRecDepth 100000 in
theorem f_X11_step_e (l : Launch) (g : im_G) (ad : Nat → Nat) (fu : Nat) (x1 : Int32) (x2 : Int32) (S : im_S) (r : Int32) (S' : im_S) (hm : f_X11_step fu x1 x2 S = some (r, S')) : im_E l g ad 3 yX11_step cX11_step 4 (some Jvm.ClassFile.FieldType.boolean) [.ref (ad 75), .int x1, .int x2] S (some (.int r)) S' := by
  unfold f_X11_step at hm
  refine is_met (own := RX11) (by decide +kernel) rfl (Nat.le_of_ble_eq_true rfl) (fun p e s m below meth c X => ?_)
  refine iv_aload_n (pc := 0) X dX11_step_0 rfl ?_
  refine iv_iload_n (pc := 1) X dX11_step_1 rfl ?_
  refine iv_iload_n (pc := 2) X dX11_step_2 rfl ?_
  obtain ⟨⟨r2, S1⟩, hc3, hm⟩ := bd_some hm
  refine cV_X11_426_75 (pc := 3) X [.int x1, .int x2] [] 2 rfl (f_X11_slot_e l g ad x1 x2 S _ _ hc3) (by decide) (by decide) (Nat.le_of_ble_eq_true rfl) rfl dX11_step_3 ?_
  refine iv_istore_n (pc := 6) X dX11_step_6 (by decide) (lv' := [(3, .int r2), (0, .ref (ad 75)), (1, .int x1), (2, .int x2)]) rfl ?_
  refine iv_aload_n (pc := 7) X dX11_step_7 rfl ?_
  refine gF_X11_26_75 (pc := 8) X dX11_step_8 ?_
  refine iv_iload_n (pc := 11) X dX11_step_11 rfl ?_
  obtain ⟨hg, hm⟩ := gd_some hm
  refine aL_81 (pc := 12) X dX11_step_12 hg (x := (S1.1 81) x2.toNatClampNeg) rfl ?_
  by_cases hb4 : ((S1.1 81) x2.toNatClampNeg) = (1 : Int32)
  · rw [if_pos hb4] at hm
    refine iv_tableIn X dX11_step_13 (off := 59) (tgt := 72) (by rw [hb4]; decide) (by rw [hb4]; decide) (by rw [hb4]; decide) (by decide) ?_
    refine iv_aload_n (pc := 72) X dX11_step_72 rfl ?_
    refine iv_iload_n (pc := 73) X dX11_step_73 rfl ?_
    refine iv_iconst (pc := 74) X dX11_step_74 ic_1 ?_
    refine iv_aload_n (pc := 75) X dX11_step_75 rfl ?_
    refine gF_X11_44_75 (pc := 76) X dX11_step_76 ?_
    refine iv_iload_n (pc := 79) X dX11_step_79 rfl ?_
    obtain ⟨hg, hm⟩ := gd_some hm
    refine aL_87 (pc := 80) X dX11_step_80 hg (x := (S1.2.1 87) x2.toNatClampNeg) rfl ?_
    obtain ⟨⟨r6, S5⟩, hc7, hm⟩ := bd_some hm
    refine cV_X11_437_75 (pc := 81) X [.int r2, .int 1, .long ((S1.2.1 87) x2.toNatClampNeg)] [] 3 rfl (f_X11_give_e l g ad r2 1 ((S1.2.1 87) x2.toNatClampNeg) S1 _ _ hc7) (by decide) (by decide) (Nat.le_of_ble_eq_true rfl) rfl dX11_step_81 ?_
    obtain ⟨hg, hm⟩ := gd_some hm
    cases hm
    exact is_zret (pc := 84) X dX11_step_84 (z_b_n hg)
  · rw [if_neg hb4] at hm
    by_cases hb8 : ((S1.1 81) x2.toNatClampNeg) = (2 : Int32)
    · rw [if_pos hb8] at hm
      refine iv_tableIn X dX11_step_13 (off := 72) (tgt := 85) (by rw [hb8]; decide) (by rw [hb8]; decide) (by rw [hb8]; decide) (by decide) ?_
      refine iv_aload_n (pc := 85) X dX11_step_85 rfl ?_
      refine iv_iload_n (pc := 86) X dX11_step_86 rfl ?_
      refine iv_iconst (pc := 87) X dX11_step_87 ic_2 ?_
      refine iv_aload_n (pc := 88) X dX11_step_88 rfl ?_
      refine gF_X11_44_75 (pc := 89) X dX11_step_89 ?_
      refine iv_iload_n (pc := 92) X dX11_step_92 rfl ?_
      obtain ⟨hg, hm⟩ := gd_some hm
      refine aL_87 (pc := 93) X dX11_step_93 hg (x := (S1.2.1 87) x2.toNatClampNeg) rfl ?_
      obtain ⟨⟨r10, S9⟩, hc11, hm⟩ := bd_some hm
      refine cV_X11_437_75 (pc := 94) X [.int r2, .int 2, .long ((S1.2.1 87) x2.toNatClampNeg)] [] 3 rfl (f_X11_give_e l g ad r2 2 ((S1.2.1 87) x2.toNatClampNeg) S1 _ _ hc11) (by decide) (by decide) (Nat.le_of_ble_eq_true rfl) rfl dX11_step_94 ?_
      obtain ⟨hg, hm⟩ := gd_some hm
      cases hm
      exact is_zret (pc := 97) X dX11_step_97 (z_b_n hg)
    · rw [if_neg hb8] at hm
      by_cases hb12 : ((S1.1 81) x2.toNatClampNeg) = (3 : Int32)
      · rw [if_pos hb12] at hm
        refine iv_tableIn X dX11_step_13 (off := 85) (tgt := 98) (by rw [hb12]; decide) (by rw [hb12]; decide) (by rw [hb12]; decide) (by decide) ?_
        refine iv_aload_n (pc := 98) X dX11_step_98 rfl ?_
        refine iv_iload_n (pc := 99) X dX11_step_99 rfl ?_
        refine iv_iload_n (pc := 100) X dX11_step_100 rfl ?_
        obtain ⟨⟨r14, S13⟩, hc15, hm⟩ := bd_some hm
        refine cV_X11_441_75 (pc := 101) X [.int x1, .int x2] [] 2 rfl (f_X11_name_e l g ad fu x1 x2 S1 _ _ hc15) (by decide) (by decide) (Nat.le_of_ble_eq_true rfl) rfl dX11_step_101 ?_
        refine iv_aload_n (pc := 104) X dX11_step_104 rfl ?_
        refine gF_X11_416_75 (pc := 105) X dX11_step_105 (x := S13.1 75 81) rfl ?_
        refine iv_if_eq (pc := 108) X dX11_step_108 (tgt := 131) rfl (fun hb16 => ?_) (fun hb16 => ?_)
        · rw [if_pos hb16] at hm
          refine iv_iconst (pc := 131) X dX11_step_131 ic_0 ?_
          cases hm
          exact is_zret (pc := 132) X dX11_step_132 rfl
        · rw [if_neg hb16] at hm
          refine iv_aload_n (pc := 111) X dX11_step_111 rfl ?_
          refine iv_iload_n (pc := 112) X dX11_step_112 rfl ?_
          refine iv_aload_n (pc := 113) X dX11_step_113 rfl ?_
          refine gF_X11_416_75 (pc := 114) X dX11_step_114 (x := S13.1 75 81) rfl ?_
          refine iv_aload_n (pc := 117) X dX11_step_117 rfl ?_
          refine gF_X11_419_75 (pc := 118) X dX11_step_118 (x := S13.2.1 75 82) rfl ?_
          obtain ⟨⟨r18, S17⟩, hc19, hm⟩ := bd_some hm
          refine cV_X11_437_75 (pc := 121) X [.int r2, .int (S13.1 75 81), .long (S13.2.1 75 82)] [] 3 rfl (f_X11_give_e l g ad r2 (S13.1 75 81) (S13.2.1 75 82) S13 _ _ hc19) (by decide) (by decide) (Nat.le_of_ble_eq_true rfl) rfl dX11_step_121 ?_
          refine iv_if_eq (pc := 124) X dX11_step_124 (tgt := 131) rfl (fun hb20 => ?_) (fun hb20 => ?_)
          · rw [if_pos hb20] at hm
            refine iv_iconst (pc := 131) X dX11_step_131 ic_0 ?_
            cases hm
            exact is_zret (pc := 132) X dX11_step_132 rfl
          · rw [if_neg hb20] at hm
            refine iv_iconst (pc := 127) X dX11_step_127 ic_1 ?_
            refine iv_goto (pc := 128) X dX11_step_128 (tgt := 132) rfl ?_
            cases hm
            exact is_zret (pc := 132) X dX11_step_132 rfl
      · rw [if_neg hb12] at hm
        by_cases hb21 : ((S1.1 81) x2.toNatClampNeg) = (4 : Int32)
        · rw [if_pos hb21] at hm
          refine iv_tableIn X dX11_step_13 (off := 120) (tgt := 133) (by rw [hb21]; decide) (by rw [hb21]; decide) (by rw [hb21]; decide) (by decide) ?_
          refine iv_aload_n (pc := 133) X dX11_step_133 rfl ?_
          refine iv_iload_n (pc := 134) X dX11_step_134 rfl ?_
          refine iv_iload_n (pc := 135) X dX11_step_135 rfl ?_
          refine iv_iload_n (pc := 136) X dX11_step_136 rfl ?_
          obtain ⟨⟨r23, S22⟩, hc24, hm⟩ := bd_some hm
          refine cV_X11_444_75 (pc := 137) X [.int x1, .int x2, .int r2] [] 3 rfl (f_X11_call_e l g ad fu x1 x2 r2 S1 _ _ hc24) (by decide) (by decide) (Nat.le_of_ble_eq_true rfl) rfl dX11_step_137 ?_
          obtain ⟨hg, hm⟩ := gd_some hm
          cases hm
          exact is_zret (pc := 140) X dX11_step_140 (z_b_n hg)
        · rw [if_neg hb21] at hm
          by_cases hb25 : ((S1.1 81) x2.toNatClampNeg) = (5 : Int32)
          · rw [if_pos hb25] at hm
            refine iv_tableIn X dX11_step_13 (off := 128) (tgt := 141) (by rw [hb25]; decide) (by rw [hb25]; decide) (by rw [hb25]; decide) (by decide) ?_
            refine iv_aload_n (pc := 141) X dX11_step_141 rfl ?_
            refine iv_iload_n (pc := 142) X dX11_step_142 rfl ?_
            refine iv_aload_n (pc := 143) X dX11_step_143 rfl ?_
            refine iv_iload_n (pc := 144) X dX11_step_144 rfl ?_
            refine iv_aload_n (pc := 145) X dX11_step_145 rfl ?_
            refine gF_X11_35_75 (pc := 146) X dX11_step_146 ?_
            refine iv_iload_n (pc := 149) X dX11_step_149 rfl ?_
            obtain ⟨hg, hm⟩ := gd_some hm
            refine aL_84 (pc := 150) X dX11_step_150 hg (x := (S1.1 84) x2.toNatClampNeg) rfl ?_
            obtain ⟨⟨r27, S26⟩, hc28, hm⟩ := bd_some hm
            refine cV_X11_426_75 (pc := 151) X [.int x1, .int ((S1.1 84) x2.toNatClampNeg)] [.int r2, .ref (ad 75)] 2 rfl (f_X11_slot_e l g ad x1 ((S1.1 84) x2.toNatClampNeg) S1 _ _ hc28) (by decide) (by decide) (Nat.le_of_ble_eq_true rfl) rfl dX11_step_151 ?_
            obtain ⟨⟨r30, S29⟩, hc31, hm⟩ := bd_some hm
            refine cV_X11_448_75 (pc := 154) X [.int r2, .int r27] [] 2 rfl (f_X11_pass_e l g ad r2 r27 S26 _ _ hc31) (by decide) (by decide) (Nat.le_of_ble_eq_true rfl) rfl dX11_step_154 ?_
            obtain ⟨hg, hm⟩ := gd_some hm
            cases hm
            exact is_zret (pc := 157) X dX11_step_157 (z_b_n hg)
          · rw [if_neg hb25] at hm
            by_cases hb32 : ((S1.1 81) x2.toNatClampNeg) = (6 : Int32)
            · rw [if_pos hb32] at hm
              refine iv_tableIn X dX11_step_13 (off := 145) (tgt := 158) (by rw [hb32]; decide) (by rw [hb32]; decide) (by rw [hb32]; decide) (by decide) ?_
              refine iv_aload_n (pc := 158) X dX11_step_158 rfl ?_
              refine iv_iload_n (pc := 159) X dX11_step_159 rfl ?_
              refine iv_iload_n (pc := 160) X dX11_step_160 rfl ?_
              refine iv_iload_n (pc := 161) X dX11_step_161 rfl ?_
              obtain ⟨⟨r34, S33⟩, hc35, hm⟩ := bd_some hm
              refine cV_X11_452_75 (pc := 162) X [.int x1, .int x2, .int r2] [] 3 rfl (f_X11_branch_e l g ad fu x1 x2 r2 S1 _ _ hc35) (by decide) (by decide) (Nat.le_of_ble_eq_true rfl) rfl dX11_step_162 ?_
              obtain ⟨hg, hm⟩ := gd_some hm
              cases hm
              exact is_zret (pc := 165) X dX11_step_165 (z_b_n hg)
            · rw [if_neg hb32] at hm
              by_cases hb36 : ((S1.1 81) x2.toNatClampNeg) = (7 : Int32)
              · rw [if_pos hb36] at hm
                refine iv_tableIn X dX11_step_13 (off := 153) (tgt := 166) (by rw [hb36]; decide) (by rw [hb36]; decide) (by rw [hb36]; decide) (by decide) ?_
                refine iv_aload_n (pc := 166) X dX11_step_166 rfl ?_
                refine iv_iload_n (pc := 167) X dX11_step_167 rfl ?_
                refine iv_iload_n (pc := 168) X dX11_step_168 rfl ?_
                refine iv_iload_n (pc := 169) X dX11_step_169 rfl ?_
                obtain ⟨⟨r38, S37⟩, hc39, hm⟩ := bd_some hm
                refine cV_X11_455_75 (pc := 170) X [.int x1, .int x2, .int r2] [] 3 rfl (f_X11_round_e l g ad fu x1 x2 r2 S1 _ _ hc39) (by decide) (by decide) (Nat.le_of_ble_eq_true rfl) rfl dX11_step_170 ?_
                obtain ⟨hg, hm⟩ := gd_some hm
                cases hm
                exact is_zret (pc := 173) X dX11_step_173 (z_b_n hg)
              · rw [if_neg hb36] at hm
                by_cases hb40 : ((S1.1 81) x2.toNatClampNeg) = (8 : Int32)
                · rw [if_pos hb40] at hm
                  refine iv_tableIn X dX11_step_13 (off := 161) (tgt := 174) (by rw [hb40]; decide) (by rw [hb40]; decide) (by rw [hb40]; decide) (by decide) ?_
                  refine iv_aload_n (pc := 174) X dX11_step_174 rfl ?_
                  refine iv_iload_n (pc := 175) X dX11_step_175 rfl ?_
                  refine iv_iload_n (pc := 176) X dX11_step_176 rfl ?_
                  refine iv_aload_n (pc := 177) X dX11_step_177 rfl ?_
                  refine iv_iload_n (pc := 178) X dX11_step_178 rfl ?_
                  refine iv_aload_n (pc := 179) X dX11_step_179 rfl ?_
                  refine gF_X11_32_75 (pc := 180) X dX11_step_180 ?_
                  refine iv_iload_n (pc := 183) X dX11_step_183 rfl ?_
                  obtain ⟨hg, hm⟩ := gd_some hm
                  refine aL_83 (pc := 184) X dX11_step_184 hg (x := (S1.1 83) x2.toNatClampNeg) rfl ?_
                  obtain ⟨⟨r42, S41⟩, hc43, hm⟩ := bd_some hm
                  refine cV_X11_426_75 (pc := 185) X [.int x1, .int ((S1.1 83) x2.toNatClampNeg)] [.int r2, .int x2, .ref (ad 75)] 2 rfl (f_X11_slot_e l g ad x1 ((S1.1 83) x2.toNatClampNeg) S1 _ _ hc43) (by decide) (by decide) (Nat.le_of_ble_eq_true rfl) rfl dX11_step_185 ?_
                  obtain ⟨⟨r45, S44⟩, hc46, hm⟩ := bd_some hm
                  refine cV_X11_458_75 (pc := 188) X [.int x2, .int r2, .int r42] [] 3 rfl (f_X11_ahead_e l g ad x2 r2 r42 S41 _ _ hc46) (by decide) (by decide) (Nat.le_of_ble_eq_true rfl) rfl dX11_step_188 ?_
                  obtain ⟨hg, hm⟩ := gd_some hm
                  cases hm
                  exact is_zret (pc := 191) X dX11_step_191 (z_b_n hg)
                · rw [if_neg hb40] at hm
                  by_cases hb47 : ((S1.1 81) x2.toNatClampNeg) = (9 : Int32)
                  · rw [if_pos hb47] at hm
                    refine iv_tableIn X dX11_step_13 (off := 179) (tgt := 192) (by rw [hb47]; decide) (by rw [hb47]; decide) (by rw [hb47]; decide) (by decide) ?_
                    refine iv_aload_n (pc := 192) X dX11_step_192 rfl ?_
                    refine iv_iload_n (pc := 193) X dX11_step_193 rfl ?_
                    refine iv_iload_n (pc := 194) X dX11_step_194 rfl ?_
                    refine iv_aload_n (pc := 195) X dX11_step_195 rfl ?_
                    refine iv_iload_n (pc := 196) X dX11_step_196 rfl ?_
                    refine iv_aload_n (pc := 197) X dX11_step_197 rfl ?_
                    refine gF_X11_32_75 (pc := 198) X dX11_step_198 ?_
                    refine iv_iload_n (pc := 201) X dX11_step_201 rfl ?_
                    obtain ⟨hg, hm⟩ := gd_some hm
                    refine aL_83 (pc := 202) X dX11_step_202 hg (x := (S1.1 83) x2.toNatClampNeg) rfl ?_
                    obtain ⟨⟨r49, S48⟩, hc50, hm⟩ := bd_some hm
                    refine cV_X11_426_75 (pc := 203) X [.int x1, .int ((S1.1 83) x2.toNatClampNeg)] [.int r2, .int x2, .ref (ad 75)] 2 rfl (f_X11_slot_e l g ad x1 ((S1.1 83) x2.toNatClampNeg) S1 _ _ hc50) (by decide) (by decide) (Nat.le_of_ble_eq_true rfl) rfl dX11_step_203 ?_
                    refine iv_aload_n (pc := 206) X dX11_step_206 rfl ?_
                    refine iv_iload_n (pc := 207) X dX11_step_207 rfl ?_
                    refine iv_aload_n (pc := 208) X dX11_step_208 rfl ?_
                    refine gF_X11_35_75 (pc := 209) X dX11_step_209 ?_
                    refine iv_iload_n (pc := 212) X dX11_step_212 rfl ?_
                    obtain ⟨hg, hm⟩ := gd_some hm
                    refine aL_84 (pc := 213) X dX11_step_213 hg (x := (S48.1 84) x2.toNatClampNeg) rfl ?_
                    obtain ⟨⟨r52, S51⟩, hc53, hm⟩ := bd_some hm
                    refine cV_X11_426_75 (pc := 214) X [.int x1, .int ((S48.1 84) x2.toNatClampNeg)] [.int r49, .int r2, .int x2, .ref (ad 75)] 2 rfl (f_X11_slot_e l g ad x1 ((S48.1 84) x2.toNatClampNeg) S48 _ _ hc53) (by decide) (by decide) (Nat.le_of_ble_eq_true rfl) rfl dX11_step_214 ?_
                    obtain ⟨⟨r55, S54⟩, hc56, hm⟩ := bd_some hm
                    refine cV_X11_461_75 (pc := 217) X [.int x2, .int r2, .int r49, .int r52] [] 4 rfl (f_X11_both_e l g ad x2 r2 r49 r52 S51 _ _ hc56) (by decide) (by decide) (Nat.le_of_ble_eq_true rfl) rfl dX11_step_217 ?_
                    obtain ⟨hg, hm⟩ := gd_some hm
                    cases hm
                    exact is_zret (pc := 220) X dX11_step_220 (z_b_n hg)
                  · rw [if_neg hb47] at hm
                    by_cases hb57 : ((S1.1 81) x2.toNatClampNeg) = (10 : Int32)
                    · rw [if_pos hb57] at hm
                      refine iv_tableIn X dX11_step_13 (off := 208) (tgt := 221) (by rw [hb57]; decide) (by rw [hb57]; decide) (by rw [hb57]; decide) (by decide) ?_
                      refine iv_aload_n (pc := 221) X dX11_step_221 rfl ?_
                      refine iv_iload_n (pc := 222) X dX11_step_222 rfl ?_
                      refine iv_aload_n (pc := 223) X dX11_step_223 rfl ?_
                      refine iv_iload_n (pc := 224) X dX11_step_224 rfl ?_
                      refine iv_aload_n (pc := 225) X dX11_step_225 rfl ?_
                      refine gF_X11_32_75 (pc := 226) X dX11_step_226 ?_
                      refine iv_iload_n (pc := 229) X dX11_step_229 rfl ?_
                      obtain ⟨hg, hm⟩ := gd_some hm
                      refine aL_83 (pc := 230) X dX11_step_230 hg (x := (S1.1 83) x2.toNatClampNeg) rfl ?_
                      obtain ⟨⟨r59, S58⟩, hc60, hm⟩ := bd_some hm
                      refine cV_X11_426_75 (pc := 231) X [.int x1, .int ((S1.1 83) x2.toNatClampNeg)] [.int r2, .ref (ad 75)] 2 rfl (f_X11_slot_e l g ad x1 ((S1.1 83) x2.toNatClampNeg) S1 _ _ hc60) (by decide) (by decide) (Nat.le_of_ble_eq_true rfl) rfl dX11_step_231 ?_
                      refine iv_aload_n (pc := 234) X dX11_step_234 rfl ?_
                      refine iv_iload_n (pc := 235) X dX11_step_235 rfl ?_
                      refine iv_aload_n (pc := 236) X dX11_step_236 rfl ?_
                      refine gF_X11_35_75 (pc := 237) X dX11_step_237 ?_
                      refine iv_iload_n (pc := 240) X dX11_step_240 rfl ?_
                      obtain ⟨hg, hm⟩ := gd_some hm
                      refine aL_84 (pc := 241) X dX11_step_241 hg (x := (S58.1 84) x2.toNatClampNeg) rfl ?_
                      obtain ⟨⟨r62, S61⟩, hc63, hm⟩ := bd_some hm
                      refine cV_X11_426_75 (pc := 242) X [.int x1, .int ((S58.1 84) x2.toNatClampNeg)] [.int r59, .int r2, .ref (ad 75)] 2 rfl (f_X11_slot_e l g ad x1 ((S58.1 84) x2.toNatClampNeg) S58 _ _ hc63) (by decide) (by decide) (Nat.le_of_ble_eq_true rfl) rfl dX11_step_242 ?_
                      obtain ⟨⟨r65, S64⟩, hc66, hm⟩ := bd_some hm
                      refine cV_X11_465_75 (pc := 245) X [.int r2, .int r59, .int r62] [] 3 rfl (f_X11_cellOf_e l g ad r2 r59 r62 S61 _ _ hc66) (by decide) (by decide) (Nat.le_of_ble_eq_true rfl) rfl dX11_step_245 ?_
                      obtain ⟨hg, hm⟩ := gd_some hm
                      cases hm
                      exact is_zret (pc := 248) X dX11_step_248 (z_b_n hg)
                    · rw [if_neg hb57] at hm
                      by_cases hb67 : ((S1.1 81) x2.toNatClampNeg) = (11 : Int32)
                      · rw [if_pos hb67] at hm
                        refine iv_tableIn X dX11_step_13 (off := 236) (tgt := 249) (by rw [hb67]; decide) (by rw [hb67]; decide) (by rw [hb67]; decide) (by decide) ?_
                        refine iv_aload_n (pc := 249) X dX11_step_249 rfl ?_
                        refine iv_iload_n (pc := 250) X dX11_step_250 rfl ?_
                        refine iv_iload_n (pc := 251) X dX11_step_251 rfl ?_
                        refine iv_iload_n (pc := 252) X dX11_step_252 rfl ?_
                        refine iv_aload_n (pc := 253) X dX11_step_253 rfl ?_
                        refine iv_iload_n (pc := 254) X dX11_step_254 rfl ?_
                        refine iv_aload_n (pc := 255) X dX11_step_255 rfl ?_
                        refine gF_X11_32_75 (pc := 256) X dX11_step_256 ?_
                        refine iv_iload_n (pc := 259) X dX11_step_259 rfl ?_
                        obtain ⟨hg, hm⟩ := gd_some hm
                        refine aL_83 (pc := 260) X dX11_step_260 hg (x := (S1.1 83) x2.toNatClampNeg) rfl ?_
                        obtain ⟨⟨r69, S68⟩, hc70, hm⟩ := bd_some hm
                        refine cV_X11_426_75 (pc := 261) X [.int x1, .int ((S1.1 83) x2.toNatClampNeg)] [.int r2, .int x2, .int x1, .ref (ad 75)] 2 rfl (f_X11_slot_e l g ad x1 ((S1.1 83) x2.toNatClampNeg) S1 _ _ hc70) (by decide) (by decide) (Nat.le_of_ble_eq_true rfl) rfl dX11_step_261 ?_
                        obtain ⟨⟨r72, S71⟩, hc73, hm⟩ := bd_some hm
                        refine cV_X11_468_75 (pc := 264) X [.int x1, .int x2, .int r2, .int r69] [] 4 rfl (f_X11_table_e l g ad fu x1 x2 r2 r69 S68 _ _ hc73) (by decide) (by decide) (Nat.le_of_ble_eq_true rfl) rfl dX11_step_264 ?_
                        obtain ⟨hg, hm⟩ := gd_some hm
                        cases hm
                        exact is_zret (pc := 267) X dX11_step_267 (z_b_n hg)
                      · rw [if_neg hb67] at hm
                        have k0 := sw_ne hb4 (n := 1) (by decide)
                        have k1 := sw_ne hb8 (n := 2) (by decide)
                        have k2 := sw_ne hb12 (n := 3) (by decide)
                        have k3 := sw_ne hb21 (n := 4) (by decide)
                        have k4 := sw_ne hb25 (n := 5) (by decide)
                        have k5 := sw_ne hb32 (n := 6) (by decide)
                        have k6 := sw_ne hb36 (n := 7) (by decide)
                        have k7 := sw_ne hb40 (n := 8) (by decide)
                        have k8 := sw_ne hb47 (n := 9) (by decide)
                        have k9 := sw_ne hb57 (n := 10) (by decide)
                        have k10 := sw_ne hb67 (n := 11) (by decide)
                        refine iv_tableOut X dX11_step_13 (tgt := 268) (by omega) (by decide) ?_
                        refine iv_aload_n (pc := 268) X dX11_step_268 rfl ?_
                        refine iv_iload_n (pc := 269) X dX11_step_269 rfl ?_
                        refine iv_aload_n (pc := 270) X dX11_step_270 rfl ?_
                        refine iv_iload_n (pc := 271) X dX11_step_271 rfl ?_
                        refine iv_aload_n (pc := 272) X dX11_step_272 rfl ?_
                        refine gF_X11_32_75 (pc := 273) X dX11_step_273 ?_
                        refine iv_iload_n (pc := 276) X dX11_step_276 rfl ?_
                        obtain ⟨hg, hm⟩ := gd_some hm
                        refine aL_83 (pc := 277) X dX11_step_277 hg (x := (S1.1 83) x2.toNatClampNeg) rfl ?_
                        obtain ⟨⟨r75, S74⟩, hc76, hm⟩ := bd_some hm
                        refine cV_X11_426_75 (pc := 278) X [.int x1, .int ((S1.1 83) x2.toNatClampNeg)] [.int r2, .ref (ad 75)] 2 rfl (f_X11_slot_e l g ad x1 ((S1.1 83) x2.toNatClampNeg) S1 _ _ hc76) (by decide) (by decide) (Nat.le_of_ble_eq_true rfl) rfl dX11_step_278 ?_
                        obtain ⟨⟨r78, S77⟩, hc79, hm⟩ := bd_some hm
                        refine cV_X11_448_75 (pc := 281) X [.int r2, .int r75] [] 2 rfl (f_X11_pass_e l g ad r2 r75 S74 _ _ hc79) (by decide) (by decide) (Nat.le_of_ble_eq_true rfl) rfl dX11_step_281 ?_
                        obtain ⟨hg, hm⟩ := gd_some hm
                        cases hm
                        exact is_zret (pc := 284) X dX11_step_284 (z_b_n hg)
def f_X11_sweep_L14 (fu : Nat) : Nat → Int32 → Int32 → Int32 → im_S → Option (Int32 × im_S)
  | 0, _, _, _, _ => none
  | nf + 1, z1, z2, z3, S => if (z3 : Int32) = (-1) then (gd (z_b z2) (some (z2, S))) else (if (1000 : Int32) < (S.1 75 72) then (gd (z_b z2) (some (z2, S))) else ((f_X11_slot z1 z3 S).bind (fun qS3 => gd (in_b qS3.1 520000) (if ((qS3.2.1 126) qS3.1.toNatClampNeg : Int32) = 0 then ((f_X11_step fu z1 z3 qS3.2).bind (fun qS7 => gd (in_b qS3.1 520000) (if ((qS7.2.1 126) qS3.1.toNatClampNeg : Int32) = 0 then (gd (in_b z3 1200) (f_X11_sweep_L14 fu nf z1 (z2 ||| qS7.1) ((qS7.2.1 108) z3.toNatClampNeg) qS7.2)) else (gd (in_b z1 24000) (gd (in_b z1 24000) (gd (in_b z3 1200) (f_X11_sweep_L14 fu nf z1 (z2 ||| qS7.1) ((qS7.2.1 108) z3.toNatClampNeg) (uI qS7.2 123 z1.toNatClampNeg (((qS7.2.1 123) z1.toNatClampNeg) - 1))))))))) else (gd (in_b z3 1200) (f_X11_sweep_L14 fu nf z1 z2 ((qS3.2.1 108) z3.toNatClampNeg) qS3.2))))))
set_option maxHeartbeats 4000000 in
set_option maxRecDepth 100000 in
theorem f_X11_sweep_L14_w {fu : Nat} (l : Launch) (g : im_G) (ad : Nat → Nat) {p : Program} {e : Env} {s : State} {m : MethodId} {below : List Frame} {meth : Method} {c : Code} {args : Array Value} (X : im_X p l s m args meth c g cX11_sweep 5 RX11 (some Jvm.ClassFile.FieldType.boolean)) : ∀ (nf : Nat) (z1 : Int32) (z2 : Int32) (z3 : Int32) (S : im_S) (r : Int32) (S' : im_S), f_X11_sweep_L14 fu nf z1 z2 z3 S = some (r, S') → im_V p l e (im_R 4 0 0) s m args below meth c g 5 (im_Z below g ad args s (some (.int r)) S') ad im_N (im_cn g ad S) 0 0 14 [(0, .ref (ad 75)), (1, .int z1), (2, .int z2), (3, .int z3)] [] := by
  intro nf
  induction nf with
  | zero =>
    intro z1 z2 z3 S r S' hm
    cases hm
  | succ nf ih =>
    intro z1 z2 z3 S r S' hm
    unfold f_X11_sweep_L14 at hm
    refine iv_iload_n (pc := 14) X dX11_sweep_14 rfl ?_
    refine iv_iconst (pc := 15) X dX11_sweep_15 ic_m1 ?_
    refine iv_icmp_eq (pc := 16) X dX11_sweep_16 (tgt := 89) rfl (fun hb1 => ?_) (fun hb1 => ?_)
    · rw [if_pos hb1] at hm
      refine iv_iload_n (pc := 89) X dX11_sweep_89 rfl ?_
      obtain ⟨hg, hm⟩ := gd_some hm
      cases hm
      exact is_zret (pc := 90) X dX11_sweep_90 (z_b_n hg)
    · rw [if_neg hb1] at hm
      refine iv_aload_n (pc := 19) X dX11_sweep_19 rfl ?_
      refine gF_X11_404_75 (pc := 20) X dX11_sweep_20 (x := S.1 75 72) rfl ?_
      refine iv_sipush (pc := 23) X dX11_sweep_23 sc_1000 ?_
      refine iv_icmp_gt (pc := 26) X dX11_sweep_26 (tgt := 89) rfl (fun hb2 => ?_) (fun hb2 => ?_)
      · rw [if_pos hb2] at hm
        refine iv_iload_n (pc := 89) X dX11_sweep_89 rfl ?_
        obtain ⟨hg, hm⟩ := gd_some hm
        cases hm
        exact is_zret (pc := 90) X dX11_sweep_90 (z_b_n hg)
      · rw [if_neg hb2] at hm
        refine iv_aload_n (pc := 29) X dX11_sweep_29 rfl ?_
        refine iv_iload_n (pc := 30) X dX11_sweep_30 rfl ?_
        refine iv_iload_n (pc := 31) X dX11_sweep_31 rfl ?_
        obtain ⟨⟨r4, S3⟩, hc5, hm⟩ := bd_some hm
        refine cV_X11_426_75 (pc := 32) X [.int z1, .int z3] [] 2 rfl (f_X11_slot_e l g ad z1 z3 S _ _ hc5) (by decide) (by decide) (Nat.le_of_ble_eq_true rfl) rfl dX11_sweep_32 ?_
        refine iv_istore (pc := 35) X dX11_sweep_35 (by decide) (lv' := [(4, .int r4), (0, .ref (ad 75)), (1, .int z1), (2, .int z2), (3, .int z3)]) rfl ?_
        refine iv_aload_n (pc := 37) X dX11_sweep_37 rfl ?_
        refine gF_X11_162_75 (pc := 38) X dX11_sweep_38 ?_
        refine iv_iload (pc := 41) X dX11_sweep_41 rfl ?_
        obtain ⟨hg, hm⟩ := gd_some hm
        refine aL_126 (pc := 43) X dX11_sweep_43 hg (x := (S3.1 126) r4.toNatClampNeg) rfl ?_
        refine iv_if_eq (pc := 44) X dX11_sweep_44 (tgt := 50) rfl (fun hb6 => ?_) (fun hb6 => ?_)
        · rw [if_pos hb6] at hm
          refine iv_iload_n (pc := 50) X dX11_sweep_50 rfl ?_
          refine iv_aload_n (pc := 51) X dX11_sweep_51 rfl ?_
          refine iv_iload_n (pc := 52) X dX11_sweep_52 rfl ?_
          refine iv_iload_n (pc := 53) X dX11_sweep_53 rfl ?_
          obtain ⟨⟨r8, S7⟩, hc9, hm⟩ := bd_some hm
          refine cV_X11_496_75 (pc := 54) X [.int z1, .int z3] [.int z2] 2 rfl (f_X11_step_e l g ad fu z1 z3 S3 _ _ hc9) (by decide) (by decide) (Nat.le_of_ble_eq_true rfl) rfl dX11_sweep_54 ?_
          refine iv_ior (pc := 57) X dX11_sweep_57 ?_
          refine iv_istore_n (pc := 58) X dX11_sweep_58 (by decide) (lv' := [(2, .int (z2 ||| r8)), (4, .int r4), (0, .ref (ad 75)), (1, .int z1), (3, .int z3)]) rfl ?_
          refine iv_aload_n (pc := 59) X dX11_sweep_59 rfl ?_
          refine gF_X11_162_75 (pc := 60) X dX11_sweep_60 ?_
          refine iv_iload (pc := 63) X dX11_sweep_63 rfl ?_
          obtain ⟨hg, hm⟩ := gd_some hm
          refine aL_126 (pc := 65) X dX11_sweep_65 hg (x := (S7.1 126) r4.toNatClampNeg) rfl ?_
          refine iv_if_eq (pc := 66) X dX11_sweep_66 (tgt := 79) rfl (fun hb10 => ?_) (fun hb10 => ?_)
          · rw [if_pos hb10] at hm
            refine iv_aload_n (pc := 79) X dX11_sweep_79 rfl ?_
            refine gF_X11_107_75 (pc := 80) X dX11_sweep_80 ?_
            refine iv_iload_n (pc := 83) X dX11_sweep_83 rfl ?_
            obtain ⟨hg, hm⟩ := gd_some hm
            refine aL_108 (pc := 84) X dX11_sweep_84 hg (x := (S7.1 108) z3.toNatClampNeg) rfl ?_
            refine iv_istore_n (pc := 85) X dX11_sweep_85 (by decide) (lv' := [(3, .int ((S7.1 108) z3.toNatClampNeg)), (2, .int (z2 ||| r8)), (4, .int r4), (0, .ref (ad 75)), (1, .int z1)]) rfl ?_
            refine iv_goto (pc := 86) X dX11_sweep_86 (tgt := 14) rfl ?_
            refine iv_sub [3, 4, 1, 0] (lv2 := [(0, .ref (ad 75)), (1, .int z1), (2, .int (z2 ||| r8)), (3, .int ((S7.1 108) z3.toNatClampNeg))]) rfl ?_
            exact ih z1 (z2 ||| r8) ((S7.1 108) z3.toNatClampNeg) S7 _ _ hm
          · rw [if_neg hb10] at hm
            refine iv_aload_n (pc := 69) X dX11_sweep_69 rfl ?_
            refine gF_X11_152_75 (pc := 70) X dX11_sweep_70 ?_
            refine iv_iload_n (pc := 73) X dX11_sweep_73 rfl ?_
            refine iv_dup2_11 (pc := 74) X dX11_sweep_74 rfl rfl ?_
            obtain ⟨hg, hm⟩ := gd_some hm
            refine aL_123 (pc := 75) X dX11_sweep_75 hg (x := (S7.1 123) z1.toNatClampNeg) rfl ?_
            refine iv_iconst (pc := 76) X dX11_sweep_76 ic_1 ?_
            refine iv_isub (pc := 77) X dX11_sweep_77 ?_
            obtain ⟨hg, hm⟩ := gd_some hm
            refine aS_123 (pc := 78) X dX11_sweep_78 hg ?_
            refine iv_aload_n (pc := 79) X dX11_sweep_79 rfl ?_
            refine gF_X11_107_75 (pc := 80) X dX11_sweep_80 ?_
            refine iv_iload_n (pc := 83) X dX11_sweep_83 rfl ?_
            obtain ⟨hg, hm⟩ := gd_some hm
            refine aL_108 (pc := 84) X dX11_sweep_84 hg (x := (S7.1 108) z3.toNatClampNeg) rfl ?_
            refine iv_istore_n (pc := 85) X dX11_sweep_85 (by decide) (lv' := [(3, .int ((S7.1 108) z3.toNatClampNeg)), (2, .int (z2 ||| r8)), (4, .int r4), (0, .ref (ad 75)), (1, .int z1)]) rfl ?_
            refine iv_goto (pc := 86) X dX11_sweep_86 (tgt := 14) rfl ?_
            refine iv_sub [3, 4, 1, 0] (lv2 := [(0, .ref (ad 75)), (1, .int z1), (2, .int (z2 ||| r8)), (3, .int ((S7.1 108) z3.toNatClampNeg))]) rfl ?_
            exact ih z1 (z2 ||| r8) ((S7.1 108) z3.toNatClampNeg) (uI S7 123 z1.toNatClampNeg (((S7.1 123) z1.toNatClampNeg) - 1)) _ _ hm
        · rw [if_neg hb6] at hm
          refine iv_goto (pc := 47) X dX11_sweep_47 (tgt := 79) rfl ?_
          refine iv_aload_n (pc := 79) X dX11_sweep_79 rfl ?_
          refine gF_X11_107_75 (pc := 80) X dX11_sweep_80 ?_
          refine iv_iload_n (pc := 83) X dX11_sweep_83 rfl ?_
          obtain ⟨hg, hm⟩ := gd_some hm
          refine aL_108 (pc := 84) X dX11_sweep_84 hg (x := (S3.1 108) z3.toNatClampNeg) rfl ?_
          refine iv_istore_n (pc := 85) X dX11_sweep_85 (by decide) (lv' := [(3, .int ((S3.1 108) z3.toNatClampNeg)), (4, .int r4), (0, .ref (ad 75)), (1, .int z1), (2, .int z2)]) rfl ?_
          refine iv_goto (pc := 86) X dX11_sweep_86 (tgt := 14) rfl ?_
          refine iv_sub [2, 3, 4, 0] (lv2 := [(0, .ref (ad 75)), (1, .int z1), (2, .int z2), (3, .int ((S3.1 108) z3.toNatClampNeg))]) rfl ?_
          exact ih z1 z2 ((S3.1 108) z3.toNatClampNeg) S3 _ _ hm
def f_X11_sweep (fu : Nat) (x1 : Int32) (S : im_S) : Option (Int32 × im_S) := gd (in_b x1 24000) (gd (in_b ((S.1 120) x1.toNatClampNeg) 640) (f_X11_sweep_L14 fu fu x1 0 ((S.1 107) (((S.1 120) x1.toNatClampNeg).toNatClampNeg)) S))
set_option maxHeartbeats 4000000 in
set_option maxRecDepth 100000 in
theorem f_X11_sweep_e (l : Launch) (g : im_G) (ad : Nat → Nat) (fu : Nat) (x1 : Int32) (S : im_S) (r : Int32) (S' : im_S) (hm : f_X11_sweep fu x1 S = some (r, S')) : im_E l g ad 4 yX11_sweep cX11_sweep 5 (some Jvm.ClassFile.FieldType.boolean) [.ref (ad 75), .int x1] S (some (.int r)) S' := by
  unfold f_X11_sweep at hm
  refine is_met (own := RX11) (by decide +kernel) rfl (Nat.le_of_ble_eq_true rfl) (fun p e s m below meth c X => ?_)
  refine iv_iconst (pc := 0) X dX11_sweep_0 ic_0 ?_
  refine iv_istore_n (pc := 1) X dX11_sweep_1 (by decide) (lv' := [(2, .int 0), (0, .ref (ad 75)), (1, .int x1)]) rfl ?_
  refine iv_aload_n (pc := 2) X dX11_sweep_2 rfl ?_
  refine gF_X11_104_75 (pc := 3) X dX11_sweep_3 ?_
  refine iv_aload_n (pc := 6) X dX11_sweep_6 rfl ?_
  refine gF_X11_143_75 (pc := 7) X dX11_sweep_7 ?_
  refine iv_iload_n (pc := 10) X dX11_sweep_10 rfl ?_
  obtain ⟨hg, hm⟩ := gd_some hm
  refine aL_120 (pc := 11) X dX11_sweep_11 hg (x := (S.1 120) x1.toNatClampNeg) rfl ?_
  obtain ⟨hg, hm⟩ := gd_some hm
  refine aL_107 (pc := 12) X dX11_sweep_12 hg (x := (S.1 107) (((S.1 120) x1.toNatClampNeg).toNatClampNeg)) rfl ?_
  refine iv_istore_n (pc := 13) X dX11_sweep_13 (by decide) (lv' := [(3, .int ((S.1 107) (((S.1 120) x1.toNatClampNeg).toNatClampNeg))), (2, .int 0), (0, .ref (ad 75)), (1, .int x1)]) rfl ?_
  refine iv_sub [2, 3, 1, 0] (lv2 := [(0, .ref (ad 75)), (1, .int x1), (2, .int 0), (3, .int ((S.1 107) (((S.1 120) x1.toNatClampNeg).toNatClampNeg)))]) rfl ?_
  exact f_X11_sweep_L14_w (fu := fu) l g ad X fu x1 0 ((S.1 107) (((S.1 120) x1.toNatClampNeg).toNatClampNeg)) S _ _ hm
def f_X11_happen_L20 (fu : Nat) (K2 : Int32 → im_S → Option (Unit × im_S)) : Nat → Int32 → Int32 → im_S → Option (Unit × im_S)
  | 0, _, _, _ => none
  | nf + 1, z1, z2, S => if (S.1 75 57 : Int32) ≤ z2 then (K2 z1 S) else (if (1000 : Int32) < (S.1 75 72) then (K2 z1 S) else (gd (in_b z2 24000) (if ((S.1 123) z2.toNatClampNeg : Int32) ≤ 0 then (f_X11_happen_L20 fu K2 nf z1 (z2 + 1) S) else ((f_X11_sweep fu z2 S).bind (fun qS4 => f_X11_happen_L20 fu K2 nf (z1 ||| qS4.1) (z2 + 1) qS4.2)))))
set_option maxHeartbeats 4000000 in
set_option maxRecDepth 100000 in
theorem f_X11_happen_L20_w {fu : Nat} (l : Launch) (g : im_G) (ad : Nat → Nat) {p : Program} {e : Env} {s : State} {m : MethodId} {below : List Frame} {meth : Method} {c : Code} {args : Array Value} (X : im_X p l s m args meth c g cX11_happen 3 RX11 none) (K2 : Int32 → im_S → Option (Unit × im_S)) (hK2 : ∀ (z1 : Int32) (S : im_S) (r : Unit) (S' : im_S), K2 z1 S = some (r, S') → im_V p l e (im_R 5 0 0) s m args below meth c g 3 (im_Z below g ad args s none S') ad im_N (im_cn g ad S) 0 0 2 [(0, .ref (ad 75)), (1, .int z1)] []) : ∀ (nf : Nat) (z1 : Int32) (z2 : Int32) (S : im_S) (r : Unit) (S' : im_S), f_X11_happen_L20 fu K2 nf z1 z2 S = some (r, S') → im_V p l e (im_R 5 0 0) s m args below meth c g 3 (im_Z below g ad args s none S') ad im_N (im_cn g ad S) 0 0 20 [(0, .ref (ad 75)), (1, .int z1), (2, .int z2)] [] := by
  intro nf
  induction nf with
  | zero =>
    intro z1 z2 S r S' hm
    cases hm
  | succ nf ih =>
    intro z1 z2 S r S' hm
    unfold f_X11_happen_L20 at hm
    refine iv_iload_n (pc := 20) X dX11_happen_20 rfl ?_
    refine iv_aload_n (pc := 21) X dX11_happen_21 rfl ?_
    refine gF_X11_410_75 (pc := 22) X dX11_happen_22 (x := S.1 75 57) rfl ?_
    refine iv_icmp_ge (pc := 25) X dX11_happen_25 (tgt := 61) rfl (fun hb1 => ?_) (fun hb1 => ?_)
    · rw [if_pos hb1] at hm
      refine iv_goto (pc := 61) X dX11_happen_61 (tgt := 2) rfl ?_
      refine iv_sub [0, 1] (lv2 := [(0, .ref (ad 75)), (1, .int z1)]) rfl ?_
      exact hK2 z1 S _ _ hm
    · rw [if_neg hb1] at hm
      refine iv_aload_n (pc := 28) X dX11_happen_28 rfl ?_
      refine gF_X11_404_75 (pc := 29) X dX11_happen_29 (x := S.1 75 72) rfl ?_
      refine iv_sipush (pc := 32) X dX11_happen_32 sc_1000 ?_
      refine iv_icmp_gt (pc := 35) X dX11_happen_35 (tgt := 61) rfl (fun hb2 => ?_) (fun hb2 => ?_)
      · rw [if_pos hb2] at hm
        refine iv_goto (pc := 61) X dX11_happen_61 (tgt := 2) rfl ?_
        refine iv_sub [0, 1] (lv2 := [(0, .ref (ad 75)), (1, .int z1)]) rfl ?_
        exact hK2 z1 S _ _ hm
      · rw [if_neg hb2] at hm
        refine iv_aload_n (pc := 38) X dX11_happen_38 rfl ?_
        refine gF_X11_152_75 (pc := 39) X dX11_happen_39 ?_
        refine iv_iload_n (pc := 42) X dX11_happen_42 rfl ?_
        obtain ⟨hg, hm⟩ := gd_some hm
        refine aL_123 (pc := 43) X dX11_happen_43 hg (x := (S.1 123) z2.toNatClampNeg) rfl ?_
        refine iv_if_le (pc := 44) X dX11_happen_44 (tgt := 55) rfl (fun hb3 => ?_) (fun hb3 => ?_)
        · rw [if_pos hb3] at hm
          refine iv_iinc (pc := 55) X dX11_happen_55 rfl (by decide) (v := z2 + 1) rfl (lv' := [(2, .int (z2 + 1)), (0, .ref (ad 75)), (1, .int z1)]) rfl ?_
          refine iv_goto (pc := 58) X dX11_happen_58 (tgt := 20) rfl ?_
          refine iv_sub [1, 2, 0] (lv2 := [(0, .ref (ad 75)), (1, .int z1), (2, .int (z2 + 1))]) rfl ?_
          exact ih z1 (z2 + 1) S _ _ hm
        · rw [if_neg hb3] at hm
          refine iv_iload_n (pc := 47) X dX11_happen_47 rfl ?_
          refine iv_aload_n (pc := 48) X dX11_happen_48 rfl ?_
          refine iv_iload_n (pc := 49) X dX11_happen_49 rfl ?_
          obtain ⟨⟨r5, S4⟩, hc6, hm⟩ := bd_some hm
          refine cV_X11_499_75 (pc := 50) X [.int z2] [.int z1] 1 rfl (f_X11_sweep_e l g ad fu z2 S _ _ hc6) (by decide) (by decide) (Nat.le_of_ble_eq_true rfl) rfl dX11_happen_50 ?_
          refine iv_ior (pc := 53) X dX11_happen_53 ?_
          refine iv_istore_n (pc := 54) X dX11_happen_54 (by decide) (lv' := [(1, .int (z1 ||| r5)), (0, .ref (ad 75)), (2, .int z2)]) rfl ?_
          refine iv_iinc (pc := 55) X dX11_happen_55 rfl (by decide) (v := z2 + 1) rfl (lv' := [(2, .int (z2 + 1)), (1, .int (z1 ||| r5)), (0, .ref (ad 75))]) rfl ?_
          refine iv_goto (pc := 58) X dX11_happen_58 (tgt := 20) rfl ?_
          refine iv_sub [2, 1, 0] (lv2 := [(0, .ref (ad 75)), (1, .int (z1 ||| r5)), (2, .int (z2 + 1))]) rfl ?_
          exact ih (z1 ||| r5) (z2 + 1) S4 _ _ hm
def f_X11_happen_L2 (fu : Nat) : Nat → Int32 → im_S → Option (Unit × im_S)
  | 0, _, _ => none
  | nf + 1, z1, S => if (z1 : Int32) = 0 then (some ((), S)) else (if (1000 : Int32) < (S.1 75 72) then (some ((), S)) else (f_X11_happen_L20 fu (f_X11_happen_L2 fu nf) fu 0 0 S))
set_option maxHeartbeats 4000000 in
set_option maxRecDepth 100000 in
theorem f_X11_happen_L2_w {fu : Nat} (l : Launch) (g : im_G) (ad : Nat → Nat) {p : Program} {e : Env} {s : State} {m : MethodId} {below : List Frame} {meth : Method} {c : Code} {args : Array Value} (X : im_X p l s m args meth c g cX11_happen 3 RX11 none) : ∀ (nf : Nat) (z1 : Int32) (S : im_S) (r : Unit) (S' : im_S), f_X11_happen_L2 fu nf z1 S = some (r, S') → im_V p l e (im_R 5 0 0) s m args below meth c g 3 (im_Z below g ad args s none S') ad im_N (im_cn g ad S) 0 0 2 [(0, .ref (ad 75)), (1, .int z1)] [] := by
  intro nf
  induction nf with
  | zero =>
    intro z1 S r S' hm
    cases hm
  | succ nf ih =>
    intro z1 S r S' hm
    unfold f_X11_happen_L2 at hm
    refine iv_iload_n (pc := 2) X dX11_happen_2 rfl ?_
    refine iv_if_eq (pc := 3) X dX11_happen_3 (tgt := 64) rfl (fun hb1 => ?_) (fun hb1 => ?_)
    · rw [if_pos hb1] at hm
      cases hm
      exact is_vret (pc := 64) X dX11_happen_64
    · rw [if_neg hb1] at hm
      refine iv_aload_n (pc := 6) X dX11_happen_6 rfl ?_
      refine gF_X11_404_75 (pc := 7) X dX11_happen_7 (x := S.1 75 72) rfl ?_
      refine iv_sipush (pc := 10) X dX11_happen_10 sc_1000 ?_
      refine iv_icmp_gt (pc := 13) X dX11_happen_13 (tgt := 64) rfl (fun hb2 => ?_) (fun hb2 => ?_)
      · rw [if_pos hb2] at hm
        cases hm
        exact is_vret (pc := 64) X dX11_happen_64
      · rw [if_neg hb2] at hm
        refine iv_iconst (pc := 16) X dX11_happen_16 ic_0 ?_
        refine iv_istore_n (pc := 17) X dX11_happen_17 (by decide) (lv' := [(1, .int 0), (0, .ref (ad 75))]) rfl ?_
        refine iv_iconst (pc := 18) X dX11_happen_18 ic_0 ?_
        refine iv_istore_n (pc := 19) X dX11_happen_19 (by decide) (lv' := [(2, .int 0), (1, .int 0), (0, .ref (ad 75))]) rfl ?_
        refine iv_sub [2, 1, 0] (lv2 := [(0, .ref (ad 75)), (1, .int 0), (2, .int 0)]) rfl ?_
        exact f_X11_happen_L20_w (fu := fu) l g ad X (f_X11_happen_L2 fu nf) ih fu 0 0 S _ _ hm
def f_X11_happen (fu : Nat) (S : im_S) : Option (Unit × im_S) := f_X11_happen_L2 fu fu 1 S
set_option maxHeartbeats 4000000 in
set_option maxRecDepth 100000 in
theorem f_X11_happen_e (l : Launch) (g : im_G) (ad : Nat → Nat) (fu : Nat) (S : im_S) (r : Unit) (S' : im_S) (hm : f_X11_happen fu  S = some (r, S')) : im_E l g ad 5 yX11_happen cX11_happen 3 none [.ref (ad 75)] S none S' := by
  unfold f_X11_happen at hm
  refine is_met (own := RX11) (by decide +kernel) rfl (Nat.le_of_ble_eq_true rfl) (fun p e s m below meth c X => ?_)
  refine iv_iconst (pc := 0) X dX11_happen_0 ic_1 ?_
  refine iv_istore_n (pc := 1) X dX11_happen_1 (by decide) (lv' := [(1, .int 1), (0, .ref (ad 75))]) rfl ?_
  refine iv_sub [1, 0] (lv2 := [(0, .ref (ad 75)), (1, .int 1)]) rfl ?_
  exact f_X11_happen_L2_w (fu := fu) l g ad X fu 1 S _ _ hm
def f_X11_start_L33 (fu : Nat) : Nat → Int32 → Int64 → Int64 → Int64 → Int64 → Int32 → Int32 → im_S → Option (Int32 × im_S)
  | 0, _, _, _, _, _, _, _, _ => none
  | nf + 1, z1, z2, z4, z6, z8, z10, z11, S => gd (in_b z10 16) (if ((S.1 99) z10.toNatClampNeg : Int32) ≤ z11 then (gd (in_b 0 4) (gd (in_b 1 4) (gd (in_b 2 4) (gd (in_b 3 4) (gd (in_b z1 16) ((f_X11_enter fu ((S.1 96) z1.toNatClampNeg) (-1) (-1) (-1) (uI (uI (uI (uI (uI (uI (uI (uJ (uJ (uJ (uJ S 131 ((0 : Int32).toNatClampNeg) z2) 131 ((1 : Int32).toNatClampNeg) z4) 131 ((2 : Int32).toNatClampNeg) z6) 131 ((3 : Int32).toNatClampNeg) z8) 75 57 0) 75 64 0) 75 68 0) 75 72 0) 75 74 0) 75 73 1) 75 76 ((S.1 75 76) + 1))).bind (fun qS2 => (f_X11_happen fu qS2.2).bind (fun qS5 => some (1, qS5.2))))))))) else (gd (in_b ((4 * z10) + z11) 64) ((f_X11_typeOf fu ((S.2.1 100) (((4 * z10) + z11).toNatClampNeg)) S).bind (fun qS8 => if (qS8.1 : Int32) = 1 then (f_X11_start_L33 fu nf z1 z2 z4 z6 z8 z10 (z11 + 1) qS8.2) else (some (0, qS8.2))))))
set_option maxHeartbeats 4000000 in
set_option maxRecDepth 100000 in
theorem f_X11_start_L33_w {fu : Nat} (l : Launch) (g : im_G) (ad : Nat → Nat) {p : Program} {e : Env} {s : State} {m : MethodId} {below : List Frame} {meth : Method} {c : Code} {args : Array Value} (X : im_X p l s m args meth c g cX11_start 12 RX11 (some Jvm.ClassFile.FieldType.boolean)) : ∀ (nf : Nat) (z1 : Int32) (z2 : Int64) (z4 : Int64) (z6 : Int64) (z8 : Int64) (z10 : Int32) (z11 : Int32) (S : im_S) (r : Int32) (S' : im_S), f_X11_start_L33 fu nf z1 z2 z4 z6 z8 z10 z11 S = some (r, S') → im_V p l e (im_R 6 0 0) s m args below meth c g 12 (im_Z below g ad args s (some (.int r)) S') ad im_N (im_cn g ad S) 0 0 33 [(0, .ref (ad 75)), (1, .int z1), (2, .long z2), (4, .long z4), (6, .long z6), (8, .long z8), (10, .int z10), (11, .int z11)] [] := by
  intro nf
  induction nf with
  | zero =>
    intro z1 z2 z4 z6 z8 z10 z11 S r S' hm
    cases hm
  | succ nf ih =>
    intro z1 z2 z4 z6 z8 z10 z11 S r S' hm
    unfold f_X11_start_L33 at hm
    refine iv_iload (pc := 33) X dX11_start_33 rfl ?_
    refine iv_aload_n (pc := 35) X dX11_start_35 rfl ?_
    refine gF_X11_80_75 (pc := 36) X dX11_start_36 ?_
    refine iv_iload (pc := 39) X dX11_start_39 rfl ?_
    obtain ⟨hg, hm⟩ := gd_some hm
    refine aL_99 (pc := 41) X dX11_start_41 hg (x := (S.1 99) z10.toNatClampNeg) rfl ?_
    refine iv_icmp_ge (pc := 42) X dX11_start_42 (tgt := 72) rfl (fun hb1 => ?_) (fun hb1 => ?_)
    · rw [if_pos hb1] at hm
      refine iv_aload_n (pc := 72) X dX11_start_72 rfl ?_
      refine gF_X11_177_75 (pc := 73) X dX11_start_73 ?_
      refine iv_iconst (pc := 76) X dX11_start_76 ic_0 ?_
      refine iv_lload_n (pc := 77) X dX11_start_77 rfl ?_
      obtain ⟨hg, hm⟩ := gd_some hm
      refine aS_131 (pc := 78) X dX11_start_78 hg ?_
      refine iv_aload_n (pc := 79) X dX11_start_79 rfl ?_
      refine gF_X11_177_75 (pc := 80) X dX11_start_80 ?_
      refine iv_iconst (pc := 83) X dX11_start_83 ic_1 ?_
      refine iv_lload (pc := 84) X dX11_start_84 rfl ?_
      obtain ⟨hg, hm⟩ := gd_some hm
      refine aS_131 (pc := 86) X dX11_start_86 hg ?_
      refine iv_aload_n (pc := 87) X dX11_start_87 rfl ?_
      refine gF_X11_177_75 (pc := 88) X dX11_start_88 ?_
      refine iv_iconst (pc := 91) X dX11_start_91 ic_2 ?_
      refine iv_lload (pc := 92) X dX11_start_92 rfl ?_
      obtain ⟨hg, hm⟩ := gd_some hm
      refine aS_131 (pc := 94) X dX11_start_94 hg ?_
      refine iv_aload_n (pc := 95) X dX11_start_95 rfl ?_
      refine gF_X11_177_75 (pc := 96) X dX11_start_96 ?_
      refine iv_iconst (pc := 99) X dX11_start_99 ic_3 ?_
      refine iv_lload (pc := 100) X dX11_start_100 rfl ?_
      obtain ⟨hg, hm⟩ := gd_some hm
      refine aS_131 (pc := 102) X dX11_start_102 hg ?_
      refine iv_aload_n (pc := 103) X dX11_start_103 rfl ?_
      refine iv_iconst (pc := 104) X dX11_start_104 ic_0 ?_
      refine pF_X11_410_75 (pc := 105) X dX11_start_105 ?_
      refine iv_aload_n (pc := 108) X dX11_start_108 rfl ?_
      refine iv_iconst (pc := 109) X dX11_start_109 ic_0 ?_
      refine pF_X11_413_75 (pc := 110) X dX11_start_110 ?_
      refine iv_aload_n (pc := 113) X dX11_start_113 rfl ?_
      refine iv_iconst (pc := 114) X dX11_start_114 ic_0 ?_
      refine pF_X11_493_75 (pc := 115) X dX11_start_115 ?_
      refine iv_aload_n (pc := 118) X dX11_start_118 rfl ?_
      refine iv_iconst (pc := 119) X dX11_start_119 ic_0 ?_
      refine pF_X11_404_75 (pc := 120) X dX11_start_120 ?_
      refine iv_aload_n (pc := 123) X dX11_start_123 rfl ?_
      refine iv_iconst (pc := 124) X dX11_start_124 ic_0 ?_
      refine pF_X11_407_75 (pc := 125) X dX11_start_125 ?_
      refine iv_aload_n (pc := 128) X dX11_start_128 rfl ?_
      refine iv_iconst (pc := 129) X dX11_start_129 ic_1 ?_
      refine pF_X11_400_75 (pc := 130) X dX11_start_130 rfl ?_
      refine iv_aload_n (pc := 133) X dX11_start_133 rfl ?_
      refine iv_dup (pc := 134) X dX11_start_134 rfl ?_
      refine gF_X11_502_75 (pc := 135) X dX11_start_135 (x := S.1 75 76) rfl ?_
      refine iv_iconst (pc := 138) X dX11_start_138 ic_1 ?_
      refine iv_iadd (pc := 139) X dX11_start_139 ?_
      refine pF_X11_502_75 (pc := 140) X dX11_start_140 ?_
      refine iv_aload_n (pc := 143) X dX11_start_143 rfl ?_
      refine iv_aload_n (pc := 144) X dX11_start_144 rfl ?_
      refine gF_X11_71_75 (pc := 145) X dX11_start_145 ?_
      refine iv_iload_n (pc := 148) X dX11_start_148 rfl ?_
      obtain ⟨hg, hm⟩ := gd_some hm
      refine aL_96 (pc := 149) X dX11_start_149 hg (x := (S.1 96) z1.toNatClampNeg) rfl ?_
      refine iv_iconst (pc := 150) X dX11_start_150 ic_m1 ?_
      refine iv_iconst (pc := 151) X dX11_start_151 ic_m1 ?_
      refine iv_iconst (pc := 152) X dX11_start_152 ic_m1 ?_
      obtain ⟨⟨r3, S2⟩, hc4, hm⟩ := bd_some hm
      refine cV_X11_474_75 (pc := 153) X [.int ((S.1 96) z1.toNatClampNeg), .int (-1), .int (-1), .int (-1)] [] 4 rfl (f_X11_enter_e l g ad fu ((S.1 96) z1.toNatClampNeg) (-1) (-1) (-1) (uI (uI (uI (uI (uI (uI (uI (uJ (uJ (uJ (uJ S 131 ((0 : Int32).toNatClampNeg) z2) 131 ((1 : Int32).toNatClampNeg) z4) 131 ((2 : Int32).toNatClampNeg) z6) 131 ((3 : Int32).toNatClampNeg) z8) 75 57 0) 75 64 0) 75 68 0) 75 72 0) 75 74 0) 75 73 1) 75 76 ((S.1 75 76) + 1)) _ _ hc4) (by decide) (by decide) (Nat.le_of_ble_eq_true rfl) rfl dX11_start_153 ?_
      refine iv_pop (pc := 156) X dX11_start_156 rfl ?_
      refine iv_aload_n (pc := 157) X dX11_start_157 rfl ?_
      obtain ⟨⟨r6, S5⟩, hc7, hm⟩ := bd_some hm
      refine cV_X11_505_75 (pc := 158) X [] [] 0 rfl (f_X11_happen_e l g ad fu  S2 _ _ hc7) (by decide) (by decide) (Nat.le_of_ble_eq_true rfl) rfl dX11_start_158 ?_
      refine iv_iconst (pc := 161) X dX11_start_161 ic_1 ?_
      cases hm
      exact is_zret (pc := 162) X dX11_start_162 rfl
    · rw [if_neg hb1] at hm
      refine iv_aload_n (pc := 45) X dX11_start_45 rfl ?_
      refine gF_X11_83_75 (pc := 46) X dX11_start_46 ?_
      refine iv_iconst (pc := 49) X dX11_start_49 ic_4 ?_
      refine iv_iload (pc := 50) X dX11_start_50 rfl ?_
      refine iv_imul (pc := 52) X dX11_start_52 ?_
      refine iv_iload (pc := 53) X dX11_start_53 rfl ?_
      refine iv_iadd (pc := 55) X dX11_start_55 ?_
      obtain ⟨hg, hm⟩ := gd_some hm
      refine aL_100 (pc := 56) X dX11_start_56 hg (x := (S.2.1 100) (((4 * z10) + z11).toNatClampNeg)) rfl ?_
      obtain ⟨⟨r9, S8⟩, hc10, hm⟩ := bd_some hm
      refine cS_X11_362 (pc := 57) X [.long ((S.2.1 100) (((4 * z10) + z11).toNatClampNeg))] [] 1 rfl (f_X11_typeOf_e l g ad fu ((S.2.1 100) (((4 * z10) + z11).toNatClampNeg)) S _ _ hc10) (by decide) (by decide) (Nat.le_of_ble_eq_true rfl) rfl dX11_start_57 ?_
      refine iv_iconst (pc := 60) X dX11_start_60 ic_1 ?_
      refine iv_icmp_eq (pc := 61) X dX11_start_61 (tgt := 66) rfl (fun hb11 => ?_) (fun hb11 => ?_)
      · rw [if_pos hb11] at hm
        refine iv_iinc (pc := 66) X dX11_start_66 rfl (by decide) (v := z11 + 1) rfl (lv' := [(11, .int (z11 + 1)), (0, .ref (ad 75)), (1, .int z1), (2, .long z2), (4, .long z4), (6, .long z6), (8, .long z8), (10, .int z10)]) rfl ?_
        refine iv_goto (pc := 69) X dX11_start_69 (tgt := 33) rfl ?_
        refine iv_sub [1, 2, 3, 4, 5, 6, 7, 0] (lv2 := [(0, .ref (ad 75)), (1, .int z1), (2, .long z2), (4, .long z4), (6, .long z6), (8, .long z8), (10, .int z10), (11, .int (z11 + 1))]) rfl ?_
        exact ih z1 z2 z4 z6 z8 z10 (z11 + 1) S8 _ _ hm
      · rw [if_neg hb11] at hm
        refine iv_iconst (pc := 64) X dX11_start_64 ic_0 ?_
        cases hm
        exact is_zret (pc := 65) X dX11_start_65 rfl
def f_X11_start (fu : Nat) (x1 : Int32) (x2 : Int64) (x4 : Int64) (x6 : Int64) (x8 : Int64) (S : im_S) : Option (Int32 × im_S) := if (x1 : Int32) < 0 then (some (0, (uI S 75 0 0))) else (if (x1 : Int32) < (S.1 75 35) then (f_X11_start_L33 fu fu x1 x2 x4 x6 x8 ((8 * (S.1 75 37)) + x1) 0 (uI S 75 0 0)) else (some (0, (uI S 75 0 0))))
set_option maxHeartbeats 4000000 in
set_option maxRecDepth 100000 in
theorem f_X11_start_e (l : Launch) (g : im_G) (ad : Nat → Nat) (fu : Nat) (x1 : Int32) (x2 : Int64) (x4 : Int64) (x6 : Int64) (x8 : Int64) (S : im_S) (r : Int32) (S' : im_S) (hm : f_X11_start fu x1 x2 x4 x6 x8 S = some (r, S')) : im_E l g ad 6 yX11_start cX11_start 12 (some Jvm.ClassFile.FieldType.boolean) [.ref (ad 75), .int x1, .long x2, .long x4, .long x6, .long x8] S (some (.int r)) S' := by
  unfold f_X11_start at hm
  refine is_met (own := RX11) (by decide +kernel) rfl (Nat.le_of_ble_eq_true rfl) (fun p e s m below meth c X => ?_)
  refine iv_aload_n (pc := 0) X dX11_start_0 rfl ?_
  refine iv_iconst (pc := 1) X dX11_start_1 ic_0 ?_
  refine pF_X11_186_75 (pc := 2) X dX11_start_2 ?_
  refine iv_iload_n (pc := 5) X dX11_start_5 rfl ?_
  refine iv_if_lt (pc := 6) X dX11_start_6 (tgt := 17) rfl (fun hb1 => ?_) (fun hb1 => ?_)
  · rw [if_pos hb1] at hm
    refine iv_iconst (pc := 17) X dX11_start_17 ic_0 ?_
    cases hm
    exact is_zret (pc := 18) X dX11_start_18 rfl
  · rw [if_neg hb1] at hm
    refine iv_iload_n (pc := 9) X dX11_start_9 rfl ?_
    refine iv_aload_n (pc := 10) X dX11_start_10 rfl ?_
    refine gF_X11_397_75 (pc := 11) X dX11_start_11 (x := S.1 75 35) rfl ?_
    refine iv_icmp_lt (pc := 14) X dX11_start_14 (tgt := 19) rfl (fun hb2 => ?_) (fun hb2 => ?_)
    · rw [if_pos hb2] at hm
      refine iv_bipush (pc := 19) X dX11_start_19 bc_8 ?_
      refine iv_aload_n (pc := 21) X dX11_start_21 rfl ?_
      refine gF_X11_317_75 (pc := 22) X dX11_start_22 (x := S.1 75 37) rfl ?_
      refine iv_imul (pc := 25) X dX11_start_25 ?_
      refine iv_iload_n (pc := 26) X dX11_start_26 rfl ?_
      refine iv_iadd (pc := 27) X dX11_start_27 ?_
      refine iv_istore (pc := 28) X dX11_start_28 (by decide) (lv' := [(10, .int ((8 * (S.1 75 37)) + x1)), (0, .ref (ad 75)), (1, .int x1), (2, .long x2), (4, .long x4), (6, .long x6), (8, .long x8)]) rfl ?_
      refine iv_iconst (pc := 30) X dX11_start_30 ic_0 ?_
      refine iv_istore (pc := 31) X dX11_start_31 (by decide) (lv' := [(11, .int 0), (10, .int ((8 * (S.1 75 37)) + x1)), (0, .ref (ad 75)), (1, .int x1), (2, .long x2), (4, .long x4), (6, .long x6), (8, .long x8)]) rfl ?_
      refine iv_sub [2, 3, 4, 5, 6, 7, 1, 0] (lv2 := [(0, .ref (ad 75)), (1, .int x1), (2, .long x2), (4, .long x4), (6, .long x6), (8, .long x8), (10, .int ((8 * (S.1 75 37)) + x1)), (11, .int 0)]) rfl ?_
      exact f_X11_start_L33_w (fu := fu) l g ad X fu x1 x2 x4 x6 x8 ((8 * (S.1 75 37)) + x1) 0 (uI S 75 0 0) _ _ hm
    · rw [if_neg hb2] at hm
      refine iv_iconst (pc := 17) X dX11_start_17 ic_0 ?_
      cases hm
      exact is_zret (pc := 18) X dX11_start_18 rfl
def f_X11_fire (x1 : Int32) (x2 : Int64) (S : im_S) : Option (Int32 × im_S) := (f_X11_stateOf S).bind (fun qS1 => if (qS1.1 : Int32) = 1 then (if (x1 : Int32) < 1 then ((f_X11_raise 2 qS1.2).bind (fun qS6 => some (qS6.1, qS6.2))) else (if (x1 : Int32) ≤ 2000 then (if (qS1.2.1 75 75 : Int32) ≠ 5000 then ((f_X11_limit (uI qS1.2 75 0 0)).bind (fun qS11 => if (x1 : Int32) ≤ (qS11.1 - (qS11.2.1 75 74)) then (if (x1 : Int32) ≤ (5000 - (qS11.2.1 75 75)) then (some ((qS11.2.1 75 74) + x1, (uI (uI qS11.2 75 74 ((qS11.2.1 75 74) + x1)) 75 75 ((qS11.2.1 75 75) + x1)))) else (some ((qS11.2.1 75 74) + (5000 - (qS11.2.1 75 75)), (uI (uI qS11.2 75 74 ((qS11.2.1 75 74) + (5000 - (qS11.2.1 75 75)))) 75 75 ((qS11.2.1 75 75) + (5000 - (qS11.2.1 75 75))))))) else ((f_X11_limit qS11.2).bind (fun qS16 => if (qS16.1 - (qS16.2.1 75 74) : Int32) ≤ (5000 - (qS16.2.1 75 75)) then (some ((qS16.2.1 75 74) + (qS16.1 - (qS16.2.1 75 74)), (uI (uI qS16.2 75 74 ((qS16.2.1 75 74) + (qS16.1 - (qS16.2.1 75 74)))) 75 75 ((qS16.2.1 75 75) + (qS16.1 - (qS16.2.1 75 74)))))) else (some ((qS16.2.1 75 74) + (5000 - (qS16.2.1 75 75)), (uI (uI qS16.2 75 74 ((qS16.2.1 75 74) + (5000 - (qS16.2.1 75 75)))) 75 75 ((qS16.2.1 75 75) + (5000 - (qS16.2.1 75 75)))))))))) else ((f_X11_raise 3 qS1.2).bind (fun qS20 => some (qS20.1, qS20.2)))) else ((f_X11_raise 2 qS1.2).bind (fun qS23 => some (qS23.1, qS23.2))))) else ((f_X11_raise 1 qS1.2).bind (fun qS26 => some (qS26.1, qS26.2))))
set_option maxHeartbeats 4000000 in
set_option maxRecDepth 100000 in
theorem f_X11_fire_e (l : Launch) (g : im_G) (ad : Nat → Nat) (x1 : Int32) (x2 : Int64) (S : im_S) (r : Int32) (S' : im_S) (hm : f_X11_fire x1 x2 S = some (r, S')) : im_E l g ad 3 yX11_fire cX11_fire 5 (some Jvm.ClassFile.FieldType.int) [.ref (ad 75), .int x1, .long x2] S (some (.int r)) S' := by
  unfold f_X11_fire at hm
  refine is_met (own := RX11) (by decide +kernel) rfl (Nat.le_of_ble_eq_true rfl) (fun p e s m below meth c X => ?_)
  refine iv_aload_n (pc := 0) X dX11_fire_0 rfl ?_
  obtain ⟨⟨r2, S1⟩, hc3, hm⟩ := bd_some hm
  refine cV_X11_508_75 (pc := 1) X [] [] 0 rfl (f_X11_stateOf_e l g ad  S _ _ hc3) (by decide) (by decide) (Nat.le_of_ble_eq_true rfl) rfl dX11_fire_1 ?_
  refine iv_iconst (pc := 4) X dX11_fire_4 ic_1 ?_
  refine iv_icmp_eq (pc := 5) X dX11_fire_5 (tgt := 14) rfl (fun hb4 => ?_) (fun hb4 => ?_)
  · rw [if_pos hb4] at hm
    refine iv_iload_n (pc := 14) X dX11_fire_14 rfl ?_
    refine iv_iconst (pc := 15) X dX11_fire_15 ic_1 ?_
    refine iv_icmp_lt (pc := 16) X dX11_fire_16 (tgt := 26) rfl (fun hb5 => ?_) (fun hb5 => ?_)
    · rw [if_pos hb5] at hm
      refine iv_aload_n (pc := 26) X dX11_fire_26 rfl ?_
      refine iv_iconst (pc := 27) X dX11_fire_27 ic_2 ?_
      obtain ⟨⟨r7, S6⟩, hc8, hm⟩ := bd_some hm
      refine cV_X11_394_75 (pc := 28) X [.int 2] [] 1 rfl (f_X11_raise_e l g ad 2 S1 _ _ hc8) (by decide) (by decide) (Nat.le_of_ble_eq_true rfl) rfl dX11_fire_28 ?_
      cases hm
      exact is_iret (pc := 31) X dX11_fire_31
    · rw [if_neg hb5] at hm
      refine iv_iload_n (pc := 19) X dX11_fire_19 rfl ?_
      refine iv_sipush (pc := 20) X dX11_fire_20 sc_2000 ?_
      refine iv_icmp_le (pc := 23) X dX11_fire_23 (tgt := 32) rfl (fun hb9 => ?_) (fun hb9 => ?_)
      · rw [if_pos hb9] at hm
        refine iv_aload_n (pc := 32) X dX11_fire_32 rfl ?_
        refine gF_X11_511_75 (pc := 33) X dX11_fire_33 (x := S1.1 75 75) rfl ?_
        refine iv_sipush (pc := 36) X dX11_fire_36 sc_5000 ?_
        refine iv_icmp_ne (pc := 39) X dX11_fire_39 (tgt := 48) rfl (fun hb10 => ?_) (fun hb10 => ?_)
        · rw [if_pos hb10] at hm
          refine iv_aload_n (pc := 48) X dX11_fire_48 rfl ?_
          refine iv_iconst (pc := 49) X dX11_fire_49 ic_0 ?_
          refine pF_X11_186_75 (pc := 50) X dX11_fire_50 ?_
          refine iv_iload_n (pc := 53) X dX11_fire_53 rfl ?_
          refine iv_istore (pc := 54) X dX11_fire_54 (by decide) (lv' := [(4, .int x1), (0, .ref (ad 75)), (1, .int x1), (2, .long x2)]) rfl ?_
          refine iv_iload (pc := 56) X dX11_fire_56 rfl ?_
          refine iv_aload_n (pc := 58) X dX11_fire_58 rfl ?_
          obtain ⟨⟨r12, S11⟩, hc13, hm⟩ := bd_some hm
          refine cV_X11_514_75 (pc := 59) X [] [.int x1] 0 rfl (f_X11_limit_e l g ad  (uI S1 75 0 0) _ _ hc13) (by decide) (by decide) (Nat.le_of_ble_eq_true rfl) rfl dX11_fire_59 ?_
          refine iv_aload_n (pc := 62) X dX11_fire_62 rfl ?_
          refine gF_X11_407_75 (pc := 63) X dX11_fire_63 (x := S11.1 75 74) rfl ?_
          refine iv_isub (pc := 66) X dX11_fire_66 ?_
          refine iv_icmp_le (pc := 67) X dX11_fire_67 (tgt := 81) rfl (fun hb14 => ?_) (fun hb14 => ?_)
          · rw [if_pos hb14] at hm
            refine iv_iload (pc := 81) X dX11_fire_81 rfl ?_
            refine iv_sipush (pc := 83) X dX11_fire_83 sc_5000 ?_
            refine iv_aload_n (pc := 86) X dX11_fire_86 rfl ?_
            refine gF_X11_511_75 (pc := 87) X dX11_fire_87 (x := S11.1 75 75) rfl ?_
            refine iv_isub (pc := 90) X dX11_fire_90 ?_
            refine iv_icmp_le (pc := 91) X dX11_fire_91 (tgt := 104) rfl (fun hb15 => ?_) (fun hb15 => ?_)
            · rw [if_pos hb15] at hm
              refine iv_aload_n (pc := 104) X dX11_fire_104 rfl ?_
              refine iv_dup (pc := 105) X dX11_fire_105 rfl ?_
              refine gF_X11_407_75 (pc := 106) X dX11_fire_106 (x := S11.1 75 74) rfl ?_
              refine iv_iload (pc := 109) X dX11_fire_109 rfl ?_
              refine iv_iadd (pc := 111) X dX11_fire_111 ?_
              refine pF_X11_407_75 (pc := 112) X dX11_fire_112 ?_
              refine iv_aload_n (pc := 115) X dX11_fire_115 rfl ?_
              refine iv_dup (pc := 116) X dX11_fire_116 rfl ?_
              refine gF_X11_511_75 (pc := 117) X dX11_fire_117 (x := S11.1 75 75) rfl ?_
              refine iv_iload (pc := 120) X dX11_fire_120 rfl ?_
              refine iv_iadd (pc := 122) X dX11_fire_122 ?_
              refine pF_X11_511_75 (pc := 123) X dX11_fire_123 ?_
              refine iv_aload_n (pc := 126) X dX11_fire_126 rfl ?_
              refine gF_X11_407_75 (pc := 127) X dX11_fire_127 (x := (S11.1 75 74) + x1) rfl ?_
              cases hm
              exact is_iret (pc := 130) X dX11_fire_130
            · rw [if_neg hb15] at hm
              refine iv_sipush (pc := 94) X dX11_fire_94 sc_5000 ?_
              refine iv_aload_n (pc := 97) X dX11_fire_97 rfl ?_
              refine gF_X11_511_75 (pc := 98) X dX11_fire_98 (x := S11.1 75 75) rfl ?_
              refine iv_isub (pc := 101) X dX11_fire_101 ?_
              refine iv_istore (pc := 102) X dX11_fire_102 (by decide) (lv' := [(4, .int (5000 - (S11.1 75 75))), (0, .ref (ad 75)), (1, .int x1), (2, .long x2)]) rfl ?_
              refine iv_aload_n (pc := 104) X dX11_fire_104 rfl ?_
              refine iv_dup (pc := 105) X dX11_fire_105 rfl ?_
              refine gF_X11_407_75 (pc := 106) X dX11_fire_106 (x := S11.1 75 74) rfl ?_
              refine iv_iload (pc := 109) X dX11_fire_109 rfl ?_
              refine iv_iadd (pc := 111) X dX11_fire_111 ?_
              refine pF_X11_407_75 (pc := 112) X dX11_fire_112 ?_
              refine iv_aload_n (pc := 115) X dX11_fire_115 rfl ?_
              refine iv_dup (pc := 116) X dX11_fire_116 rfl ?_
              refine gF_X11_511_75 (pc := 117) X dX11_fire_117 (x := S11.1 75 75) rfl ?_
              refine iv_iload (pc := 120) X dX11_fire_120 rfl ?_
              refine iv_iadd (pc := 122) X dX11_fire_122 ?_
              refine pF_X11_511_75 (pc := 123) X dX11_fire_123 ?_
              refine iv_aload_n (pc := 126) X dX11_fire_126 rfl ?_
              refine gF_X11_407_75 (pc := 127) X dX11_fire_127 (x := (S11.1 75 74) + (5000 - (S11.1 75 75))) rfl ?_
              cases hm
              exact is_iret (pc := 130) X dX11_fire_130
          · rw [if_neg hb14] at hm
            refine iv_aload_n (pc := 70) X dX11_fire_70 rfl ?_
            obtain ⟨⟨r17, S16⟩, hc18, hm⟩ := bd_some hm
            refine cV_X11_514_75 (pc := 71) X [] [] 0 rfl (f_X11_limit_e l g ad  S11 _ _ hc18) (by decide) (by decide) (Nat.le_of_ble_eq_true rfl) rfl dX11_fire_71 ?_
            refine iv_aload_n (pc := 74) X dX11_fire_74 rfl ?_
            refine gF_X11_407_75 (pc := 75) X dX11_fire_75 (x := S16.1 75 74) rfl ?_
            refine iv_isub (pc := 78) X dX11_fire_78 ?_
            refine iv_istore (pc := 79) X dX11_fire_79 (by decide) (lv' := [(4, .int (r17 - (S16.1 75 74))), (0, .ref (ad 75)), (1, .int x1), (2, .long x2)]) rfl ?_
            refine iv_iload (pc := 81) X dX11_fire_81 rfl ?_
            refine iv_sipush (pc := 83) X dX11_fire_83 sc_5000 ?_
            refine iv_aload_n (pc := 86) X dX11_fire_86 rfl ?_
            refine gF_X11_511_75 (pc := 87) X dX11_fire_87 (x := S16.1 75 75) rfl ?_
            refine iv_isub (pc := 90) X dX11_fire_90 ?_
            refine iv_icmp_le (pc := 91) X dX11_fire_91 (tgt := 104) rfl (fun hb19 => ?_) (fun hb19 => ?_)
            · rw [if_pos hb19] at hm
              refine iv_aload_n (pc := 104) X dX11_fire_104 rfl ?_
              refine iv_dup (pc := 105) X dX11_fire_105 rfl ?_
              refine gF_X11_407_75 (pc := 106) X dX11_fire_106 (x := S16.1 75 74) rfl ?_
              refine iv_iload (pc := 109) X dX11_fire_109 rfl ?_
              refine iv_iadd (pc := 111) X dX11_fire_111 ?_
              refine pF_X11_407_75 (pc := 112) X dX11_fire_112 ?_
              refine iv_aload_n (pc := 115) X dX11_fire_115 rfl ?_
              refine iv_dup (pc := 116) X dX11_fire_116 rfl ?_
              refine gF_X11_511_75 (pc := 117) X dX11_fire_117 (x := S16.1 75 75) rfl ?_
              refine iv_iload (pc := 120) X dX11_fire_120 rfl ?_
              refine iv_iadd (pc := 122) X dX11_fire_122 ?_
              refine pF_X11_511_75 (pc := 123) X dX11_fire_123 ?_
              refine iv_aload_n (pc := 126) X dX11_fire_126 rfl ?_
              refine gF_X11_407_75 (pc := 127) X dX11_fire_127 (x := (S16.1 75 74) + (r17 - (S16.1 75 74))) rfl ?_
              cases hm
              exact is_iret (pc := 130) X dX11_fire_130
            · rw [if_neg hb19] at hm
              refine iv_sipush (pc := 94) X dX11_fire_94 sc_5000 ?_
              refine iv_aload_n (pc := 97) X dX11_fire_97 rfl ?_
              refine gF_X11_511_75 (pc := 98) X dX11_fire_98 (x := S16.1 75 75) rfl ?_
              refine iv_isub (pc := 101) X dX11_fire_101 ?_
              refine iv_istore (pc := 102) X dX11_fire_102 (by decide) (lv' := [(4, .int (5000 - (S16.1 75 75))), (0, .ref (ad 75)), (1, .int x1), (2, .long x2)]) rfl ?_
              refine iv_aload_n (pc := 104) X dX11_fire_104 rfl ?_
              refine iv_dup (pc := 105) X dX11_fire_105 rfl ?_
              refine gF_X11_407_75 (pc := 106) X dX11_fire_106 (x := S16.1 75 74) rfl ?_
              refine iv_iload (pc := 109) X dX11_fire_109 rfl ?_
              refine iv_iadd (pc := 111) X dX11_fire_111 ?_
              refine pF_X11_407_75 (pc := 112) X dX11_fire_112 ?_
              refine iv_aload_n (pc := 115) X dX11_fire_115 rfl ?_
              refine iv_dup (pc := 116) X dX11_fire_116 rfl ?_
              refine gF_X11_511_75 (pc := 117) X dX11_fire_117 (x := S16.1 75 75) rfl ?_
              refine iv_iload (pc := 120) X dX11_fire_120 rfl ?_
              refine iv_iadd (pc := 122) X dX11_fire_122 ?_
              refine pF_X11_511_75 (pc := 123) X dX11_fire_123 ?_
              refine iv_aload_n (pc := 126) X dX11_fire_126 rfl ?_
              refine gF_X11_407_75 (pc := 127) X dX11_fire_127 (x := (S16.1 75 74) + (5000 - (S16.1 75 75))) rfl ?_
              cases hm
              exact is_iret (pc := 130) X dX11_fire_130
        · rw [if_neg hb10] at hm
          refine iv_aload_n (pc := 42) X dX11_fire_42 rfl ?_
          refine iv_iconst (pc := 43) X dX11_fire_43 ic_3 ?_
          obtain ⟨⟨r21, S20⟩, hc22, hm⟩ := bd_some hm
          refine cV_X11_394_75 (pc := 44) X [.int 3] [] 1 rfl (f_X11_raise_e l g ad 3 S1 _ _ hc22) (by decide) (by decide) (Nat.le_of_ble_eq_true rfl) rfl dX11_fire_44 ?_
          cases hm
          exact is_iret (pc := 47) X dX11_fire_47
      · rw [if_neg hb9] at hm
        refine iv_aload_n (pc := 26) X dX11_fire_26 rfl ?_
        refine iv_iconst (pc := 27) X dX11_fire_27 ic_2 ?_
        obtain ⟨⟨r24, S23⟩, hc25, hm⟩ := bd_some hm
        refine cV_X11_394_75 (pc := 28) X [.int 2] [] 1 rfl (f_X11_raise_e l g ad 2 S1 _ _ hc25) (by decide) (by decide) (Nat.le_of_ble_eq_true rfl) rfl dX11_fire_28 ?_
        cases hm
        exact is_iret (pc := 31) X dX11_fire_31
  · rw [if_neg hb4] at hm
    refine iv_aload_n (pc := 8) X dX11_fire_8 rfl ?_
    refine iv_iconst (pc := 9) X dX11_fire_9 ic_1 ?_
    obtain ⟨⟨r27, S26⟩, hc28, hm⟩ := bd_some hm
    refine cV_X11_394_75 (pc := 10) X [.int 1] [] 1 rfl (f_X11_raise_e l g ad 1 S1 _ _ hc28) (by decide) (by decide) (Nat.le_of_ble_eq_true rfl) rfl dX11_fire_10 ?_
    cases hm
    exact is_iret (pc := 13) X dX11_fire_13
