/-! written by program (wip/whole/walk.py): methods as functions, and their contracts -/
def f_X3_moveTo (x1 : Int32) (x2 : Int32) (S : im_S) : Option (Unit × im_S) := gd (in_b x1 512) (if ((S.1 7) x1.toNatClampNeg : Int32) = 8 then (gd (in_b x1 512) (gd (in_b x2 512) (gd (in_b x1 512) (gd (in_b x2 512) (gd (in_b x2 512) (some ((), (uI (uI (uI S 17 x1.toNatClampNeg x2) 18 x1.toNatClampNeg ((S.1 28) x2.toNatClampNeg)) 28 x2.toNatClampNeg (((S.1 28) x2.toNatClampNeg) + 2))))))))) else (gd (in_b x1 512) (if ((S.1 7) x1.toNatClampNeg : Int32) ≠ 9 then (gd (in_b x1 512) (gd (in_b x2 512) (gd (in_b x1 512) (gd (in_b x2 512) (gd (in_b x2 512) (some ((), (uI (uI (uI S 17 x1.toNatClampNeg x2) 18 x1.toNatClampNeg ((S.1 28) x2.toNatClampNeg)) 28 x2.toNatClampNeg (((S.1 28) x2.toNatClampNeg) + 1))))))))) else (gd (in_b x1 512) (gd (in_b x2 512) (gd (in_b x1 512) (gd (in_b x2 512) (gd (in_b x2 512) (some ((), (uI (uI (uI S 17 x1.toNatClampNeg x2) 18 x1.toNatClampNeg ((S.1 28) x2.toNatClampNeg)) 28 x2.toNatClampNeg (((S.1 28) x2.toNatClampNeg) + 2))))))))))))
set_option maxHeartbeats 4000000 in
set_option maxRecDepth 100000 in
theorem f_X3_moveTo_e (l : Launch) (g : im_G) (ad : Nat → Nat) (x1 : Int32) (x2 : Int32) (S : im_S) (r : Unit) (S' : im_S) (hm : f_X3_moveTo x1 x2 S = some (r, S')) : im_E l g ad 0 yX3_moveTo cX3_moveTo 4 none [.ref (ad 6), .int x1, .int x2] S none S' := by
  unfold f_X3_moveTo at hm
  refine is_met (own := RX3) (by decide +kernel) rfl (Nat.le_of_ble_eq_true rfl) (fun p e s m below meth c X => ?_)
  refine iv_aload_n (pc := 0) X dX3_moveTo_0 rfl ?_
  refine gF_X3_18_6 (pc := 1) X dX3_moveTo_1 ?_
  refine iv_iload_n (pc := 4) X dX3_moveTo_4 rfl ?_
  obtain ⟨hg, hm⟩ := gd_some hm
  refine aL_7 (pc := 5) X dX3_moveTo_5 hg (x := (S.1 7) x1.toNatClampNeg) rfl ?_
  refine iv_bipush (pc := 6) X dX3_moveTo_6 bc_8 ?_
  refine iv_icmp_eq (pc := 8) X dX3_moveTo_8 (tgt := 22) rfl (fun hb1 => ?_) (fun hb1 => ?_)
  · rw [if_pos hb1] at hm
    refine iv_iconst (pc := 22) X dX3_moveTo_22 ic_1 ?_
    refine iv_goto (pc := 23) X dX3_moveTo_23 (tgt := 27) rfl ?_
    refine iv_istore_n (pc := 27) X dX3_moveTo_27 (by decide) (lv' := [(3, .int 1), (0, .ref (ad 6)), (1, .int x1), (2, .int x2)]) rfl ?_
    refine iv_aload_n (pc := 28) X dX3_moveTo_28 rfl ?_
    refine gF_X3_49_6 (pc := 29) X dX3_moveTo_29 ?_
    refine iv_iload_n (pc := 32) X dX3_moveTo_32 rfl ?_
    refine iv_iload_n (pc := 33) X dX3_moveTo_33 rfl ?_
    obtain ⟨hg, hm⟩ := gd_some hm
    refine aS_17 (pc := 34) X dX3_moveTo_34 hg ?_
    refine iv_aload_n (pc := 35) X dX3_moveTo_35 rfl ?_
    refine gF_X3_52_6 (pc := 36) X dX3_moveTo_36 ?_
    refine iv_iload_n (pc := 39) X dX3_moveTo_39 rfl ?_
    refine iv_aload_n (pc := 40) X dX3_moveTo_40 rfl ?_
    refine gF_X3_12_6 (pc := 41) X dX3_moveTo_41 ?_
    refine gF_X3_80_22 (pc := 44) X dX3_moveTo_44 ?_
    refine iv_iload_n (pc := 47) X dX3_moveTo_47 rfl ?_
    obtain ⟨hg, hm⟩ := gd_some hm
    refine aL_28 (pc := 48) X dX3_moveTo_48 hg (x := (S.1 28) x2.toNatClampNeg) rfl ?_
    obtain ⟨hg, hm⟩ := gd_some hm
    refine aS_18 (pc := 49) X dX3_moveTo_49 hg ?_
    refine iv_aload_n (pc := 50) X dX3_moveTo_50 rfl ?_
    refine gF_X3_12_6 (pc := 51) X dX3_moveTo_51 ?_
    refine gF_X3_80_22 (pc := 54) X dX3_moveTo_54 ?_
    refine iv_iload_n (pc := 57) X dX3_moveTo_57 rfl ?_
    refine iv_dup2_11 (pc := 58) X dX3_moveTo_58 rfl rfl ?_
    obtain ⟨hg, hm⟩ := gd_some hm
    refine aL_28 (pc := 59) X dX3_moveTo_59 hg (x := (S.1 28) x2.toNatClampNeg) rfl ?_
    refine iv_iload_n (pc := 60) X dX3_moveTo_60 rfl ?_
    refine iv_if_eq (pc := 61) X dX3_moveTo_61 (tgt := 68) rfl (fun hb => absurd hb (by decide)) (fun _ => ?_)
    refine iv_iconst (pc := 64) X dX3_moveTo_64 ic_2 ?_
    refine iv_goto (pc := 65) X dX3_moveTo_65 (tgt := 69) rfl ?_
    refine iv_iadd (pc := 69) X dX3_moveTo_69 ?_
    obtain ⟨hg, hm⟩ := gd_some hm
    refine aS_28 (pc := 70) X dX3_moveTo_70 hg ?_
    cases hm
    exact is_vret (pc := 71) X dX3_moveTo_71
  · rw [if_neg hb1] at hm
    refine iv_aload_n (pc := 11) X dX3_moveTo_11 rfl ?_
    refine gF_X3_18_6 (pc := 12) X dX3_moveTo_12 ?_
    refine iv_iload_n (pc := 15) X dX3_moveTo_15 rfl ?_
    obtain ⟨hg, hm⟩ := gd_some hm
    refine aL_7 (pc := 16) X dX3_moveTo_16 hg (x := (S.1 7) x1.toNatClampNeg) rfl ?_
    refine iv_bipush (pc := 17) X dX3_moveTo_17 bc_9 ?_
    refine iv_icmp_ne (pc := 19) X dX3_moveTo_19 (tgt := 26) rfl (fun hb3 => ?_) (fun hb3 => ?_)
    · rw [if_pos hb3] at hm
      refine iv_iconst (pc := 26) X dX3_moveTo_26 ic_0 ?_
      refine iv_istore_n (pc := 27) X dX3_moveTo_27 (by decide) (lv' := [(3, .int 0), (0, .ref (ad 6)), (1, .int x1), (2, .int x2)]) rfl ?_
      refine iv_aload_n (pc := 28) X dX3_moveTo_28 rfl ?_
      refine gF_X3_49_6 (pc := 29) X dX3_moveTo_29 ?_
      refine iv_iload_n (pc := 32) X dX3_moveTo_32 rfl ?_
      refine iv_iload_n (pc := 33) X dX3_moveTo_33 rfl ?_
      obtain ⟨hg, hm⟩ := gd_some hm
      refine aS_17 (pc := 34) X dX3_moveTo_34 hg ?_
      refine iv_aload_n (pc := 35) X dX3_moveTo_35 rfl ?_
      refine gF_X3_52_6 (pc := 36) X dX3_moveTo_36 ?_
      refine iv_iload_n (pc := 39) X dX3_moveTo_39 rfl ?_
      refine iv_aload_n (pc := 40) X dX3_moveTo_40 rfl ?_
      refine gF_X3_12_6 (pc := 41) X dX3_moveTo_41 ?_
      refine gF_X3_80_22 (pc := 44) X dX3_moveTo_44 ?_
      refine iv_iload_n (pc := 47) X dX3_moveTo_47 rfl ?_
      obtain ⟨hg, hm⟩ := gd_some hm
      refine aL_28 (pc := 48) X dX3_moveTo_48 hg (x := (S.1 28) x2.toNatClampNeg) rfl ?_
      obtain ⟨hg, hm⟩ := gd_some hm
      refine aS_18 (pc := 49) X dX3_moveTo_49 hg ?_
      refine iv_aload_n (pc := 50) X dX3_moveTo_50 rfl ?_
      refine gF_X3_12_6 (pc := 51) X dX3_moveTo_51 ?_
      refine gF_X3_80_22 (pc := 54) X dX3_moveTo_54 ?_
      refine iv_iload_n (pc := 57) X dX3_moveTo_57 rfl ?_
      refine iv_dup2_11 (pc := 58) X dX3_moveTo_58 rfl rfl ?_
      obtain ⟨hg, hm⟩ := gd_some hm
      refine aL_28 (pc := 59) X dX3_moveTo_59 hg (x := (S.1 28) x2.toNatClampNeg) rfl ?_
      refine iv_iload_n (pc := 60) X dX3_moveTo_60 rfl ?_
      refine iv_if_eq (pc := 61) X dX3_moveTo_61 (tgt := 68) rfl (fun _ => ?_) (fun hb => absurd (by decide) hb)
      refine iv_iconst (pc := 68) X dX3_moveTo_68 ic_1 ?_
      refine iv_iadd (pc := 69) X dX3_moveTo_69 ?_
      obtain ⟨hg, hm⟩ := gd_some hm
      refine aS_28 (pc := 70) X dX3_moveTo_70 hg ?_
      cases hm
      exact is_vret (pc := 71) X dX3_moveTo_71
    · rw [if_neg hb3] at hm
      refine iv_iconst (pc := 22) X dX3_moveTo_22 ic_1 ?_
      refine iv_goto (pc := 23) X dX3_moveTo_23 (tgt := 27) rfl ?_
      refine iv_istore_n (pc := 27) X dX3_moveTo_27 (by decide) (lv' := [(3, .int 1), (0, .ref (ad 6)), (1, .int x1), (2, .int x2)]) rfl ?_
      refine iv_aload_n (pc := 28) X dX3_moveTo_28 rfl ?_
      refine gF_X3_49_6 (pc := 29) X dX3_moveTo_29 ?_
      refine iv_iload_n (pc := 32) X dX3_moveTo_32 rfl ?_
      refine iv_iload_n (pc := 33) X dX3_moveTo_33 rfl ?_
      obtain ⟨hg, hm⟩ := gd_some hm
      refine aS_17 (pc := 34) X dX3_moveTo_34 hg ?_
      refine iv_aload_n (pc := 35) X dX3_moveTo_35 rfl ?_
      refine gF_X3_52_6 (pc := 36) X dX3_moveTo_36 ?_
      refine iv_iload_n (pc := 39) X dX3_moveTo_39 rfl ?_
      refine iv_aload_n (pc := 40) X dX3_moveTo_40 rfl ?_
      refine gF_X3_12_6 (pc := 41) X dX3_moveTo_41 ?_
      refine gF_X3_80_22 (pc := 44) X dX3_moveTo_44 ?_
      refine iv_iload_n (pc := 47) X dX3_moveTo_47 rfl ?_
      obtain ⟨hg, hm⟩ := gd_some hm
      refine aL_28 (pc := 48) X dX3_moveTo_48 hg (x := (S.1 28) x2.toNatClampNeg) rfl ?_
      obtain ⟨hg, hm⟩ := gd_some hm
      refine aS_18 (pc := 49) X dX3_moveTo_49 hg ?_
      refine iv_aload_n (pc := 50) X dX3_moveTo_50 rfl ?_
      refine gF_X3_12_6 (pc := 51) X dX3_moveTo_51 ?_
      refine gF_X3_80_22 (pc := 54) X dX3_moveTo_54 ?_
      refine iv_iload_n (pc := 57) X dX3_moveTo_57 rfl ?_
      refine iv_dup2_11 (pc := 58) X dX3_moveTo_58 rfl rfl ?_
      obtain ⟨hg, hm⟩ := gd_some hm
      refine aL_28 (pc := 59) X dX3_moveTo_59 hg (x := (S.1 28) x2.toNatClampNeg) rfl ?_
      refine iv_iload_n (pc := 60) X dX3_moveTo_60 rfl ?_
      refine iv_if_eq (pc := 61) X dX3_moveTo_61 (tgt := 68) rfl (fun hb => absurd hb (by decide)) (fun _ => ?_)
      refine iv_iconst (pc := 64) X dX3_moveTo_64 ic_2 ?_
      refine iv_goto (pc := 65) X dX3_moveTo_65 (tgt := 69) rfl ?_
      refine iv_iadd (pc := 69) X dX3_moveTo_69 ?_
      obtain ⟨hg, hm⟩ := gd_some hm
      refine aS_28 (pc := 70) X dX3_moveTo_70 hg ?_
      cases hm
      exact is_vret (pc := 71) X dX3_moveTo_71
def f_X3_connect (x1 : Int32) (x2 : Int32) (x3 : Int32) (x4 : Int32) (S : im_S) : Option (Unit × im_S) := gd (in_b x1 512) (gd (in_b x1 512) (gd (in_b x1 512) (some ((), (uI (uI (uI S 9 x1.toNatClampNeg x2) 10 x1.toNatClampNeg x3) 11 x1.toNatClampNeg x4)))))
set_option maxHeartbeats 4000000 in
set_option maxRecDepth 100000 in
theorem f_X3_connect_e (l : Launch) (g : im_G) (ad : Nat → Nat) (x1 : Int32) (x2 : Int32) (x3 : Int32) (x4 : Int32) (S : im_S) (r : Unit) (S' : im_S) (hm : f_X3_connect x1 x2 x3 x4 S = some (r, S')) : im_E l g ad 0 yX3_connect cX3_connect 5 none [.ref (ad 6), .int x1, .int x2, .int x3, .int x4] S none S' := by
  unfold f_X3_connect at hm
  refine is_met (own := RX3) (by decide +kernel) rfl (Nat.le_of_ble_eq_true rfl) (fun p e s m below meth c X => ?_)
  refine iv_aload_n (pc := 0) X dX3_connect_0 rfl ?_
  refine gF_X3_25_6 (pc := 1) X dX3_connect_1 ?_
  refine iv_iload_n (pc := 4) X dX3_connect_4 rfl ?_
  refine iv_iload_n (pc := 5) X dX3_connect_5 rfl ?_
  obtain ⟨hg, hm⟩ := gd_some hm
  refine aS_9 (pc := 6) X dX3_connect_6 hg ?_
  refine iv_aload_n (pc := 7) X dX3_connect_7 rfl ?_
  refine gF_X3_28_6 (pc := 8) X dX3_connect_8 ?_
  refine iv_iload_n (pc := 11) X dX3_connect_11 rfl ?_
  refine iv_iload_n (pc := 12) X dX3_connect_12 rfl ?_
  obtain ⟨hg, hm⟩ := gd_some hm
  refine aS_10 (pc := 13) X dX3_connect_13 hg ?_
  refine iv_aload_n (pc := 14) X dX3_connect_14 rfl ?_
  refine gF_X3_31_6 (pc := 15) X dX3_connect_15 ?_
  refine iv_iload_n (pc := 18) X dX3_connect_18 rfl ?_
  refine iv_iload (pc := 19) X dX3_connect_19 rfl ?_
  obtain ⟨hg, hm⟩ := gd_some hm
  refine aS_11 (pc := 21) X dX3_connect_21 hg ?_
  cases hm
  exact is_vret (pc := 22) X dX3_connect_22
def f_X3_chainLength_L4 (fu : Nat) : Nat → Int32 → Int32 → Int32 → im_S → Option (Int32 × im_S)
  | 0, _, _, _, _ => none
  | nf + 1, z1, z2, z3, S => if (z3 : Int32) = (-1) then (some (z2, S)) else (if (512 : Int32) ≤ z2 then (some (z2, S)) else (gd (in_b z3 512) (f_X3_chainLength_L4 fu nf z1 (z2 + 1) ((S.1 14) z3.toNatClampNeg) S)))
set_option maxHeartbeats 4000000 in
set_option maxRecDepth 100000 in
theorem f_X3_chainLength_L4_w {fu : Nat} (l : Launch) (g : im_G) (ad : Nat → Nat) {p : Program} {e : Env} {s : State} {m : MethodId} {below : List Frame} {meth : Method} {c : Code} {args : Array Value} (X : im_X p l s m args meth c g cX3_chainLength 4 RX3 (some Jvm.ClassFile.FieldType.int)) : ∀ (nf : Nat) (z1 : Int32) (z2 : Int32) (z3 : Int32) (S : im_S) (r : Int32) (S' : im_S), f_X3_chainLength_L4 fu nf z1 z2 z3 S = some (r, S') → im_V p l e (im_R 0 0 0) s m args below meth c g 4 (im_Z below g ad args s (some (.int r)) S') ad im_N (im_cn g ad S) 0 0 4 [(0, .ref (ad 6)), (1, .int z1), (2, .int z2), (3, .int z3)] [] := by
  intro nf
  induction nf with
  | zero =>
    intro z1 z2 z3 S r S' hm
    cases hm
  | succ nf ih =>
    intro z1 z2 z3 S r S' hm
    unfold f_X3_chainLength_L4 at hm
    refine iv_iload_n (pc := 4) X dX3_chainLength_4 rfl ?_
    refine iv_iconst (pc := 5) X dX3_chainLength_5 ic_m1 ?_
    refine iv_icmp_eq (pc := 6) X dX3_chainLength_6 (tgt := 29) rfl (fun hb1 => ?_) (fun hb1 => ?_)
    · rw [if_pos hb1] at hm
      refine iv_iload_n (pc := 29) X dX3_chainLength_29 rfl ?_
      cases hm
      exact is_iret (pc := 30) X dX3_chainLength_30
    · rw [if_neg hb1] at hm
      refine iv_iload_n (pc := 9) X dX3_chainLength_9 rfl ?_
      refine iv_sipush (pc := 10) X dX3_chainLength_10 sc_512 ?_
      refine iv_icmp_ge (pc := 13) X dX3_chainLength_13 (tgt := 29) rfl (fun hb2 => ?_) (fun hb2 => ?_)
      · rw [if_pos hb2] at hm
        refine iv_iload_n (pc := 29) X dX3_chainLength_29 rfl ?_
        cases hm
        exact is_iret (pc := 30) X dX3_chainLength_30
      · rw [if_neg hb2] at hm
        refine iv_iinc (pc := 16) X dX3_chainLength_16 rfl (by decide) (v := z2 + 1) rfl (lv' := [(2, .int (z2 + 1)), (0, .ref (ad 6)), (1, .int z1), (3, .int z3)]) rfl ?_
        refine iv_aload_n (pc := 19) X dX3_chainLength_19 rfl ?_
        refine gF_X3_40_6 (pc := 20) X dX3_chainLength_20 ?_
        refine iv_iload_n (pc := 23) X dX3_chainLength_23 rfl ?_
        obtain ⟨hg, hm⟩ := gd_some hm
        refine aL_14 (pc := 24) X dX3_chainLength_24 hg (x := (S.1 14) z3.toNatClampNeg) rfl ?_
        refine iv_istore_n (pc := 25) X dX3_chainLength_25 (by decide) (lv' := [(3, .int ((S.1 14) z3.toNatClampNeg)), (2, .int (z2 + 1)), (0, .ref (ad 6)), (1, .int z1)]) rfl ?_
        refine iv_goto (pc := 26) X dX3_chainLength_26 (tgt := 4) rfl ?_
        refine iv_sub [2, 3, 1, 0] (lv2 := [(0, .ref (ad 6)), (1, .int z1), (2, .int (z2 + 1)), (3, .int ((S.1 14) z3.toNatClampNeg))]) rfl ?_
        exact ih z1 (z2 + 1) ((S.1 14) z3.toNatClampNeg) S _ _ hm
def f_X3_chainLength (fu : Nat) (x1 : Int32) (S : im_S) : Option (Int32 × im_S) := f_X3_chainLength_L4 fu fu x1 0 x1 S
set_option maxHeartbeats 4000000 in
set_option maxRecDepth 100000 in
theorem f_X3_chainLength_e (l : Launch) (g : im_G) (ad : Nat → Nat) (fu : Nat) (x1 : Int32) (S : im_S) (r : Int32) (S' : im_S) (hm : f_X3_chainLength fu x1 S = some (r, S')) : im_E l g ad 0 yX3_chainLength cX3_chainLength 4 (some Jvm.ClassFile.FieldType.int) [.ref (ad 6), .int x1] S (some (.int r)) S' := by
  unfold f_X3_chainLength at hm
  refine is_met (own := RX3) (by decide +kernel) rfl (Nat.le_of_ble_eq_true rfl) (fun p e s m below meth c X => ?_)
  refine iv_iconst (pc := 0) X dX3_chainLength_0 ic_0 ?_
  refine iv_istore_n (pc := 1) X dX3_chainLength_1 (by decide) (lv' := [(2, .int 0), (0, .ref (ad 6)), (1, .int x1)]) rfl ?_
  refine iv_iload_n (pc := 2) X dX3_chainLength_2 rfl ?_
  refine iv_istore_n (pc := 3) X dX3_chainLength_3 (by decide) (lv' := [(3, .int x1), (2, .int 0), (0, .ref (ad 6)), (1, .int x1)]) rfl ?_
  refine iv_sub [2, 3, 1, 0] (lv2 := [(0, .ref (ad 6)), (1, .int x1), (2, .int 0), (3, .int x1)]) rfl ?_
  exact f_X3_chainLength_L4_w (fu := fu) l g ad X fu x1 0 x1 S _ _ hm
def f_X3_findInChain_L6 (fu : Nat) : Nat → Int32 → Int64 → Int32 → Int32 → im_S → Option (Int32 × im_S)
  | 0, _, _, _, _, _ => none
  | nf + 1, z1, z2, z4, z5, S => if (512 : Int32) ≤ z5 then (some (z4, S)) else (if (z4 : Int32) = (-1) then (some (z4, S)) else (gd (in_b z4 512) (if (lg_cmp ((S.2.1 21) z4.toNatClampNeg) z2 : Int32) = 0 then (some (z4, S)) else (gd (in_b z4 512) (f_X3_findInChain_L6 fu nf z1 z2 ((S.1 14) z4.toNatClampNeg) (z5 + 1) S)))))
set_option maxHeartbeats 4000000 in
set_option maxRecDepth 100000 in
theorem f_X3_findInChain_L6_w {fu : Nat} (l : Launch) (g : im_G) (ad : Nat → Nat) {p : Program} {e : Env} {s : State} {m : MethodId} {below : List Frame} {meth : Method} {c : Code} {args : Array Value} (X : im_X p l s m args meth c g cX3_findInChain 6 RX3 (some Jvm.ClassFile.FieldType.int)) : ∀ (nf : Nat) (z1 : Int32) (z2 : Int64) (z4 : Int32) (z5 : Int32) (S : im_S) (r : Int32) (S' : im_S), f_X3_findInChain_L6 fu nf z1 z2 z4 z5 S = some (r, S') → im_V p l e (im_R 0 0 0) s m args below meth c g 6 (im_Z below g ad args s (some (.int r)) S') ad im_N (im_cn g ad S) 0 0 6 [(0, .ref (ad 6)), (1, .int z1), (2, .long z2), (4, .int z4), (5, .int z5)] [] := by
  intro nf
  induction nf with
  | zero =>
    intro z1 z2 z4 z5 S r S' hm
    cases hm
  | succ nf ih =>
    intro z1 z2 z4 z5 S r S' hm
    unfold f_X3_findInChain_L6 at hm
    refine iv_iload (pc := 6) X dX3_findInChain_6 rfl ?_
    refine iv_sipush (pc := 8) X dX3_findInChain_8 sc_512 ?_
    refine iv_icmp_ge (pc := 11) X dX3_findInChain_11 (tgt := 47) rfl (fun hb1 => ?_) (fun hb1 => ?_)
    · rw [if_pos hb1] at hm
      refine iv_iload (pc := 47) X dX3_findInChain_47 rfl ?_
      cases hm
      exact is_iret (pc := 49) X dX3_findInChain_49
    · rw [if_neg hb1] at hm
      refine iv_iload (pc := 14) X dX3_findInChain_14 rfl ?_
      refine iv_iconst (pc := 16) X dX3_findInChain_16 ic_m1 ?_
      refine iv_icmp_eq (pc := 17) X dX3_findInChain_17 (tgt := 47) rfl (fun hb2 => ?_) (fun hb2 => ?_)
      · rw [if_pos hb2] at hm
        refine iv_iload (pc := 47) X dX3_findInChain_47 rfl ?_
        cases hm
        exact is_iret (pc := 49) X dX3_findInChain_49
      · rw [if_neg hb2] at hm
        refine iv_aload_n (pc := 20) X dX3_findInChain_20 rfl ?_
        refine gF_X3_61_6 (pc := 21) X dX3_findInChain_21 ?_
        refine iv_iload (pc := 24) X dX3_findInChain_24 rfl ?_
        obtain ⟨hg, hm⟩ := gd_some hm
        refine aL_21 (pc := 26) X dX3_findInChain_26 hg (x := (S.2.1 21) z4.toNatClampNeg) rfl ?_
        refine iv_lload_n (pc := 27) X dX3_findInChain_27 rfl ?_
        refine iv_lcmp (pc := 28) X dX3_findInChain_28 ?_
        refine iv_if_eq (pc := 29) X dX3_findInChain_29 (tgt := 47) rfl (fun hb3 => ?_) (fun hb3 => ?_)
        · rw [if_pos hb3] at hm
          refine iv_iload (pc := 47) X dX3_findInChain_47 rfl ?_
          cases hm
          exact is_iret (pc := 49) X dX3_findInChain_49
        · rw [if_neg hb3] at hm
          refine iv_aload_n (pc := 32) X dX3_findInChain_32 rfl ?_
          refine gF_X3_40_6 (pc := 33) X dX3_findInChain_33 ?_
          refine iv_iload (pc := 36) X dX3_findInChain_36 rfl ?_
          obtain ⟨hg, hm⟩ := gd_some hm
          refine aL_14 (pc := 38) X dX3_findInChain_38 hg (x := (S.1 14) z4.toNatClampNeg) rfl ?_
          refine iv_istore (pc := 39) X dX3_findInChain_39 (by decide) (lv' := [(4, .int ((S.1 14) z4.toNatClampNeg)), (0, .ref (ad 6)), (1, .int z1), (2, .long z2), (5, .int z5)]) rfl ?_
          refine iv_iinc (pc := 41) X dX3_findInChain_41 rfl (by decide) (v := z5 + 1) rfl (lv' := [(5, .int (z5 + 1)), (4, .int ((S.1 14) z4.toNatClampNeg)), (0, .ref (ad 6)), (1, .int z1), (2, .long z2)]) rfl ?_
          refine iv_goto (pc := 44) X dX3_findInChain_44 (tgt := 6) rfl ?_
          refine iv_sub [2, 3, 4, 1, 0] (lv2 := [(0, .ref (ad 6)), (1, .int z1), (2, .long z2), (4, .int ((S.1 14) z4.toNatClampNeg)), (5, .int (z5 + 1))]) rfl ?_
          exact ih z1 z2 ((S.1 14) z4.toNatClampNeg) (z5 + 1) S _ _ hm
def f_X3_findInChain (fu : Nat) (x1 : Int32) (x2 : Int64) (S : im_S) : Option (Int32 × im_S) := f_X3_findInChain_L6 fu fu x1 x2 x1 0 S
set_option maxHeartbeats 4000000 in
set_option maxRecDepth 100000 in
theorem f_X3_findInChain_e (l : Launch) (g : im_G) (ad : Nat → Nat) (fu : Nat) (x1 : Int32) (x2 : Int64) (S : im_S) (r : Int32) (S' : im_S) (hm : f_X3_findInChain fu x1 x2 S = some (r, S')) : im_E l g ad 0 yX3_findInChain cX3_findInChain 6 (some Jvm.ClassFile.FieldType.int) [.ref (ad 6), .int x1, .long x2] S (some (.int r)) S' := by
  unfold f_X3_findInChain at hm
  refine is_met (own := RX3) (by decide +kernel) rfl (Nat.le_of_ble_eq_true rfl) (fun p e s m below meth c X => ?_)
  refine iv_iload_n (pc := 0) X dX3_findInChain_0 rfl ?_
  refine iv_istore (pc := 1) X dX3_findInChain_1 (by decide) (lv' := [(4, .int x1), (0, .ref (ad 6)), (1, .int x1), (2, .long x2)]) rfl ?_
  refine iv_iconst (pc := 3) X dX3_findInChain_3 ic_0 ?_
  refine iv_istore (pc := 4) X dX3_findInChain_4 (by decide) (lv' := [(5, .int 0), (4, .int x1), (0, .ref (ad 6)), (1, .int x1), (2, .long x2)]) rfl ?_
  refine iv_sub [2, 3, 4, 1, 0] (lv2 := [(0, .ref (ad 6)), (1, .int x1), (2, .long x2), (4, .int x1), (5, .int 0)]) rfl ?_
  exact f_X3_findInChain_L6_w (fu := fu) l g ad X fu x1 x2 x1 0 S _ _ hm
def f_X3_append_L5 (fu : Nat) : Nat → Int32 → Int32 → Int32 → Int32 → im_S → Option (Int32 × im_S)
  | 0, _, _, _, _, _ => none
  | nf + 1, z1, z2, z3, z4, S => if (512 : Int32) ≤ z4 then (if (z3 : Int32) ≠ (-1) then (gd (in_b z3 512) (some (z1, (uI S 14 z3.toNatClampNeg z2)))) else (some (z2, S))) else (if (z3 : Int32) = (-1) then (if (z3 : Int32) ≠ (-1) then (gd (in_b z3 512) (some (z1, (uI S 14 z3.toNatClampNeg z2)))) else (some (z2, S))) else (gd (in_b z3 512) (if ((S.1 14) z3.toNatClampNeg : Int32) = (-1) then (if (z3 : Int32) ≠ (-1) then (gd (in_b z3 512) (some (z1, (uI S 14 z3.toNatClampNeg z2)))) else (some (z2, S))) else (gd (in_b z3 512) (f_X3_append_L5 fu nf z1 z2 ((S.1 14) z3.toNatClampNeg) (z4 + 1) S)))))
set_option maxHeartbeats 4000000 in
set_option maxRecDepth 100000 in
theorem f_X3_append_L5_w {fu : Nat} (l : Launch) (g : im_G) (ad : Nat → Nat) {p : Program} {e : Env} {s : State} {m : MethodId} {below : List Frame} {meth : Method} {c : Code} {args : Array Value} (X : im_X p l s m args meth c g cX3_append 5 RX3 (some Jvm.ClassFile.FieldType.int)) : ∀ (nf : Nat) (z1 : Int32) (z2 : Int32) (z3 : Int32) (z4 : Int32) (S : im_S) (r : Int32) (S' : im_S), f_X3_append_L5 fu nf z1 z2 z3 z4 S = some (r, S') → im_V p l e (im_R 0 0 0) s m args below meth c g 5 (im_Z below g ad args s (some (.int r)) S') ad im_N (im_cn g ad S) 0 0 5 [(0, .ref (ad 6)), (1, .int z1), (2, .int z2), (3, .int z3), (4, .int z4)] [] := by
  intro nf
  induction nf with
  | zero =>
    intro z1 z2 z3 z4 S r S' hm
    cases hm
  | succ nf ih =>
    intro z1 z2 z3 z4 S r S' hm
    unfold f_X3_append_L5 at hm
    refine iv_iload (pc := 5) X dX3_append_5 rfl ?_
    refine iv_sipush (pc := 7) X dX3_append_7 sc_512 ?_
    refine iv_icmp_ge (pc := 10) X dX3_append_10 (tgt := 41) rfl (fun hb1 => ?_) (fun hb1 => ?_)
    · rw [if_pos hb1] at hm
      refine iv_iload_n (pc := 41) X dX3_append_41 rfl ?_
      refine iv_iconst (pc := 42) X dX3_append_42 ic_m1 ?_
      refine iv_icmp_ne (pc := 43) X dX3_append_43 (tgt := 48) rfl (fun hb2 => ?_) (fun hb2 => ?_)
      · rw [if_pos hb2] at hm
        refine iv_aload_n (pc := 48) X dX3_append_48 rfl ?_
        refine gF_X3_40_6 (pc := 49) X dX3_append_49 ?_
        refine iv_iload_n (pc := 52) X dX3_append_52 rfl ?_
        refine iv_iload_n (pc := 53) X dX3_append_53 rfl ?_
        obtain ⟨hg, hm⟩ := gd_some hm
        refine aS_14 (pc := 54) X dX3_append_54 hg ?_
        refine iv_iload_n (pc := 55) X dX3_append_55 rfl ?_
        cases hm
        exact is_iret (pc := 56) X dX3_append_56
      · rw [if_neg hb2] at hm
        refine iv_iload_n (pc := 46) X dX3_append_46 rfl ?_
        cases hm
        exact is_iret (pc := 47) X dX3_append_47
    · rw [if_neg hb1] at hm
      refine iv_iload_n (pc := 13) X dX3_append_13 rfl ?_
      refine iv_iconst (pc := 14) X dX3_append_14 ic_m1 ?_
      refine iv_icmp_eq (pc := 15) X dX3_append_15 (tgt := 41) rfl (fun hb3 => ?_) (fun hb3 => ?_)
      · rw [if_pos hb3] at hm
        refine iv_iload_n (pc := 41) X dX3_append_41 rfl ?_
        refine iv_iconst (pc := 42) X dX3_append_42 ic_m1 ?_
        refine iv_icmp_ne (pc := 43) X dX3_append_43 (tgt := 48) rfl (fun hb4 => ?_) (fun hb4 => ?_)
        · rw [if_pos hb4] at hm
          refine iv_aload_n (pc := 48) X dX3_append_48 rfl ?_
          refine gF_X3_40_6 (pc := 49) X dX3_append_49 ?_
          refine iv_iload_n (pc := 52) X dX3_append_52 rfl ?_
          refine iv_iload_n (pc := 53) X dX3_append_53 rfl ?_
          obtain ⟨hg, hm⟩ := gd_some hm
          refine aS_14 (pc := 54) X dX3_append_54 hg ?_
          refine iv_iload_n (pc := 55) X dX3_append_55 rfl ?_
          cases hm
          exact is_iret (pc := 56) X dX3_append_56
        · rw [if_neg hb4] at hm
          refine iv_iload_n (pc := 46) X dX3_append_46 rfl ?_
          cases hm
          exact is_iret (pc := 47) X dX3_append_47
      · rw [if_neg hb3] at hm
        refine iv_aload_n (pc := 18) X dX3_append_18 rfl ?_
        refine gF_X3_40_6 (pc := 19) X dX3_append_19 ?_
        refine iv_iload_n (pc := 22) X dX3_append_22 rfl ?_
        obtain ⟨hg, hm⟩ := gd_some hm
        refine aL_14 (pc := 23) X dX3_append_23 hg (x := (S.1 14) z3.toNatClampNeg) rfl ?_
        refine iv_iconst (pc := 24) X dX3_append_24 ic_m1 ?_
        refine iv_icmp_eq (pc := 25) X dX3_append_25 (tgt := 41) rfl (fun hb5 => ?_) (fun hb5 => ?_)
        · rw [if_pos hb5] at hm
          refine iv_iload_n (pc := 41) X dX3_append_41 rfl ?_
          refine iv_iconst (pc := 42) X dX3_append_42 ic_m1 ?_
          refine iv_icmp_ne (pc := 43) X dX3_append_43 (tgt := 48) rfl (fun hb6 => ?_) (fun hb6 => ?_)
          · rw [if_pos hb6] at hm
            refine iv_aload_n (pc := 48) X dX3_append_48 rfl ?_
            refine gF_X3_40_6 (pc := 49) X dX3_append_49 ?_
            refine iv_iload_n (pc := 52) X dX3_append_52 rfl ?_
            refine iv_iload_n (pc := 53) X dX3_append_53 rfl ?_
            obtain ⟨hg, hm⟩ := gd_some hm
            refine aS_14 (pc := 54) X dX3_append_54 hg ?_
            refine iv_iload_n (pc := 55) X dX3_append_55 rfl ?_
            cases hm
            exact is_iret (pc := 56) X dX3_append_56
          · rw [if_neg hb6] at hm
            refine iv_iload_n (pc := 46) X dX3_append_46 rfl ?_
            cases hm
            exact is_iret (pc := 47) X dX3_append_47
        · rw [if_neg hb5] at hm
          refine iv_aload_n (pc := 28) X dX3_append_28 rfl ?_
          refine gF_X3_40_6 (pc := 29) X dX3_append_29 ?_
          refine iv_iload_n (pc := 32) X dX3_append_32 rfl ?_
          obtain ⟨hg, hm⟩ := gd_some hm
          refine aL_14 (pc := 33) X dX3_append_33 hg (x := (S.1 14) z3.toNatClampNeg) rfl ?_
          refine iv_istore_n (pc := 34) X dX3_append_34 (by decide) (lv' := [(3, .int ((S.1 14) z3.toNatClampNeg)), (0, .ref (ad 6)), (1, .int z1), (2, .int z2), (4, .int z4)]) rfl ?_
          refine iv_iinc (pc := 35) X dX3_append_35 rfl (by decide) (v := z4 + 1) rfl (lv' := [(4, .int (z4 + 1)), (3, .int ((S.1 14) z3.toNatClampNeg)), (0, .ref (ad 6)), (1, .int z1), (2, .int z2)]) rfl ?_
          refine iv_goto (pc := 38) X dX3_append_38 (tgt := 5) rfl ?_
          refine iv_sub [2, 3, 4, 1, 0] (lv2 := [(0, .ref (ad 6)), (1, .int z1), (2, .int z2), (3, .int ((S.1 14) z3.toNatClampNeg)), (4, .int (z4 + 1))]) rfl ?_
          exact ih z1 z2 ((S.1 14) z3.toNatClampNeg) (z4 + 1) S _ _ hm
def f_X3_append (fu : Nat) (x1 : Int32) (x2 : Int32) (S : im_S) : Option (Int32 × im_S) := f_X3_append_L5 fu fu x1 x2 x1 0 S
set_option maxHeartbeats 4000000 in
set_option maxRecDepth 100000 in
theorem f_X3_append_e (l : Launch) (g : im_G) (ad : Nat → Nat) (fu : Nat) (x1 : Int32) (x2 : Int32) (S : im_S) (r : Int32) (S' : im_S) (hm : f_X3_append fu x1 x2 S = some (r, S')) : im_E l g ad 0 yX3_append cX3_append 5 (some Jvm.ClassFile.FieldType.int) [.ref (ad 6), .int x1, .int x2] S (some (.int r)) S' := by
  unfold f_X3_append at hm
  refine is_met (own := RX3) (by decide +kernel) rfl (Nat.le_of_ble_eq_true rfl) (fun p e s m below meth c X => ?_)
  refine iv_iload_n (pc := 0) X dX3_append_0 rfl ?_
  refine iv_istore_n (pc := 1) X dX3_append_1 (by decide) (lv' := [(3, .int x1), (0, .ref (ad 6)), (1, .int x1), (2, .int x2)]) rfl ?_
  refine iv_iconst (pc := 2) X dX3_append_2 ic_0 ?_
  refine iv_istore (pc := 3) X dX3_append_3 (by decide) (lv' := [(4, .int 0), (3, .int x1), (0, .ref (ad 6)), (1, .int x1), (2, .int x2)]) rfl ?_
  refine iv_sub [2, 3, 4, 1, 0] (lv2 := [(0, .ref (ad 6)), (1, .int x1), (2, .int x2), (3, .int x1), (4, .int 0)]) rfl ?_
  exact f_X3_append_L5_w (fu := fu) l g ad X fu x1 x2 x1 0 S _ _ hm
def f_X3_takesNumbers_L12 (fu : Nat) : Nat → Int32 → Int32 → Int32 → im_S → Option (Int32 × im_S)
  | 0, _, _, _, _ => none
  | nf + 1, z1, z2, z3, S => if (4 : Int32) ≤ z3 then (if (z2 : Int32) ≠ (-1) then (some (0, S)) else (some (1, S))) else (if (z2 : Int32) = (-1) then (if (z2 : Int32) ≠ (-1) then (some (0, S)) else (some (1, S))) else (gd (in_b z2 512) (if ((S.1 42) z2.toNatClampNeg : Int32) ≠ 1 then (if (z2 : Int32) ≠ (-1) then (some (0, S)) else (some (1, S))) else (gd (in_b z2 512) (f_X3_takesNumbers_L12 fu nf z1 ((S.1 48) z2.toNatClampNeg) (z3 + 1) S)))))
set_option maxHeartbeats 4000000 in
set_option maxRecDepth 100000 in
theorem f_X3_takesNumbers_L12_w {fu : Nat} (l : Launch) (g : im_G) (ad : Nat → Nat) {p : Program} {e : Env} {s : State} {m : MethodId} {below : List Frame} {meth : Method} {c : Code} {args : Array Value} (X : im_X p l s m args meth c g cX3_takesNumbers 4 RX3 (some Jvm.ClassFile.FieldType.boolean)) : ∀ (nf : Nat) (z1 : Int32) (z2 : Int32) (z3 : Int32) (S : im_S) (r : Int32) (S' : im_S), f_X3_takesNumbers_L12 fu nf z1 z2 z3 S = some (r, S') → im_V p l e (im_R 0 0 0) s m args below meth c g 4 (im_Z below g ad args s (some (.int r)) S') ad im_N (im_cn g ad S) 0 0 12 [(0, .ref (ad 40)), (1, .int z1), (2, .int z2), (3, .int z3)] [] := by
  intro nf
  induction nf with
  | zero =>
    intro z1 z2 z3 S r S' hm
    cases hm
  | succ nf ih =>
    intro z1 z2 z3 S r S' hm
    unfold f_X3_takesNumbers_L12 at hm
    refine iv_iload_n (pc := 12) X dX3_takesNumbers_12 rfl ?_
    refine iv_iconst (pc := 13) X dX3_takesNumbers_13 ic_4 ?_
    refine iv_icmp_ge (pc := 14) X dX3_takesNumbers_14 (tgt := 45) rfl (fun hb1 => ?_) (fun hb1 => ?_)
    · rw [if_pos hb1] at hm
      refine iv_iload_n (pc := 45) X dX3_takesNumbers_45 rfl ?_
      refine iv_iconst (pc := 46) X dX3_takesNumbers_46 ic_m1 ?_
      refine iv_icmp_ne (pc := 47) X dX3_takesNumbers_47 (tgt := 54) rfl (fun hb2 => ?_) (fun hb2 => ?_)
      · rw [if_pos hb2] at hm
        refine iv_iconst (pc := 54) X dX3_takesNumbers_54 ic_0 ?_
        cases hm
        exact is_zret (pc := 55) X dX3_takesNumbers_55 rfl
      · rw [if_neg hb2] at hm
        refine iv_iconst (pc := 50) X dX3_takesNumbers_50 ic_1 ?_
        refine iv_goto (pc := 51) X dX3_takesNumbers_51 (tgt := 55) rfl ?_
        cases hm
        exact is_zret (pc := 55) X dX3_takesNumbers_55 rfl
    · rw [if_neg hb1] at hm
      refine iv_iload_n (pc := 17) X dX3_takesNumbers_17 rfl ?_
      refine iv_iconst (pc := 18) X dX3_takesNumbers_18 ic_m1 ?_
      refine iv_icmp_eq (pc := 19) X dX3_takesNumbers_19 (tgt := 45) rfl (fun hb3 => ?_) (fun hb3 => ?_)
      · rw [if_pos hb3] at hm
        refine iv_iload_n (pc := 45) X dX3_takesNumbers_45 rfl ?_
        refine iv_iconst (pc := 46) X dX3_takesNumbers_46 ic_m1 ?_
        refine iv_icmp_ne (pc := 47) X dX3_takesNumbers_47 (tgt := 54) rfl (fun hb4 => ?_) (fun hb4 => ?_)
        · rw [if_pos hb4] at hm
          refine iv_iconst (pc := 54) X dX3_takesNumbers_54 ic_0 ?_
          cases hm
          exact is_zret (pc := 55) X dX3_takesNumbers_55 rfl
        · rw [if_neg hb4] at hm
          refine iv_iconst (pc := 50) X dX3_takesNumbers_50 ic_1 ?_
          refine iv_goto (pc := 51) X dX3_takesNumbers_51 (tgt := 55) rfl ?_
          cases hm
          exact is_zret (pc := 55) X dX3_takesNumbers_55 rfl
      · rw [if_neg hb3] at hm
        refine iv_aload_n (pc := 22) X dX3_takesNumbers_22 rfl ?_
        refine gF_X3_22_40 (pc := 23) X dX3_takesNumbers_23 ?_
        refine iv_iload_n (pc := 26) X dX3_takesNumbers_26 rfl ?_
        obtain ⟨hg, hm⟩ := gd_some hm
        refine aL_42 (pc := 27) X dX3_takesNumbers_27 hg (x := (S.1 42) z2.toNatClampNeg) rfl ?_
        refine iv_iconst (pc := 28) X dX3_takesNumbers_28 ic_1 ?_
        refine iv_icmp_ne (pc := 29) X dX3_takesNumbers_29 (tgt := 45) rfl (fun hb5 => ?_) (fun hb5 => ?_)
        · rw [if_pos hb5] at hm
          refine iv_iload_n (pc := 45) X dX3_takesNumbers_45 rfl ?_
          refine iv_iconst (pc := 46) X dX3_takesNumbers_46 ic_m1 ?_
          refine iv_icmp_ne (pc := 47) X dX3_takesNumbers_47 (tgt := 54) rfl (fun hb6 => ?_) (fun hb6 => ?_)
          · rw [if_pos hb6] at hm
            refine iv_iconst (pc := 54) X dX3_takesNumbers_54 ic_0 ?_
            cases hm
            exact is_zret (pc := 55) X dX3_takesNumbers_55 rfl
          · rw [if_neg hb6] at hm
            refine iv_iconst (pc := 50) X dX3_takesNumbers_50 ic_1 ?_
            refine iv_goto (pc := 51) X dX3_takesNumbers_51 (tgt := 55) rfl ?_
            cases hm
            exact is_zret (pc := 55) X dX3_takesNumbers_55 rfl
        · rw [if_neg hb5] at hm
          refine iv_aload_n (pc := 32) X dX3_takesNumbers_32 rfl ?_
          refine gF_X3_40_40 (pc := 33) X dX3_takesNumbers_33 ?_
          refine iv_iload_n (pc := 36) X dX3_takesNumbers_36 rfl ?_
          obtain ⟨hg, hm⟩ := gd_some hm
          refine aL_48 (pc := 37) X dX3_takesNumbers_37 hg (x := (S.1 48) z2.toNatClampNeg) rfl ?_
          refine iv_istore_n (pc := 38) X dX3_takesNumbers_38 (by decide) (lv' := [(2, .int ((S.1 48) z2.toNatClampNeg)), (0, .ref (ad 40)), (1, .int z1), (3, .int z3)]) rfl ?_
          refine iv_iinc (pc := 39) X dX3_takesNumbers_39 rfl (by decide) (v := z3 + 1) rfl (lv' := [(3, .int (z3 + 1)), (2, .int ((S.1 48) z2.toNatClampNeg)), (0, .ref (ad 40)), (1, .int z1)]) rfl ?_
          refine iv_goto (pc := 42) X dX3_takesNumbers_42 (tgt := 12) rfl ?_
          refine iv_sub [2, 3, 1, 0] (lv2 := [(0, .ref (ad 40)), (1, .int z1), (2, .int ((S.1 48) z2.toNatClampNeg)), (3, .int (z3 + 1))]) rfl ?_
          exact ih z1 ((S.1 48) z2.toNatClampNeg) (z3 + 1) S _ _ hm
def f_X3_takesNumbers (fu : Nat) (x1 : Int32) (S : im_S) : Option (Int32 × im_S) := gd (in_b x1 8) (f_X3_takesNumbers_L12 fu fu x1 ((S.1 59) x1.toNatClampNeg) 0 S)
set_option maxHeartbeats 4000000 in
set_option maxRecDepth 100000 in
theorem f_X3_takesNumbers_e (l : Launch) (g : im_G) (ad : Nat → Nat) (fu : Nat) (x1 : Int32) (S : im_S) (r : Int32) (S' : im_S) (hm : f_X3_takesNumbers fu x1 S = some (r, S')) : im_E l g ad 0 yX3_takesNumbers cX3_takesNumbers 4 (some Jvm.ClassFile.FieldType.boolean) [.ref (ad 40), .int x1] S (some (.int r)) S' := by
  unfold f_X3_takesNumbers at hm
  refine is_met (own := RX3) (by decide +kernel) rfl (Nat.le_of_ble_eq_true rfl) (fun p e s m below meth c X => ?_)
  refine iv_aload_n (pc := 0) X dX3_takesNumbers_0 rfl ?_
  refine gF_X3_12_40 (pc := 1) X dX3_takesNumbers_1 ?_
  refine gF_X3_90_56 (pc := 4) X dX3_takesNumbers_4 ?_
  refine iv_iload_n (pc := 7) X dX3_takesNumbers_7 rfl ?_
  obtain ⟨hg, hm⟩ := gd_some hm
  refine aL_59 (pc := 8) X dX3_takesNumbers_8 hg (x := (S.1 59) x1.toNatClampNeg) rfl ?_
  refine iv_istore_n (pc := 9) X dX3_takesNumbers_9 (by decide) (lv' := [(2, .int ((S.1 59) x1.toNatClampNeg)), (0, .ref (ad 40)), (1, .int x1)]) rfl ?_
  refine iv_iconst (pc := 10) X dX3_takesNumbers_10 ic_0 ?_
  refine iv_istore_n (pc := 11) X dX3_takesNumbers_11 (by decide) (lv' := [(3, .int 0), (2, .int ((S.1 59) x1.toNatClampNeg)), (0, .ref (ad 40)), (1, .int x1)]) rfl ?_
  refine iv_sub [2, 3, 1, 0] (lv2 := [(0, .ref (ad 40)), (1, .int x1), (2, .int ((S.1 59) x1.toNatClampNeg)), (3, .int 0)]) rfl ?_
  exact f_X3_takesNumbers_L12_w (fu := fu) l g ad X fu x1 ((S.1 59) x1.toNatClampNeg) 0 S _ _ hm
def f_X3_clear (S : im_S) : Option (Unit × im_S) := (f_X4_clear (uI S 6 16 0)).bind (fun qS1 => some ((), qS1.2))
set_option maxHeartbeats 4000000 in
set_option maxRecDepth 100000 in
theorem f_X3_clear_e (l : Launch) (g : im_G) (ad : Nat → Nat) (S : im_S) (r : Unit) (S' : im_S) (hm : f_X3_clear  S = some (r, S')) : im_E l g ad 1 yX3_clear cX3_clear 1 none [.ref (ad 6)] S none S' := by
  unfold f_X3_clear at hm
  refine is_met (own := RX3) (by decide +kernel) rfl (Nat.le_of_ble_eq_true rfl) (fun p e s m below meth c X => ?_)
  refine iv_aload_n (pc := 0) X dX3_clear_0 rfl ?_
  refine iv_iconst (pc := 1) X dX3_clear_1 ic_0 ?_
  refine pF_X3_65_6 (pc := 2) X dX3_clear_2 ?_
  refine iv_aload_n (pc := 5) X dX3_clear_5 rfl ?_
  refine gF_X3_12_6 (pc := 6) X dX3_clear_6 ?_
  obtain ⟨⟨r2, S1⟩, hc3, hm⟩ := bd_some hm
  refine cV_X3_69_22 (pc := 9) X [] [] 0 rfl (f_X4_clear_e l g ad  (uI S 6 16 0) _ _ hc3) (by decide) (by decide) (Nat.le_of_ble_eq_true rfl) rfl dX3_clear_9 ?_
  cases hm
  exact is_vret (pc := 12) X dX3_clear_12
def f_X3_add (x1 : Int32) (x2 : Int32) (x3 : Int32) (x4 : Int64) (x6 : Int32) (S : im_S) : Option (Int32 × im_S) := gd (in_b (S.1 6 16) 512) (gd (in_b (S.1 6 16) 512) (gd (in_b (S.1 6 16) 512) (gd (in_b (S.1 6 16) 512) (gd (in_b (S.1 6 16) 512) (gd (in_b (S.1 6 16) 512) (gd (in_b (S.1 6 16) 512) (gd (in_b (S.1 6 16) 512) (gd (in_b (S.1 6 16) 512) (gd (in_b (S.1 6 16) 512) (gd (in_b (S.1 6 16) 512) (gd (in_b (S.1 6 16) 512) (gd (in_b x6 512) ((f_X3_moveTo (S.1 6 16) ((S.1 27) x6.toNatClampNeg) (uJ (uI (uI (uI (uI (uI (uI (uI (uI (uI (uI (uI (uI S 6 16 ((S.1 6 16) + 1)) 7 ((S.1 6 16).toNatClampNeg) x1) 8 ((S.1 6 16).toNatClampNeg) x2) 9 ((S.1 6 16).toNatClampNeg) 0) 10 ((S.1 6 16).toNatClampNeg) (-1)) 11 ((S.1 6 16).toNatClampNeg) (-1)) 12 ((S.1 6 16).toNatClampNeg) (-1)) 13 ((S.1 6 16).toNatClampNeg) (-1)) 14 ((S.1 6 16).toNatClampNeg) (-1)) 15 ((S.1 6 16).toNatClampNeg) (-1)) 19 ((S.1 6 16).toNatClampNeg) x3) 20 ((S.1 6 16).toNatClampNeg) x3) 21 ((S.1 6 16).toNatClampNeg) x4)).bind (fun qS1 => if (x1 : Int32) = 1 then (gd (in_b x6 512) (gd (in_b (S.1 6 16) 512) (gd (in_b x6 512) (some (S.1 6 16, (uI (uI qS1.2 16 ((S.1 6 16).toNatClampNeg) ((qS1.2.1 26) x6.toNatClampNeg)) 26 x6.toNatClampNeg (S.1 6 16))))))) else (if (x1 : Int32) = 2 then (gd (in_b x6 512) (gd (in_b (S.1 6 16) 512) (gd (in_b x6 512) (some (S.1 6 16, (uI (uI qS1.2 16 ((S.1 6 16).toNatClampNeg) ((qS1.2.1 26) x6.toNatClampNeg)) 26 x6.toNatClampNeg (S.1 6 16))))))) else (if (x1 : Int32) = 8 then (gd (in_b x6 512) (gd (in_b (S.1 6 16) 512) (gd (in_b x6 512) (some (S.1 6 16, (uI (uI qS1.2 16 ((S.1 6 16).toNatClampNeg) ((qS1.2.1 26) x6.toNatClampNeg)) 26 x6.toNatClampNeg (S.1 6 16))))))) else (if (x1 : Int32) ≠ 9 then (some (S.1 6 16, qS1.2)) else (gd (in_b x6 512) (gd (in_b (S.1 6 16) 512) (gd (in_b x6 512) (some (S.1 6 16, (uI (uI qS1.2 16 ((S.1 6 16).toNatClampNeg) ((qS1.2.1 26) x6.toNatClampNeg)) 26 x6.toNatClampNeg (S.1 6 16))))))))))))))))))))))))
set_option maxHeartbeats 4000000 in
set_option maxRecDepth 100000 in
theorem f_X3_add_e (l : Launch) (g : im_G) (ad : Nat → Nat) (x1 : Int32) (x2 : Int32) (x3 : Int32) (x4 : Int64) (x6 : Int32) (S : im_S) (r : Int32) (S' : im_S) (hm : f_X3_add x1 x2 x3 x4 x6 S = some (r, S')) : im_E l g ad 1 yX3_add cX3_add 8 (some Jvm.ClassFile.FieldType.int) [.ref (ad 6), .int x1, .int x2, .int x3, .long x4, .int x6] S (some (.int r)) S' := by
  unfold f_X3_add at hm
  refine is_met (own := RX3) (by decide +kernel) rfl (Nat.le_of_ble_eq_true rfl) (fun p e s m below meth c X => ?_)
  refine iv_aload_n (pc := 0) X dX3_add_0 rfl ?_
  refine gF_X3_65_6 (pc := 1) X dX3_add_1 (x := S.1 6 16) rfl ?_
  refine iv_istore (pc := 4) X dX3_add_4 (by decide) (lv' := [(7, .int (S.1 6 16)), (0, .ref (ad 6)), (1, .int x1), (2, .int x2), (3, .int x3), (4, .long x4), (6, .int x6)]) rfl ?_
  refine iv_aload_n (pc := 6) X dX3_add_6 rfl ?_
  refine iv_dup (pc := 7) X dX3_add_7 rfl ?_
  refine gF_X3_65_6 (pc := 8) X dX3_add_8 (x := S.1 6 16) rfl ?_
  refine iv_iconst (pc := 11) X dX3_add_11 ic_1 ?_
  refine iv_iadd (pc := 12) X dX3_add_12 ?_
  refine pF_X3_65_6 (pc := 13) X dX3_add_13 ?_
  refine iv_aload_n (pc := 16) X dX3_add_16 rfl ?_
  refine gF_X3_18_6 (pc := 17) X dX3_add_17 ?_
  refine iv_iload (pc := 20) X dX3_add_20 rfl ?_
  refine iv_iload_n (pc := 22) X dX3_add_22 rfl ?_
  obtain ⟨hg, hm⟩ := gd_some hm
  refine aS_7 (pc := 23) X dX3_add_23 hg ?_
  refine iv_aload_n (pc := 24) X dX3_add_24 rfl ?_
  refine gF_X3_22_6 (pc := 25) X dX3_add_25 ?_
  refine iv_iload (pc := 28) X dX3_add_28 rfl ?_
  refine iv_iload_n (pc := 30) X dX3_add_30 rfl ?_
  obtain ⟨hg, hm⟩ := gd_some hm
  refine aS_8 (pc := 31) X dX3_add_31 hg ?_
  refine iv_aload_n (pc := 32) X dX3_add_32 rfl ?_
  refine gF_X3_25_6 (pc := 33) X dX3_add_33 ?_
  refine iv_iload (pc := 36) X dX3_add_36 rfl ?_
  refine iv_iconst (pc := 38) X dX3_add_38 ic_0 ?_
  obtain ⟨hg, hm⟩ := gd_some hm
  refine aS_9 (pc := 39) X dX3_add_39 hg ?_
  refine iv_aload_n (pc := 40) X dX3_add_40 rfl ?_
  refine gF_X3_28_6 (pc := 41) X dX3_add_41 ?_
  refine iv_iload (pc := 44) X dX3_add_44 rfl ?_
  refine iv_iconst (pc := 46) X dX3_add_46 ic_m1 ?_
  obtain ⟨hg, hm⟩ := gd_some hm
  refine aS_10 (pc := 47) X dX3_add_47 hg ?_
  refine iv_aload_n (pc := 48) X dX3_add_48 rfl ?_
  refine gF_X3_31_6 (pc := 49) X dX3_add_49 ?_
  refine iv_iload (pc := 52) X dX3_add_52 rfl ?_
  refine iv_iconst (pc := 54) X dX3_add_54 ic_m1 ?_
  obtain ⟨hg, hm⟩ := gd_some hm
  refine aS_11 (pc := 55) X dX3_add_55 hg ?_
  refine iv_aload_n (pc := 56) X dX3_add_56 rfl ?_
  refine gF_X3_34_6 (pc := 57) X dX3_add_57 ?_
  refine iv_iload (pc := 60) X dX3_add_60 rfl ?_
  refine iv_iconst (pc := 62) X dX3_add_62 ic_m1 ?_
  obtain ⟨hg, hm⟩ := gd_some hm
  refine aS_12 (pc := 63) X dX3_add_63 hg ?_
  refine iv_aload_n (pc := 64) X dX3_add_64 rfl ?_
  refine gF_X3_37_6 (pc := 65) X dX3_add_65 ?_
  refine iv_iload (pc := 68) X dX3_add_68 rfl ?_
  refine iv_iconst (pc := 70) X dX3_add_70 ic_m1 ?_
  obtain ⟨hg, hm⟩ := gd_some hm
  refine aS_13 (pc := 71) X dX3_add_71 hg ?_
  refine iv_aload_n (pc := 72) X dX3_add_72 rfl ?_
  refine gF_X3_40_6 (pc := 73) X dX3_add_73 ?_
  refine iv_iload (pc := 76) X dX3_add_76 rfl ?_
  refine iv_iconst (pc := 78) X dX3_add_78 ic_m1 ?_
  obtain ⟨hg, hm⟩ := gd_some hm
  refine aS_14 (pc := 79) X dX3_add_79 hg ?_
  refine iv_aload_n (pc := 80) X dX3_add_80 rfl ?_
  refine gF_X3_43_6 (pc := 81) X dX3_add_81 ?_
  refine iv_iload (pc := 84) X dX3_add_84 rfl ?_
  refine iv_iconst (pc := 86) X dX3_add_86 ic_m1 ?_
  obtain ⟨hg, hm⟩ := gd_some hm
  refine aS_15 (pc := 87) X dX3_add_87 hg ?_
  refine iv_aload_n (pc := 88) X dX3_add_88 rfl ?_
  refine gF_X3_55_6 (pc := 89) X dX3_add_89 ?_
  refine iv_iload (pc := 92) X dX3_add_92 rfl ?_
  refine iv_iload_n (pc := 94) X dX3_add_94 rfl ?_
  obtain ⟨hg, hm⟩ := gd_some hm
  refine aS_19 (pc := 95) X dX3_add_95 hg ?_
  refine iv_aload_n (pc := 96) X dX3_add_96 rfl ?_
  refine gF_X3_58_6 (pc := 97) X dX3_add_97 ?_
  refine iv_iload (pc := 100) X dX3_add_100 rfl ?_
  refine iv_iload_n (pc := 102) X dX3_add_102 rfl ?_
  obtain ⟨hg, hm⟩ := gd_some hm
  refine aS_20 (pc := 103) X dX3_add_103 hg ?_
  refine iv_aload_n (pc := 104) X dX3_add_104 rfl ?_
  refine gF_X3_61_6 (pc := 105) X dX3_add_105 ?_
  refine iv_iload (pc := 108) X dX3_add_108 rfl ?_
  refine iv_lload (pc := 110) X dX3_add_110 rfl ?_
  obtain ⟨hg, hm⟩ := gd_some hm
  refine aS_21 (pc := 112) X dX3_add_112 hg ?_
  refine iv_aload_n (pc := 113) X dX3_add_113 rfl ?_
  refine iv_iload (pc := 114) X dX3_add_114 rfl ?_
  refine iv_aload_n (pc := 116) X dX3_add_116 rfl ?_
  refine gF_X3_12_6 (pc := 117) X dX3_add_117 ?_
  refine gF_X3_72_22 (pc := 120) X dX3_add_120 ?_
  refine iv_iload (pc := 123) X dX3_add_123 rfl ?_
  obtain ⟨hg, hm⟩ := gd_some hm
  refine aL_27 (pc := 125) X dX3_add_125 hg (x := (S.1 27) x6.toNatClampNeg) rfl ?_
  obtain ⟨⟨r2, S1⟩, hc3, hm⟩ := bd_some hm
  refine cV_X3_73_6 (pc := 126) X [.int (S.1 6 16), .int ((S.1 27) x6.toNatClampNeg)] [] 2 rfl (f_X3_moveTo_e l g ad (S.1 6 16) ((S.1 27) x6.toNatClampNeg) (uJ (uI (uI (uI (uI (uI (uI (uI (uI (uI (uI (uI (uI S 6 16 ((S.1 6 16) + 1)) 7 ((S.1 6 16).toNatClampNeg) x1) 8 ((S.1 6 16).toNatClampNeg) x2) 9 ((S.1 6 16).toNatClampNeg) 0) 10 ((S.1 6 16).toNatClampNeg) (-1)) 11 ((S.1 6 16).toNatClampNeg) (-1)) 12 ((S.1 6 16).toNatClampNeg) (-1)) 13 ((S.1 6 16).toNatClampNeg) (-1)) 14 ((S.1 6 16).toNatClampNeg) (-1)) 15 ((S.1 6 16).toNatClampNeg) (-1)) 19 ((S.1 6 16).toNatClampNeg) x3) 20 ((S.1 6 16).toNatClampNeg) x3) 21 ((S.1 6 16).toNatClampNeg) x4) _ _ hc3) (by decide) (by decide) (Nat.le_of_ble_eq_true rfl) rfl dX3_add_126 ?_
  refine iv_iload_n (pc := 129) X dX3_add_129 rfl ?_
  refine iv_iconst (pc := 130) X dX3_add_130 ic_1 ?_
  refine iv_icmp_eq (pc := 131) X dX3_add_131 (tgt := 151) rfl (fun hb4 => ?_) (fun hb4 => ?_)
  · rw [if_pos hb4] at hm
    refine iv_aload_n (pc := 151) X dX3_add_151 rfl ?_
    refine gF_X3_46_6 (pc := 152) X dX3_add_152 ?_
    refine iv_iload (pc := 155) X dX3_add_155 rfl ?_
    refine iv_aload_n (pc := 157) X dX3_add_157 rfl ?_
    refine gF_X3_12_6 (pc := 158) X dX3_add_158 ?_
    refine gF_X3_77_22 (pc := 161) X dX3_add_161 ?_
    refine iv_iload (pc := 164) X dX3_add_164 rfl ?_
    obtain ⟨hg, hm⟩ := gd_some hm
    refine aL_26 (pc := 166) X dX3_add_166 hg (x := (S1.1 26) x6.toNatClampNeg) rfl ?_
    obtain ⟨hg, hm⟩ := gd_some hm
    refine aS_16 (pc := 167) X dX3_add_167 hg ?_
    refine iv_aload_n (pc := 168) X dX3_add_168 rfl ?_
    refine gF_X3_12_6 (pc := 169) X dX3_add_169 ?_
    refine gF_X3_77_22 (pc := 172) X dX3_add_172 ?_
    refine iv_iload (pc := 175) X dX3_add_175 rfl ?_
    refine iv_iload (pc := 177) X dX3_add_177 rfl ?_
    obtain ⟨hg, hm⟩ := gd_some hm
    refine aS_26 (pc := 179) X dX3_add_179 hg ?_
    refine iv_iload (pc := 180) X dX3_add_180 rfl ?_
    cases hm
    exact is_iret (pc := 182) X dX3_add_182
  · rw [if_neg hb4] at hm
    refine iv_iload_n (pc := 134) X dX3_add_134 rfl ?_
    refine iv_iconst (pc := 135) X dX3_add_135 ic_2 ?_
    refine iv_icmp_eq (pc := 136) X dX3_add_136 (tgt := 151) rfl (fun hb5 => ?_) (fun hb5 => ?_)
    · rw [if_pos hb5] at hm
      refine iv_aload_n (pc := 151) X dX3_add_151 rfl ?_
      refine gF_X3_46_6 (pc := 152) X dX3_add_152 ?_
      refine iv_iload (pc := 155) X dX3_add_155 rfl ?_
      refine iv_aload_n (pc := 157) X dX3_add_157 rfl ?_
      refine gF_X3_12_6 (pc := 158) X dX3_add_158 ?_
      refine gF_X3_77_22 (pc := 161) X dX3_add_161 ?_
      refine iv_iload (pc := 164) X dX3_add_164 rfl ?_
      obtain ⟨hg, hm⟩ := gd_some hm
      refine aL_26 (pc := 166) X dX3_add_166 hg (x := (S1.1 26) x6.toNatClampNeg) rfl ?_
      obtain ⟨hg, hm⟩ := gd_some hm
      refine aS_16 (pc := 167) X dX3_add_167 hg ?_
      refine iv_aload_n (pc := 168) X dX3_add_168 rfl ?_
      refine gF_X3_12_6 (pc := 169) X dX3_add_169 ?_
      refine gF_X3_77_22 (pc := 172) X dX3_add_172 ?_
      refine iv_iload (pc := 175) X dX3_add_175 rfl ?_
      refine iv_iload (pc := 177) X dX3_add_177 rfl ?_
      obtain ⟨hg, hm⟩ := gd_some hm
      refine aS_26 (pc := 179) X dX3_add_179 hg ?_
      refine iv_iload (pc := 180) X dX3_add_180 rfl ?_
      cases hm
      exact is_iret (pc := 182) X dX3_add_182
    · rw [if_neg hb5] at hm
      refine iv_iload_n (pc := 139) X dX3_add_139 rfl ?_
      refine iv_bipush (pc := 140) X dX3_add_140 bc_8 ?_
      refine iv_icmp_eq (pc := 142) X dX3_add_142 (tgt := 151) rfl (fun hb6 => ?_) (fun hb6 => ?_)
      · rw [if_pos hb6] at hm
        refine iv_aload_n (pc := 151) X dX3_add_151 rfl ?_
        refine gF_X3_46_6 (pc := 152) X dX3_add_152 ?_
        refine iv_iload (pc := 155) X dX3_add_155 rfl ?_
        refine iv_aload_n (pc := 157) X dX3_add_157 rfl ?_
        refine gF_X3_12_6 (pc := 158) X dX3_add_158 ?_
        refine gF_X3_77_22 (pc := 161) X dX3_add_161 ?_
        refine iv_iload (pc := 164) X dX3_add_164 rfl ?_
        obtain ⟨hg, hm⟩ := gd_some hm
        refine aL_26 (pc := 166) X dX3_add_166 hg (x := (S1.1 26) x6.toNatClampNeg) rfl ?_
        obtain ⟨hg, hm⟩ := gd_some hm
        refine aS_16 (pc := 167) X dX3_add_167 hg ?_
        refine iv_aload_n (pc := 168) X dX3_add_168 rfl ?_
        refine gF_X3_12_6 (pc := 169) X dX3_add_169 ?_
        refine gF_X3_77_22 (pc := 172) X dX3_add_172 ?_
        refine iv_iload (pc := 175) X dX3_add_175 rfl ?_
        refine iv_iload (pc := 177) X dX3_add_177 rfl ?_
        obtain ⟨hg, hm⟩ := gd_some hm
        refine aS_26 (pc := 179) X dX3_add_179 hg ?_
        refine iv_iload (pc := 180) X dX3_add_180 rfl ?_
        cases hm
        exact is_iret (pc := 182) X dX3_add_182
      · rw [if_neg hb6] at hm
        refine iv_iload_n (pc := 145) X dX3_add_145 rfl ?_
        refine iv_bipush (pc := 146) X dX3_add_146 bc_9 ?_
        refine iv_icmp_ne (pc := 148) X dX3_add_148 (tgt := 180) rfl (fun hb7 => ?_) (fun hb7 => ?_)
        · rw [if_pos hb7] at hm
          refine iv_iload (pc := 180) X dX3_add_180 rfl ?_
          cases hm
          exact is_iret (pc := 182) X dX3_add_182
        · rw [if_neg hb7] at hm
          refine iv_aload_n (pc := 151) X dX3_add_151 rfl ?_
          refine gF_X3_46_6 (pc := 152) X dX3_add_152 ?_
          refine iv_iload (pc := 155) X dX3_add_155 rfl ?_
          refine iv_aload_n (pc := 157) X dX3_add_157 rfl ?_
          refine gF_X3_12_6 (pc := 158) X dX3_add_158 ?_
          refine gF_X3_77_22 (pc := 161) X dX3_add_161 ?_
          refine iv_iload (pc := 164) X dX3_add_164 rfl ?_
          obtain ⟨hg, hm⟩ := gd_some hm
          refine aL_26 (pc := 166) X dX3_add_166 hg (x := (S1.1 26) x6.toNatClampNeg) rfl ?_
          obtain ⟨hg, hm⟩ := gd_some hm
          refine aS_16 (pc := 167) X dX3_add_167 hg ?_
          refine iv_aload_n (pc := 168) X dX3_add_168 rfl ?_
          refine gF_X3_12_6 (pc := 169) X dX3_add_169 ?_
          refine gF_X3_77_22 (pc := 172) X dX3_add_172 ?_
          refine iv_iload (pc := 175) X dX3_add_175 rfl ?_
          refine iv_iload (pc := 177) X dX3_add_177 rfl ?_
          obtain ⟨hg, hm⟩ := gd_some hm
          refine aS_26 (pc := 179) X dX3_add_179 hg ?_
          refine iv_iload (pc := 180) X dX3_add_180 rfl ?_
          cases hm
          exact is_iret (pc := 182) X dX3_add_182
def f_X3_addInnerTemplate (x1 : Int32) (S : im_S) : Option (Int32 × im_S) := gd (in_b x1 512) (gd (in_b ((S.1 17) x1.toNatClampNeg) 512) ((f_X4_addTemplate (((S.1 29) (((S.1 17) x1.toNatClampNeg).toNatClampNeg)) + 1) S).bind (fun qS1 => some (qS1.1, qS1.2))))
set_option maxHeartbeats 4000000 in
set_option maxRecDepth 100000 in
theorem f_X3_addInnerTemplate_e (l : Launch) (g : im_G) (ad : Nat → Nat) (x1 : Int32) (S : im_S) (r : Int32) (S' : im_S) (hm : f_X3_addInnerTemplate x1 S = some (r, S')) : im_E l g ad 1 yX3_addInnerTemplate cX3_addInnerTemplate 2 (some Jvm.ClassFile.FieldType.int) [.ref (ad 6), .int x1] S (some (.int r)) S' := by
  unfold f_X3_addInnerTemplate at hm
  refine is_met (own := RX3) (by decide +kernel) rfl (Nat.le_of_ble_eq_true rfl) (fun p e s m below meth c X => ?_)
  refine iv_aload_n (pc := 0) X dX3_addInnerTemplate_0 rfl ?_
  refine gF_X3_12_6 (pc := 1) X dX3_addInnerTemplate_1 ?_
  refine iv_aload_n (pc := 4) X dX3_addInnerTemplate_4 rfl ?_
  refine gF_X3_12_6 (pc := 5) X dX3_addInnerTemplate_5 ?_
  refine gF_X3_83_22 (pc := 8) X dX3_addInnerTemplate_8 ?_
  refine iv_aload_n (pc := 11) X dX3_addInnerTemplate_11 rfl ?_
  refine gF_X3_49_6 (pc := 12) X dX3_addInnerTemplate_12 ?_
  refine iv_iload_n (pc := 15) X dX3_addInnerTemplate_15 rfl ?_
  obtain ⟨hg, hm⟩ := gd_some hm
  refine aL_17 (pc := 16) X dX3_addInnerTemplate_16 hg (x := (S.1 17) x1.toNatClampNeg) rfl ?_
  obtain ⟨hg, hm⟩ := gd_some hm
  refine aL_29 (pc := 17) X dX3_addInnerTemplate_17 hg (x := (S.1 29) (((S.1 17) x1.toNatClampNeg).toNatClampNeg)) rfl ?_
  refine iv_iconst (pc := 18) X dX3_addInnerTemplate_18 ic_1 ?_
  refine iv_iadd (pc := 19) X dX3_addInnerTemplate_19 ?_
  obtain ⟨⟨r2, S1⟩, hc3, hm⟩ := bd_some hm
  refine cV_X3_86_22 (pc := 20) X [.int (((S.1 29) (((S.1 17) x1.toNatClampNeg).toNatClampNeg)) + 1)] [] 1 rfl (f_X4_addTemplate_e l g ad (((S.1 29) (((S.1 17) x1.toNatClampNeg).toNatClampNeg)) + 1) S _ _ hc3) (by decide) (by decide) (Nat.le_of_ble_eq_true rfl) rfl dX3_addInnerTemplate_20 ?_
  cases hm
  exact is_iret (pc := 23) X dX3_addInnerTemplate_23
