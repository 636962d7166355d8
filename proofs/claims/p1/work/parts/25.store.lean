/-! written by program (wip/whole/walk.py): methods as functions, and their contracts -/
def f_X0_clear (S : im_S) : Option (Unit × im_S) := some ((), (uI (uI S 72 2 1) 72 3 0))
set_option maxHeartbeats 4000000 in
set_option maxRecDepth 100000 in
theorem f_X0_clear_e (l : Launch) (g : im_G) (ad : Nat → Nat) (S : im_S) (r : Unit) (S' : im_S) (hm : f_X0_clear  S = some (r, S')) : im_E l g ad 0 yX0_clear cX0_clear 1 none [.ref (ad 72)] S none S' := by
  unfold f_X0_clear at hm
  refine is_met (own := RX0) (by decide +kernel) rfl (Nat.le_of_ble_eq_true rfl) (fun p e s m below meth c X => ?_)
  refine iv_aload_n (pc := 0) X dX0_clear_0 rfl ?_
  refine iv_iconst (pc := 1) X dX0_clear_1 ic_1 ?_
  refine pF_X0_16_72 (pc := 2) X dX0_clear_2 ?_
  refine iv_aload_n (pc := 5) X dX0_clear_5 rfl ?_
  refine iv_iconst (pc := 6) X dX0_clear_6 ic_0 ?_
  refine pF_X0_20_72 (pc := 7) X dX0_clear_7 ?_
  cases hm
  exact is_vret (pc := 10) X dX0_clear_10
def f_X0_release (x1 : Int32) (S : im_S) : Option (Unit × im_S) := gd (in_b x1 (S.2.2 74)) (some ((), (uI (uI S 74 x1.toNatClampNeg (S.1 72 3)) 72 3 x1)))
set_option maxHeartbeats 4000000 in
set_option maxRecDepth 100000 in
theorem f_X0_release_e (l : Launch) (g : im_G) (ad : Nat → Nat) (x1 : Int32) (S : im_S) (r : Unit) (S' : im_S) (hm : f_X0_release x1 S = some (r, S')) : im_E l g ad 0 yX0_release cX0_release 2 none [.ref (ad 72), .int x1] S none S' := by
  unfold f_X0_release at hm
  refine is_met (own := RX0) (by decide +kernel) rfl (Nat.le_of_ble_eq_true rfl) (fun p e s m below meth c X => ?_)
  refine iv_aload_n (pc := 0) X dX0_release_0 rfl ?_
  refine gF_X0_13_72 (pc := 1) X dX0_release_1 ?_
  refine iv_iload_n (pc := 4) X dX0_release_4 rfl ?_
  refine iv_aload_n (pc := 5) X dX0_release_5 rfl ?_
  refine gF_X0_20_72 (pc := 6) X dX0_release_6 (x := S.1 72 3) rfl ?_
  obtain ⟨hg, hm⟩ := gd_some hm
  refine aS_74 (pc := 9) X dX0_release_9 hg ?_
  refine iv_aload_n (pc := 10) X dX0_release_10 rfl ?_
  refine iv_iload_n (pc := 11) X dX0_release_11 rfl ?_
  refine pF_X0_20_72 (pc := 12) X dX0_release_12 ?_
  cases hm
  exact is_vret (pc := 15) X dX0_release_15
def f_X2_clear (S : im_S) : Option (Unit × im_S) := some ((), (uI S 67 4 0))
set_option maxHeartbeats 4000000 in
set_option maxRecDepth 100000 in
theorem f_X2_clear_e (l : Launch) (g : im_G) (ad : Nat → Nat) (S : im_S) (r : Unit) (S' : im_S) (hm : f_X2_clear  S = some (r, S')) : im_E l g ad 0 yX2_clear cX2_clear 1 none [.ref (ad 67)] S none S' := by
  unfold f_X2_clear at hm
  refine is_met (own := RX2) (by decide +kernel) rfl (Nat.le_of_ble_eq_true rfl) (fun p e s m below meth c X => ?_)
  refine iv_aload_n (pc := 0) X dX2_clear_0 rfl ?_
  refine iv_iconst (pc := 1) X dX2_clear_1 ic_0 ?_
  refine pF_X2_22_67 (pc := 2) X dX2_clear_2 ?_
  cases hm
  exact is_vret (pc := 5) X dX2_clear_5
def f_X2_outward_L5 (fu : Nat) : Nat → Int32 → Int32 → Int32 → Int32 → im_S → Option (Int32 × im_S)
  | 0, _, _, _, _, _ => none
  | nf + 1, z1, z2, z3, z4, S => if (z2 : Int32) ≤ z4 then (some (z3, S)) else (gd (in_b z3 (S.2.2 69)) (f_X2_outward_L5 fu nf z1 z2 ((S.1 69) z3.toNatClampNeg) (z4 + 1) S))
set_option maxHeartbeats 4000000 in
set_option maxRecDepth 100000 in
theorem f_X2_outward_L5_w {fu : Nat} (l : Launch) (g : im_G) (ad : Nat → Nat) {p : Program} {e : Env} {s : State} {m : MethodId} {below : List Frame} {meth : Method} {c : Code} {args : Array Value} (X : im_X p l s m args meth c g cX2_outward 5 RX2 (some Jvm.ClassFile.FieldType.int)) : ∀ (nf : Nat) (z1 : Int32) (z2 : Int32) (z3 : Int32) (z4 : Int32) (S : im_S) (r : Int32) (S' : im_S), f_X2_outward_L5 fu nf z1 z2 z3 z4 S = some (r, S') → im_V p l e (im_R 0 0 0) s m args below meth c g 5 (im_Z below g ad args s (some (.int r)) S') ad im_N (im_cn g ad S) 0 0 5 [(0, .ref (ad 67)), (1, .int z1), (2, .int z2), (3, .int z3), (4, .int z4)] [] := by
  intro nf
  induction nf with
  | zero =>
    intro z1 z2 z3 z4 S r S' hm
    cases hm
  | succ nf ih =>
    intro z1 z2 z3 z4 S r S' hm
    unfold f_X2_outward_L5 at hm
    refine iv_iload (pc := 5) X dX2_outward_5 rfl ?_
    refine iv_iload_n (pc := 7) X dX2_outward_7 rfl ?_
    refine iv_icmp_ge (pc := 8) X dX2_outward_8 (tgt := 24) rfl (fun hb1 => ?_) (fun hb1 => ?_)
    · rw [if_pos hb1] at hm
      refine iv_iload_n (pc := 24) X dX2_outward_24 rfl ?_
      cases hm
      exact is_iret (pc := 25) X dX2_outward_25
    · rw [if_neg hb1] at hm
      refine iv_aload_n (pc := 11) X dX2_outward_11 rfl ?_
      refine gF_X2_13_67 (pc := 12) X dX2_outward_12 ?_
      refine iv_iload_n (pc := 15) X dX2_outward_15 rfl ?_
      obtain ⟨hg, hm⟩ := gd_some hm
      refine aL_69 (pc := 16) X dX2_outward_16 hg (x := (S.1 69) z3.toNatClampNeg) rfl ?_
      refine iv_istore_n (pc := 17) X dX2_outward_17 (by decide) (lv' := [(3, .int ((S.1 69) z3.toNatClampNeg)), (0, .ref (ad 67)), (1, .int z1), (2, .int z2), (4, .int z4)]) rfl ?_
      refine iv_iinc (pc := 18) X dX2_outward_18 rfl (by decide) (v := z4 + 1) rfl (lv' := [(4, .int (z4 + 1)), (3, .int ((S.1 69) z3.toNatClampNeg)), (0, .ref (ad 67)), (1, .int z1), (2, .int z2)]) rfl ?_
      refine iv_goto (pc := 21) X dX2_outward_21 (tgt := 5) rfl ?_
      refine iv_sub [2, 3, 4, 1, 0] (lv2 := [(0, .ref (ad 67)), (1, .int z1), (2, .int z2), (3, .int ((S.1 69) z3.toNatClampNeg)), (4, .int (z4 + 1))]) rfl ?_
      exact ih z1 z2 ((S.1 69) z3.toNatClampNeg) (z4 + 1) S _ _ hm
def f_X2_outward (fu : Nat) (x1 : Int32) (x2 : Int32) (S : im_S) : Option (Int32 × im_S) := f_X2_outward_L5 fu fu x1 x2 x1 0 S
set_option maxHeartbeats 4000000 in
set_option maxRecDepth 100000 in
theorem f_X2_outward_e (l : Launch) (g : im_G) (ad : Nat → Nat) (fu : Nat) (x1 : Int32) (x2 : Int32) (S : im_S) (r : Int32) (S' : im_S) (hm : f_X2_outward fu x1 x2 S = some (r, S')) : im_E l g ad 0 yX2_outward cX2_outward 5 (some Jvm.ClassFile.FieldType.int) [.ref (ad 67), .int x1, .int x2] S (some (.int r)) S' := by
  unfold f_X2_outward at hm
  refine is_met (own := RX2) (by decide +kernel) rfl (Nat.le_of_ble_eq_true rfl) (fun p e s m below meth c X => ?_)
  refine iv_iload_n (pc := 0) X dX2_outward_0 rfl ?_
  refine iv_istore_n (pc := 1) X dX2_outward_1 (by decide) (lv' := [(3, .int x1), (0, .ref (ad 67)), (1, .int x1), (2, .int x2)]) rfl ?_
  refine iv_iconst (pc := 2) X dX2_outward_2 ic_0 ?_
  refine iv_istore (pc := 3) X dX2_outward_3 (by decide) (lv' := [(4, .int 0), (3, .int x1), (0, .ref (ad 67)), (1, .int x1), (2, .int x2)]) rfl ?_
  refine iv_sub [2, 3, 4, 1, 0] (lv2 := [(0, .ref (ad 67)), (1, .int x1), (2, .int x2), (3, .int x1), (4, .int 0)]) rfl ?_
  exact f_X2_outward_L5_w (fu := fu) l g ad X fu x1 x2 x1 0 S _ _ hm
def f_X8_clear (S : im_S) : Option (Unit × im_S) := some ((), (uI S 64 2 0))
set_option maxHeartbeats 4000000 in
set_option maxRecDepth 100000 in
theorem f_X8_clear_e (l : Launch) (g : im_G) (ad : Nat → Nat) (S : im_S) (r : Unit) (S' : im_S) (hm : f_X8_clear  S = some (r, S')) : im_E l g ad 0 yX8_clear cX8_clear 1 none [.ref (ad 64)] S none S' := by
  unfold f_X8_clear at hm
  refine is_met (own := RX8) (by decide +kernel) rfl (Nat.le_of_ble_eq_true rfl) (fun p e s m below meth c X => ?_)
  refine iv_aload_n (pc := 0) X dX8_clear_0 rfl ?_
  refine iv_iconst (pc := 1) X dX8_clear_1 ic_0 ?_
  refine pF_X8_17_64 (pc := 2) X dX8_clear_2 ?_
  cases hm
  exact is_vret (pc := 5) X dX8_clear_5
def f_X8_put (x1 : Int32) (x2 : Int32) (x3 : Int64) (S : im_S) : Option (Unit × im_S) := gd (in_b x1 (S.2.2 65)) (gd (in_b x1 (S.2.2 66)) (some ((), (uJ (uI S 65 x1.toNatClampNeg (vp_nar .byte x2.toInt8.toInt32)) 66 x1.toNatClampNeg x3))))
set_option maxHeartbeats 4000000 in
set_option maxRecDepth 100000 in
theorem f_X8_put_e (l : Launch) (g : im_G) (ad : Nat → Nat) (x1 : Int32) (x2 : Int32) (x3 : Int64) (S : im_S) (r : Unit) (S' : im_S) (hm : f_X8_put x1 x2 x3 S = some (r, S')) : im_E l g ad 0 yX8_put cX8_put 5 none [.ref (ad 64), .int x1, .int x2, .long x3] S none S' := by
  unfold f_X8_put at hm
  refine is_met (own := RX8) (by decide +kernel) rfl (Nat.le_of_ble_eq_true rfl) (fun p e s m below meth c X => ?_)
  refine iv_aload_n (pc := 0) X dX8_put_0 rfl ?_
  refine gF_X8_7_64 (pc := 1) X dX8_put_1 ?_
  refine iv_iload_n (pc := 4) X dX8_put_4 rfl ?_
  refine iv_iload_n (pc := 5) X dX8_put_5 rfl ?_
  refine iv_i2b (pc := 6) X dX8_put_6 rfl ?_
  obtain ⟨hg, hm⟩ := gd_some hm
  refine aS_65 (pc := 7) X dX8_put_7 hg ?_
  refine iv_aload_n (pc := 8) X dX8_put_8 rfl ?_
  refine gF_X8_13_64 (pc := 9) X dX8_put_9 ?_
  refine iv_iload_n (pc := 12) X dX8_put_12 rfl ?_
  refine iv_lload_n (pc := 13) X dX8_put_13 rfl ?_
  obtain ⟨hg, hm⟩ := gd_some hm
  refine aS_66 (pc := 14) X dX8_put_14 hg ?_
  cases hm
  exact is_vret (pc := 15) X dX8_put_15
def f_X8_tableOf (x0 : Int32) (x1 : Int32) (S : im_S) : Option (Int64 × im_S) := some ((x0.toInt64 <<< ((5 : Int32).toInt64 &&& 63)) ||| x1.toInt64, S)
set_option maxHeartbeats 4000000 in
set_option maxRecDepth 100000 in
theorem f_X8_tableOf_e (l : Launch) (g : im_G) (ad : Nat → Nat) (x0 : Int32) (x1 : Int32) (S : im_S) (r : Int64) (S' : im_S) (hm : f_X8_tableOf x0 x1 S = some (r, S')) : im_E l g ad 0 yX8_tableOf cX8_tableOf 2 (some Jvm.ClassFile.FieldType.long) [.int x0, .int x1] S (some (.long r)) S' := by
  unfold f_X8_tableOf at hm
  refine is_met (own := RX8) (by decide +kernel) rfl (Nat.le_of_ble_eq_true rfl) (fun p e s m below meth c X => ?_)
  refine iv_iload_n (pc := 0) X dX8_tableOf_0 rfl ?_
  refine iv_i2l (pc := 1) X dX8_tableOf_1 rfl ?_
  refine iv_iconst (pc := 2) X dX8_tableOf_2 ic_5 ?_
  refine iv_lshl (pc := 3) X dX8_tableOf_3 rfl ?_
  refine iv_iload_n (pc := 4) X dX8_tableOf_4 rfl ?_
  refine iv_i2l (pc := 5) X dX8_tableOf_5 rfl ?_
  refine iv_lor (pc := 6) X dX8_tableOf_6 ?_
  cases hm
  exact is_lret (pc := 7) X dX8_tableOf_7
def f_X8_firstCell (x0 : Int64) (S : im_S) : Option (Int32 × im_S) := some ((x0 >>> ((5 : Int32).toInt64 &&& 63)).toInt32, S)
set_option maxHeartbeats 4000000 in
set_option maxRecDepth 100000 in
theorem f_X8_firstCell_e (l : Launch) (g : im_G) (ad : Nat → Nat) (x0 : Int64) (S : im_S) (r : Int32) (S' : im_S) (hm : f_X8_firstCell x0 S = some (r, S')) : im_E l g ad 0 yX8_firstCell cX8_firstCell 2 (some Jvm.ClassFile.FieldType.int) [.long x0] S (some (.int r)) S' := by
  unfold f_X8_firstCell at hm
  refine is_met (own := RX8) (by decide +kernel) rfl (Nat.le_of_ble_eq_true rfl) (fun p e s m below meth c X => ?_)
  refine iv_lload_n (pc := 0) X dX8_firstCell_0 rfl ?_
  refine iv_iconst (pc := 1) X dX8_firstCell_1 ic_5 ?_
  refine iv_lshr (pc := 2) X dX8_firstCell_2 rfl ?_
  refine iv_l2i (pc := 3) X dX8_firstCell_3 rfl ?_
  cases hm
  exact is_iret (pc := 4) X dX8_firstCell_4
def f_X8_cellsIn (x0 : Int64) (S : im_S) : Option (Int32 × im_S) := some (x0.toInt32 &&& 31, S)
set_option maxHeartbeats 4000000 in
set_option maxRecDepth 100000 in
theorem f_X8_cellsIn_e (l : Launch) (g : im_G) (ad : Nat → Nat) (x0 : Int64) (S : im_S) (r : Int32) (S' : im_S) (hm : f_X8_cellsIn x0 S = some (r, S')) : im_E l g ad 0 yX8_cellsIn cX8_cellsIn 2 (some Jvm.ClassFile.FieldType.int) [.long x0] S (some (.int r)) S' := by
  unfold f_X8_cellsIn at hm
  refine is_met (own := RX8) (by decide +kernel) rfl (Nat.le_of_ble_eq_true rfl) (fun p e s m below meth c X => ?_)
  refine iv_lload_n (pc := 0) X dX8_cellsIn_0 rfl ?_
  refine iv_l2i (pc := 1) X dX8_cellsIn_1 rfl ?_
  refine iv_bipush (pc := 2) X dX8_cellsIn_2 bc_31 ?_
  refine iv_iand (pc := 4) X dX8_cellsIn_4 ?_
  cases hm
  exact is_iret (pc := 5) X dX8_cellsIn_5
