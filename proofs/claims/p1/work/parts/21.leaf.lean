/-! written by program (wip/whole/walk.py): methods as functions, and their contracts -/
def f_X1_clear (S : im_S) : Option (Unit × im_S) := some ((), (uI (uI S 5 0 0) 5 1 0))
set_option maxHeartbeats 4000000 in
set_option maxRecDepth 100000 in
theorem f_X1_clear_e (l : Launch) (g : im_G) (ad : Nat → Nat) (S : im_S) (r : Unit) (S' : im_S) (hm : f_X1_clear  S = some (r, S')) : im_E l g ad 0 yX1_clear cX1_clear 1 none [.ref (ad 5)] S none S' := by
  unfold f_X1_clear at hm
  refine is_met (own := RX1) (by decide +kernel) rfl (Nat.le_of_ble_eq_true rfl) (fun p e s m below meth c X => ?_)
  refine iv_aload_n (pc := 0) X dX1_clear_0 rfl ?_
  refine iv_iconst (pc := 1) X dX1_clear_1 ic_0 ?_
  refine pF_X1_7_5 (pc := 2) X dX1_clear_2 ?_
  refine iv_aload_n (pc := 5) X dX1_clear_5 rfl ?_
  refine iv_iconst (pc := 6) X dX1_clear_6 ic_0 ?_
  refine pF_X1_13_5 (pc := 7) X dX1_clear_7 ?_
  cases hm
  exact is_vret (pc := 10) X dX1_clear_10
def f_X1_note (x1 : Int32) (x2 : Int32) (S : im_S) : Option (Unit × im_S) := if (S.1 5 0 : Int32) = 0 then (some ((), (uI (uI S 5 0 x1) 5 1 x2))) else (if (S.1 5 1 : Int32) ≤ x2 then (if (x2 : Int32) ≠ (S.1 5 1) then (some ((), S)) else (if (S.1 5 0 : Int32) ≤ x1 then (some ((), S)) else (some ((), (uI (uI S 5 0 x1) 5 1 x2))))) else (some ((), (uI (uI S 5 0 x1) 5 1 x2))))
set_option maxHeartbeats 4000000 in
set_option maxRecDepth 100000 in
theorem f_X1_note_e (l : Launch) (g : im_G) (ad : Nat → Nat) (x1 : Int32) (x2 : Int32) (S : im_S) (r : Unit) (S' : im_S) (hm : f_X1_note x1 x2 S = some (r, S')) : im_E l g ad 0 yX1_note cX1_note 4 none [.ref (ad 5), .int x1, .int x2] S none S' := by
  unfold f_X1_note at hm
  refine is_met (own := RX1) (by decide +kernel) rfl (Nat.le_of_ble_eq_true rfl) (fun p e s m below meth c X => ?_)
  refine iv_aload_n (pc := 0) X dX1_note_0 rfl ?_
  refine gF_X1_7_5 (pc := 1) X dX1_note_1 (x := S.1 5 0) rfl ?_
  refine iv_if_eq (pc := 4) X dX1_note_4 (tgt := 15) rfl (fun hb1 => ?_) (fun hb1 => ?_)
  · rw [if_pos hb1] at hm
    refine iv_iconst (pc := 15) X dX1_note_15 ic_1 ?_
    refine iv_goto (pc := 16) X dX1_note_16 (tgt := 20) rfl ?_
    refine iv_istore_n (pc := 20) X dX1_note_20 (by decide) (lv' := [(3, .int 1), (0, .ref (ad 5)), (1, .int x1), (2, .int x2)]) rfl ?_
    refine iv_iload_n (pc := 21) X dX1_note_21 rfl ?_
    refine iv_if_ne (pc := 22) X dX1_note_22 (tgt := 41) rfl (fun _ => ?_) (fun hb => absurd (by decide) hb)
    refine iv_aload_n (pc := 41) X dX1_note_41 rfl ?_
    refine iv_iload_n (pc := 42) X dX1_note_42 rfl ?_
    refine pF_X1_7_5 (pc := 43) X dX1_note_43 ?_
    refine iv_aload_n (pc := 46) X dX1_note_46 rfl ?_
    refine iv_iload_n (pc := 47) X dX1_note_47 rfl ?_
    refine pF_X1_13_5 (pc := 48) X dX1_note_48 ?_
    cases hm
    exact is_vret (pc := 51) X dX1_note_51
  · rw [if_neg hb1] at hm
    refine iv_iload_n (pc := 7) X dX1_note_7 rfl ?_
    refine iv_aload_n (pc := 8) X dX1_note_8 rfl ?_
    refine gF_X1_13_5 (pc := 9) X dX1_note_9 (x := S.1 5 1) rfl ?_
    refine iv_icmp_ge (pc := 12) X dX1_note_12 (tgt := 19) rfl (fun hb3 => ?_) (fun hb3 => ?_)
    · rw [if_pos hb3] at hm
      refine iv_iconst (pc := 19) X dX1_note_19 ic_0 ?_
      refine iv_istore_n (pc := 20) X dX1_note_20 (by decide) (lv' := [(3, .int 0), (0, .ref (ad 5)), (1, .int x1), (2, .int x2)]) rfl ?_
      refine iv_iload_n (pc := 21) X dX1_note_21 rfl ?_
      refine iv_if_ne (pc := 22) X dX1_note_22 (tgt := 41) rfl (fun hb => absurd hb (by decide)) (fun _ => ?_)
      refine iv_iload_n (pc := 25) X dX1_note_25 rfl ?_
      refine iv_aload_n (pc := 26) X dX1_note_26 rfl ?_
      refine gF_X1_13_5 (pc := 27) X dX1_note_27 (x := S.1 5 1) rfl ?_
      refine iv_icmp_ne (pc := 30) X dX1_note_30 (tgt := 51) rfl (fun hb5 => ?_) (fun hb5 => ?_)
      · rw [if_pos hb5] at hm
        cases hm
        exact is_vret (pc := 51) X dX1_note_51
      · rw [if_neg hb5] at hm
        refine iv_iload_n (pc := 33) X dX1_note_33 rfl ?_
        refine iv_aload_n (pc := 34) X dX1_note_34 rfl ?_
        refine gF_X1_7_5 (pc := 35) X dX1_note_35 (x := S.1 5 0) rfl ?_
        refine iv_icmp_ge (pc := 38) X dX1_note_38 (tgt := 51) rfl (fun hb6 => ?_) (fun hb6 => ?_)
        · rw [if_pos hb6] at hm
          cases hm
          exact is_vret (pc := 51) X dX1_note_51
        · rw [if_neg hb6] at hm
          refine iv_aload_n (pc := 41) X dX1_note_41 rfl ?_
          refine iv_iload_n (pc := 42) X dX1_note_42 rfl ?_
          refine pF_X1_7_5 (pc := 43) X dX1_note_43 ?_
          refine iv_aload_n (pc := 46) X dX1_note_46 rfl ?_
          refine iv_iload_n (pc := 47) X dX1_note_47 rfl ?_
          refine pF_X1_13_5 (pc := 48) X dX1_note_48 ?_
          cases hm
          exact is_vret (pc := 51) X dX1_note_51
    · rw [if_neg hb3] at hm
      refine iv_iconst (pc := 15) X dX1_note_15 ic_1 ?_
      refine iv_goto (pc := 16) X dX1_note_16 (tgt := 20) rfl ?_
      refine iv_istore_n (pc := 20) X dX1_note_20 (by decide) (lv' := [(3, .int 1), (0, .ref (ad 5)), (1, .int x1), (2, .int x2)]) rfl ?_
      refine iv_iload_n (pc := 21) X dX1_note_21 rfl ?_
      refine iv_if_ne (pc := 22) X dX1_note_22 (tgt := 41) rfl (fun _ => ?_) (fun hb => absurd (by decide) hb)
      refine iv_aload_n (pc := 41) X dX1_note_41 rfl ?_
      refine iv_iload_n (pc := 42) X dX1_note_42 rfl ?_
      refine pF_X1_7_5 (pc := 43) X dX1_note_43 ?_
      refine iv_aload_n (pc := 46) X dX1_note_46 rfl ?_
      refine iv_iload_n (pc := 47) X dX1_note_47 rfl ?_
      refine pF_X1_13_5 (pc := 48) X dX1_note_48 ?_
      cases hm
      exact is_vret (pc := 51) X dX1_note_51
def f_X4_clear (S : im_S) : Option (Unit × im_S) := some ((), (uI (uI (uI S 22 3 0) 22 6 0) 22 9 0))
set_option maxHeartbeats 4000000 in
set_option maxRecDepth 100000 in
theorem f_X4_clear_e (l : Launch) (g : im_G) (ad : Nat → Nat) (S : im_S) (r : Unit) (S' : im_S) (hm : f_X4_clear  S = some (r, S')) : im_E l g ad 0 yX4_clear cX4_clear 1 none [.ref (ad 22)] S none S' := by
  unfold f_X4_clear at hm
  refine is_met (own := RX4) (by decide +kernel) rfl (Nat.le_of_ble_eq_true rfl) (fun p e s m below meth c X => ?_)
  refine iv_aload_n (pc := 0) X dX4_clear_0 rfl ?_
  refine iv_iconst (pc := 1) X dX4_clear_1 ic_0 ?_
  refine pF_X4_34_22 (pc := 2) X dX4_clear_2 ?_
  refine iv_aload_n (pc := 5) X dX4_clear_5 rfl ?_
  refine iv_iconst (pc := 6) X dX4_clear_6 ic_0 ?_
  refine pF_X4_38_22 (pc := 7) X dX4_clear_7 ?_
  refine iv_aload_n (pc := 10) X dX4_clear_10 rfl ?_
  refine iv_iconst (pc := 11) X dX4_clear_11 ic_0 ?_
  refine pF_X4_41_22 (pc := 12) X dX4_clear_12 ?_
  cases hm
  exact is_vret (pc := 15) X dX4_clear_15
def f_X4_addTemplate (x1 : Int32) (S : im_S) : Option (Int32 × im_S) := gd (in_b (S.1 22 9) 512) (gd (in_b (S.1 22 9) 512) (some (((S.1 22 9) + 1) - 1, (uI (uI (uI S 28 ((S.1 22 9).toNatClampNeg) 0) 29 ((S.1 22 9).toNatClampNeg) x1) 22 9 ((S.1 22 9) + 1)))))
set_option maxHeartbeats 4000000 in
set_option maxRecDepth 100000 in
theorem f_X4_addTemplate_e (l : Launch) (g : im_G) (ad : Nat → Nat) (x1 : Int32) (S : im_S) (r : Int32) (S' : im_S) (hm : f_X4_addTemplate x1 S = some (r, S')) : im_E l g ad 0 yX4_addTemplate cX4_addTemplate 2 (some Jvm.ClassFile.FieldType.int) [.ref (ad 22), .int x1] S (some (.int r)) S' := by
  unfold f_X4_addTemplate at hm
  refine is_met (own := RX4) (by decide +kernel) rfl (Nat.le_of_ble_eq_true rfl) (fun p e s m below meth c X => ?_)
  refine iv_aload_n (pc := 0) X dX4_addTemplate_0 rfl ?_
  refine gF_X4_28_22 (pc := 1) X dX4_addTemplate_1 ?_
  refine iv_aload_n (pc := 4) X dX4_addTemplate_4 rfl ?_
  refine gF_X4_41_22 (pc := 5) X dX4_addTemplate_5 (x := S.1 22 9) rfl ?_
  refine iv_iconst (pc := 8) X dX4_addTemplate_8 ic_0 ?_
  obtain ⟨hg, hm⟩ := gd_some hm
  refine aS_28 (pc := 9) X dX4_addTemplate_9 hg ?_
  refine iv_aload_n (pc := 10) X dX4_addTemplate_10 rfl ?_
  refine gF_X4_31_22 (pc := 11) X dX4_addTemplate_11 ?_
  refine iv_aload_n (pc := 14) X dX4_addTemplate_14 rfl ?_
  refine gF_X4_41_22 (pc := 15) X dX4_addTemplate_15 (x := S.1 22 9) rfl ?_
  refine iv_iload_n (pc := 18) X dX4_addTemplate_18 rfl ?_
  obtain ⟨hg, hm⟩ := gd_some hm
  refine aS_29 (pc := 19) X dX4_addTemplate_19 hg ?_
  refine iv_aload_n (pc := 20) X dX4_addTemplate_20 rfl ?_
  refine iv_dup (pc := 21) X dX4_addTemplate_21 rfl ?_
  refine gF_X4_41_22 (pc := 22) X dX4_addTemplate_22 (x := S.1 22 9) rfl ?_
  refine iv_iconst (pc := 25) X dX4_addTemplate_25 ic_1 ?_
  refine iv_iadd (pc := 26) X dX4_addTemplate_26 ?_
  refine pF_X4_41_22 (pc := 27) X dX4_addTemplate_27 ?_
  refine iv_aload_n (pc := 30) X dX4_addTemplate_30 rfl ?_
  refine gF_X4_41_22 (pc := 31) X dX4_addTemplate_31 (x := (S.1 22 9) + 1) rfl ?_
  refine iv_iconst (pc := 34) X dX4_addTemplate_34 ic_1 ?_
  refine iv_isub (pc := 35) X dX4_addTemplate_35 ?_
  cases hm
  exact is_iret (pc := 36) X dX4_addTemplate_36
def f_X4_addRegion (x1 : Int32) (S : im_S) : Option (Int32 × im_S) := gd (in_b (S.1 22 6) 512) (gd (in_b (S.1 22 6) 512) (some (((S.1 22 6) + 1) - 1, (uI (uI (uI S 26 ((S.1 22 6).toNatClampNeg) (-1)) 27 ((S.1 22 6).toNatClampNeg) x1) 22 6 ((S.1 22 6) + 1)))))
set_option maxHeartbeats 4000000 in
set_option maxRecDepth 100000 in
theorem f_X4_addRegion_e (l : Launch) (g : im_G) (ad : Nat → Nat) (x1 : Int32) (S : im_S) (r : Int32) (S' : im_S) (hm : f_X4_addRegion x1 S = some (r, S')) : im_E l g ad 0 yX4_addRegion cX4_addRegion 2 (some Jvm.ClassFile.FieldType.int) [.ref (ad 22), .int x1] S (some (.int r)) S' := by
  unfold f_X4_addRegion at hm
  refine is_met (own := RX4) (by decide +kernel) rfl (Nat.le_of_ble_eq_true rfl) (fun p e s m below meth c X => ?_)
  refine iv_aload_n (pc := 0) X dX4_addRegion_0 rfl ?_
  refine gF_X4_22_22 (pc := 1) X dX4_addRegion_1 ?_
  refine iv_aload_n (pc := 4) X dX4_addRegion_4 rfl ?_
  refine gF_X4_38_22 (pc := 5) X dX4_addRegion_5 (x := S.1 22 6) rfl ?_
  refine iv_iconst (pc := 8) X dX4_addRegion_8 ic_m1 ?_
  obtain ⟨hg, hm⟩ := gd_some hm
  refine aS_26 (pc := 9) X dX4_addRegion_9 hg ?_
  refine iv_aload_n (pc := 10) X dX4_addRegion_10 rfl ?_
  refine gF_X4_25_22 (pc := 11) X dX4_addRegion_11 ?_
  refine iv_aload_n (pc := 14) X dX4_addRegion_14 rfl ?_
  refine gF_X4_38_22 (pc := 15) X dX4_addRegion_15 (x := S.1 22 6) rfl ?_
  refine iv_iload_n (pc := 18) X dX4_addRegion_18 rfl ?_
  obtain ⟨hg, hm⟩ := gd_some hm
  refine aS_27 (pc := 19) X dX4_addRegion_19 hg ?_
  refine iv_aload_n (pc := 20) X dX4_addRegion_20 rfl ?_
  refine iv_dup (pc := 21) X dX4_addRegion_21 rfl ?_
  refine gF_X4_38_22 (pc := 22) X dX4_addRegion_22 (x := S.1 22 6) rfl ?_
  refine iv_iconst (pc := 25) X dX4_addRegion_25 ic_1 ?_
  refine iv_iadd (pc := 26) X dX4_addRegion_26 ?_
  refine pF_X4_38_22 (pc := 27) X dX4_addRegion_27 ?_
  refine iv_aload_n (pc := 30) X dX4_addRegion_30 rfl ?_
  refine gF_X4_38_22 (pc := 31) X dX4_addRegion_31 (x := (S.1 22 6) + 1) rfl ?_
  refine iv_iconst (pc := 34) X dX4_addRegion_34 ic_1 ?_
  refine iv_isub (pc := 35) X dX4_addRegion_35 ?_
  cases hm
  exact is_iret (pc := 36) X dX4_addRegion_36
def f_X4_addFunction (x1 : Int64) (S : im_S) : Option (Int32 × im_S) := gd (in_b (S.1 22 3) 8) ((f_X4_addTemplate 0 (uJ S 23 ((S.1 22 3).toNatClampNeg) x1)).bind (fun qS1 => (f_X4_addRegion qS1.1 qS1.2).bind (fun qS4 => gd (in_b (S.1 22 3) 8) (gd (in_b (qS4.2.1 22 3) 8) (some (((qS4.2.1 22 3) + 1) - 1, (uI (uI (uI qS4.2 24 ((S.1 22 3).toNatClampNeg) qS4.1) 25 ((qS4.2.1 22 3).toNatClampNeg) (-1)) 22 3 ((qS4.2.1 22 3) + 1))))))))
set_option maxHeartbeats 4000000 in
set_option maxRecDepth 100000 in
theorem f_X4_addFunction_e (l : Launch) (g : im_G) (ad : Nat → Nat) (x1 : Int64) (S : im_S) (r : Int32) (S' : im_S) (hm : f_X4_addFunction x1 S = some (r, S')) : im_E l g ad 1 yX4_addFunction cX4_addFunction 3 (some Jvm.ClassFile.FieldType.int) [.ref (ad 22), .long x1] S (some (.int r)) S' := by
  unfold f_X4_addFunction at hm
  refine is_met (own := RX4) (by decide +kernel) rfl (Nat.le_of_ble_eq_true rfl) (fun p e s m below meth c X => ?_)
  refine iv_aload_n (pc := 0) X dX4_addFunction_0 rfl ?_
  refine gF_X4_9_22 (pc := 1) X dX4_addFunction_1 ?_
  refine iv_aload_n (pc := 4) X dX4_addFunction_4 rfl ?_
  refine gF_X4_34_22 (pc := 5) X dX4_addFunction_5 (x := S.1 22 3) rfl ?_
  refine iv_lload_n (pc := 8) X dX4_addFunction_8 rfl ?_
  obtain ⟨hg, hm⟩ := gd_some hm
  refine aS_23 (pc := 9) X dX4_addFunction_9 hg ?_
  refine iv_aload_n (pc := 10) X dX4_addFunction_10 rfl ?_
  refine gF_X4_15_22 (pc := 11) X dX4_addFunction_11 ?_
  refine iv_aload_n (pc := 14) X dX4_addFunction_14 rfl ?_
  refine gF_X4_34_22 (pc := 15) X dX4_addFunction_15 (x := S.1 22 3) rfl ?_
  refine iv_aload_n (pc := 18) X dX4_addFunction_18 rfl ?_
  refine iv_aload_n (pc := 19) X dX4_addFunction_19 rfl ?_
  refine iv_iconst (pc := 20) X dX4_addFunction_20 ic_0 ?_
  obtain ⟨⟨r2, S1⟩, hc3, hm⟩ := bd_some hm
  refine cV_X4_44_22 (pc := 21) X [.int 0] [.ref (ad 22), .int (S.1 22 3), .ref (ad 24)] 1 rfl (f_X4_addTemplate_e l g ad 0 (uJ S 23 ((S.1 22 3).toNatClampNeg) x1) _ _ hc3) (by decide) (by decide) (Nat.le_of_ble_eq_true rfl) rfl dX4_addFunction_21 ?_
  obtain ⟨⟨r5, S4⟩, hc6, hm⟩ := bd_some hm
  refine cV_X4_48_22 (pc := 24) X [.int r2] [.int (S.1 22 3), .ref (ad 24)] 1 rfl (f_X4_addRegion_e l g ad r2 S1 _ _ hc6) (by decide) (by decide) (Nat.le_of_ble_eq_true rfl) rfl dX4_addFunction_24 ?_
  obtain ⟨hg, hm⟩ := gd_some hm
  refine aS_24 (pc := 27) X dX4_addFunction_27 hg ?_
  refine iv_aload_n (pc := 28) X dX4_addFunction_28 rfl ?_
  refine gF_X4_19_22 (pc := 29) X dX4_addFunction_29 ?_
  refine iv_aload_n (pc := 32) X dX4_addFunction_32 rfl ?_
  refine gF_X4_34_22 (pc := 33) X dX4_addFunction_33 (x := S4.1 22 3) rfl ?_
  refine iv_iconst (pc := 36) X dX4_addFunction_36 ic_m1 ?_
  obtain ⟨hg, hm⟩ := gd_some hm
  refine aS_25 (pc := 37) X dX4_addFunction_37 hg ?_
  refine iv_aload_n (pc := 38) X dX4_addFunction_38 rfl ?_
  refine iv_dup (pc := 39) X dX4_addFunction_39 rfl ?_
  refine gF_X4_34_22 (pc := 40) X dX4_addFunction_40 (x := S4.1 22 3) rfl ?_
  refine iv_iconst (pc := 43) X dX4_addFunction_43 ic_1 ?_
  refine iv_iadd (pc := 44) X dX4_addFunction_44 ?_
  refine pF_X4_34_22 (pc := 45) X dX4_addFunction_45 ?_
  refine iv_aload_n (pc := 48) X dX4_addFunction_48 rfl ?_
  refine gF_X4_34_22 (pc := 49) X dX4_addFunction_49 (x := (S4.1 22 3) + 1) rfl ?_
  refine iv_iconst (pc := 52) X dX4_addFunction_52 ic_1 ?_
  refine iv_isub (pc := 53) X dX4_addFunction_53 ?_
  cases hm
  exact is_iret (pc := 54) X dX4_addFunction_54
def f_X4_findFunction_L2 (fu : Nat) : Nat → Int64 → Int32 → im_S → Option (Int32 × im_S)
  | 0, _, _, _ => none
  | nf + 1, z1, z3, S => if (S.1 22 3 : Int32) ≤ z3 then (some ((-1), S)) else (gd (in_b z3 8) (if (lg_cmp ((S.2.1 23) z3.toNatClampNeg) z1 : Int32) ≠ 0 then (f_X4_findFunction_L2 fu nf z1 (z3 + 1) S) else (some (z3, S))))
set_option maxHeartbeats 4000000 in
set_option maxRecDepth 100000 in
theorem f_X4_findFunction_L2_w {fu : Nat} (l : Launch) (g : im_G) (ad : Nat → Nat) {p : Program} {e : Env} {s : State} {m : MethodId} {below : List Frame} {meth : Method} {c : Code} {args : Array Value} (X : im_X p l s m args meth c g cX4_findFunction 4 RX4 (some Jvm.ClassFile.FieldType.int)) : ∀ (nf : Nat) (z1 : Int64) (z3 : Int32) (S : im_S) (r : Int32) (S' : im_S), f_X4_findFunction_L2 fu nf z1 z3 S = some (r, S') → im_V p l e (im_R 0 0 0) s m args below meth c g 4 (im_Z below g ad args s (some (.int r)) S') ad im_N (im_cn g ad S) 0 0 2 [(0, .ref (ad 22)), (1, .long z1), (3, .int z3)] [] := by
  intro nf
  induction nf with
  | zero =>
    intro z1 z3 S r S' hm
    cases hm
  | succ nf ih =>
    intro z1 z3 S r S' hm
    unfold f_X4_findFunction_L2 at hm
    refine iv_iload_n (pc := 2) X dX4_findFunction_2 rfl ?_
    refine iv_aload_n (pc := 3) X dX4_findFunction_3 rfl ?_
    refine gF_X4_34_22 (pc := 4) X dX4_findFunction_4 (x := S.1 22 3) rfl ?_
    refine iv_icmp_ge (pc := 7) X dX4_findFunction_7 (tgt := 29) rfl (fun hb1 => ?_) (fun hb1 => ?_)
    · rw [if_pos hb1] at hm
      refine iv_iconst (pc := 29) X dX4_findFunction_29 ic_m1 ?_
      cases hm
      exact is_iret (pc := 30) X dX4_findFunction_30
    · rw [if_neg hb1] at hm
      refine iv_aload_n (pc := 10) X dX4_findFunction_10 rfl ?_
      refine gF_X4_9_22 (pc := 11) X dX4_findFunction_11 ?_
      refine iv_iload_n (pc := 14) X dX4_findFunction_14 rfl ?_
      obtain ⟨hg, hm⟩ := gd_some hm
      refine aL_23 (pc := 15) X dX4_findFunction_15 hg (x := (S.2.1 23) z3.toNatClampNeg) rfl ?_
      refine iv_lload_n (pc := 16) X dX4_findFunction_16 rfl ?_
      refine iv_lcmp (pc := 17) X dX4_findFunction_17 ?_
      refine iv_if_ne (pc := 18) X dX4_findFunction_18 (tgt := 23) rfl (fun hb2 => ?_) (fun hb2 => ?_)
      · rw [if_pos hb2] at hm
        refine iv_iinc (pc := 23) X dX4_findFunction_23 rfl (by decide) (v := z3 + 1) rfl (lv' := [(3, .int (z3 + 1)), (0, .ref (ad 22)), (1, .long z1)]) rfl ?_
        refine iv_goto (pc := 26) X dX4_findFunction_26 (tgt := 2) rfl ?_
        refine iv_sub [1, 2, 0] (lv2 := [(0, .ref (ad 22)), (1, .long z1), (3, .int (z3 + 1))]) rfl ?_
        exact ih z1 (z3 + 1) S _ _ hm
      · rw [if_neg hb2] at hm
        refine iv_iload_n (pc := 21) X dX4_findFunction_21 rfl ?_
        cases hm
        exact is_iret (pc := 22) X dX4_findFunction_22
def f_X4_findFunction (fu : Nat) (x1 : Int64) (S : im_S) : Option (Int32 × im_S) := f_X4_findFunction_L2 fu fu x1 0 S
set_option maxHeartbeats 4000000 in
set_option maxRecDepth 100000 in
theorem f_X4_findFunction_e (l : Launch) (g : im_G) (ad : Nat → Nat) (fu : Nat) (x1 : Int64) (S : im_S) (r : Int32) (S' : im_S) (hm : f_X4_findFunction fu x1 S = some (r, S')) : im_E l g ad 0 yX4_findFunction cX4_findFunction 4 (some Jvm.ClassFile.FieldType.int) [.ref (ad 22), .long x1] S (some (.int r)) S' := by
  unfold f_X4_findFunction at hm
  refine is_met (own := RX4) (by decide +kernel) rfl (Nat.le_of_ble_eq_true rfl) (fun p e s m below meth c X => ?_)
  refine iv_iconst (pc := 0) X dX4_findFunction_0 ic_0 ?_
  refine iv_istore_n (pc := 1) X dX4_findFunction_1 (by decide) (lv' := [(3, .int 0), (0, .ref (ad 22)), (1, .long x1)]) rfl ?_
  refine iv_sub [1, 2, 0] (lv2 := [(0, .ref (ad 22)), (1, .long x1), (3, .int 0)]) rfl ?_
  exact f_X4_findFunction_L2_w (fu := fu) l g ad X fu x1 0 S _ _ hm
def f_X6_push (x1 : Int32) (x2 : Int32) (x3 : Int32) (S : im_S) : Option (Unit × im_S) := gd (in_b (S.1 34 3) 512) (gd (in_b (S.1 34 3) 512) (gd (in_b (S.1 34 3) 512) (some ((), (uI (uI (uI (uI S 35 ((S.1 34 3).toNatClampNeg) x1) 36 ((S.1 34 3).toNatClampNeg) x2) 37 ((S.1 34 3).toNatClampNeg) x3) 34 3 ((S.1 34 3) + 1))))))
set_option maxHeartbeats 4000000 in
set_option maxRecDepth 100000 in
theorem f_X6_push_e (l : Launch) (g : im_G) (ad : Nat → Nat) (x1 : Int32) (x2 : Int32) (x3 : Int32) (S : im_S) (r : Unit) (S' : im_S) (hm : f_X6_push x1 x2 x3 S = some (r, S')) : im_E l g ad 0 yX6_push cX6_push 4 none [.ref (ad 34), .int x1, .int x2, .int x3] S none S' := by
  unfold f_X6_push at hm
  refine is_met (own := RX6) (by decide +kernel) rfl (Nat.le_of_ble_eq_true rfl) (fun p e s m below meth c X => ?_)
  refine iv_aload_n (pc := 0) X dX6_push_0 rfl ?_
  refine gF_X6_9_34 (pc := 1) X dX6_push_1 ?_
  refine iv_aload_n (pc := 4) X dX6_push_4 rfl ?_
  refine gF_X6_21_34 (pc := 5) X dX6_push_5 (x := S.1 34 3) rfl ?_
  refine iv_iload_n (pc := 8) X dX6_push_8 rfl ?_
  obtain ⟨hg, hm⟩ := gd_some hm
  refine aS_35 (pc := 9) X dX6_push_9 hg ?_
  refine iv_aload_n (pc := 10) X dX6_push_10 rfl ?_
  refine gF_X6_15_34 (pc := 11) X dX6_push_11 ?_
  refine iv_aload_n (pc := 14) X dX6_push_14 rfl ?_
  refine gF_X6_21_34 (pc := 15) X dX6_push_15 (x := S.1 34 3) rfl ?_
  refine iv_iload_n (pc := 18) X dX6_push_18 rfl ?_
  obtain ⟨hg, hm⟩ := gd_some hm
  refine aS_36 (pc := 19) X dX6_push_19 hg ?_
  refine iv_aload_n (pc := 20) X dX6_push_20 rfl ?_
  refine gF_X6_18_34 (pc := 21) X dX6_push_21 ?_
  refine iv_aload_n (pc := 24) X dX6_push_24 rfl ?_
  refine gF_X6_21_34 (pc := 25) X dX6_push_25 (x := S.1 34 3) rfl ?_
  refine iv_iload_n (pc := 28) X dX6_push_28 rfl ?_
  obtain ⟨hg, hm⟩ := gd_some hm
  refine aS_37 (pc := 29) X dX6_push_29 hg ?_
  refine iv_aload_n (pc := 30) X dX6_push_30 rfl ?_
  refine iv_dup (pc := 31) X dX6_push_31 rfl ?_
  refine gF_X6_21_34 (pc := 32) X dX6_push_32 (x := S.1 34 3) rfl ?_
  refine iv_iconst (pc := 35) X dX6_push_35 ic_1 ?_
  refine iv_iadd (pc := 36) X dX6_push_36 ?_
  refine pF_X6_21_34 (pc := 37) X dX6_push_37 ?_
  cases hm
  exact is_vret (pc := 40) X dX6_push_40
def f_X6_pop (S : im_S) : Option (Int32 × im_S) := gd (in_b ((S.1 34 3) - 1) 512) (some ((S.1 36) (((S.1 34 3) - 1).toNatClampNeg), (uI S 34 3 ((S.1 34 3) - 1))))
set_option maxHeartbeats 4000000 in
set_option maxRecDepth 100000 in
theorem f_X6_pop_e (l : Launch) (g : im_G) (ad : Nat → Nat) (S : im_S) (r : Int32) (S' : im_S) (hm : f_X6_pop  S = some (r, S')) : im_E l g ad 0 yX6_pop cX6_pop 1 (some Jvm.ClassFile.FieldType.int) [.ref (ad 34)] S (some (.int r)) S' := by
  unfold f_X6_pop at hm
  refine is_met (own := RX6) (by decide +kernel) rfl (Nat.le_of_ble_eq_true rfl) (fun p e s m below meth c X => ?_)
  refine iv_aload_n (pc := 0) X dX6_pop_0 rfl ?_
  refine iv_dup (pc := 1) X dX6_pop_1 rfl ?_
  refine gF_X6_21_34 (pc := 2) X dX6_pop_2 (x := S.1 34 3) rfl ?_
  refine iv_iconst (pc := 5) X dX6_pop_5 ic_1 ?_
  refine iv_isub (pc := 6) X dX6_pop_6 ?_
  refine pF_X6_21_34 (pc := 7) X dX6_pop_7 ?_
  refine iv_aload_n (pc := 10) X dX6_pop_10 rfl ?_
  refine gF_X6_15_34 (pc := 11) X dX6_pop_11 ?_
  refine iv_aload_n (pc := 14) X dX6_pop_14 rfl ?_
  refine gF_X6_21_34 (pc := 15) X dX6_pop_15 (x := (S.1 34 3) - 1) rfl ?_
  obtain ⟨hg, hm⟩ := gd_some hm
  refine aL_36 (pc := 18) X dX6_pop_18 hg (x := (S.1 36) (((S.1 34 3) - 1).toNatClampNeg)) rfl ?_
  cases hm
  exact is_iret (pc := 19) X dX6_pop_19
def f_X6_topKind (S : im_S) : Option (Int32 × im_S) := if (S.1 34 3 : Int32) ≠ 0 then (gd (in_b ((S.1 34 3) - 1) 512) (some ((S.1 35) (((S.1 34 3) - 1).toNatClampNeg), S))) else (some (0, S))
set_option maxHeartbeats 4000000 in
set_option maxRecDepth 100000 in
theorem f_X6_topKind_e (l : Launch) (g : im_G) (ad : Nat → Nat) (S : im_S) (r : Int32) (S' : im_S) (hm : f_X6_topKind  S = some (r, S')) : im_E l g ad 0 yX6_topKind cX6_topKind 1 (some Jvm.ClassFile.FieldType.int) [.ref (ad 34)] S (some (.int r)) S' := by
  unfold f_X6_topKind at hm
  refine is_met (own := RX6) (by decide +kernel) rfl (Nat.le_of_ble_eq_true rfl) (fun p e s m below meth c X => ?_)
  refine iv_aload_n (pc := 0) X dX6_topKind_0 rfl ?_
  refine gF_X6_21_34 (pc := 1) X dX6_topKind_1 (x := S.1 34 3) rfl ?_
  refine iv_if_ne (pc := 4) X dX6_topKind_4 (tgt := 11) rfl (fun hb1 => ?_) (fun hb1 => ?_)
  · rw [if_pos hb1] at hm
    refine iv_aload_n (pc := 11) X dX6_topKind_11 rfl ?_
    refine gF_X6_9_34 (pc := 12) X dX6_topKind_12 ?_
    refine iv_aload_n (pc := 15) X dX6_topKind_15 rfl ?_
    refine gF_X6_21_34 (pc := 16) X dX6_topKind_16 (x := S.1 34 3) rfl ?_
    refine iv_iconst (pc := 19) X dX6_topKind_19 ic_1 ?_
    refine iv_isub (pc := 20) X dX6_topKind_20 ?_
    obtain ⟨hg, hm⟩ := gd_some hm
    refine aL_35 (pc := 21) X dX6_topKind_21 hg (x := (S.1 35) (((S.1 34 3) - 1).toNatClampNeg)) rfl ?_
    cases hm
    exact is_iret (pc := 22) X dX6_topKind_22
  · rw [if_neg hb1] at hm
    refine iv_iconst (pc := 7) X dX6_topKind_7 ic_0 ?_
    refine iv_goto (pc := 8) X dX6_topKind_8 (tgt := 22) rfl ?_
    cases hm
    exact is_iret (pc := 22) X dX6_topKind_22
def f_X6_topNode (S : im_S) : Option (Int32 × im_S) := if (S.1 34 3 : Int32) ≠ 0 then (gd (in_b ((S.1 34 3) - 1) 512) (some ((S.1 36) (((S.1 34 3) - 1).toNatClampNeg), S))) else (some ((-1), S))
set_option maxHeartbeats 4000000 in
set_option maxRecDepth 100000 in
theorem f_X6_topNode_e (l : Launch) (g : im_G) (ad : Nat → Nat) (S : im_S) (r : Int32) (S' : im_S) (hm : f_X6_topNode  S = some (r, S')) : im_E l g ad 0 yX6_topNode cX6_topNode 1 (some Jvm.ClassFile.FieldType.int) [.ref (ad 34)] S (some (.int r)) S' := by
  unfold f_X6_topNode at hm
  refine is_met (own := RX6) (by decide +kernel) rfl (Nat.le_of_ble_eq_true rfl) (fun p e s m below meth c X => ?_)
  refine iv_aload_n (pc := 0) X dX6_topNode_0 rfl ?_
  refine gF_X6_21_34 (pc := 1) X dX6_topNode_1 (x := S.1 34 3) rfl ?_
  refine iv_if_ne (pc := 4) X dX6_topNode_4 (tgt := 11) rfl (fun hb1 => ?_) (fun hb1 => ?_)
  · rw [if_pos hb1] at hm
    refine iv_aload_n (pc := 11) X dX6_topNode_11 rfl ?_
    refine gF_X6_15_34 (pc := 12) X dX6_topNode_12 ?_
    refine iv_aload_n (pc := 15) X dX6_topNode_15 rfl ?_
    refine gF_X6_21_34 (pc := 16) X dX6_topNode_16 (x := S.1 34 3) rfl ?_
    refine iv_iconst (pc := 19) X dX6_topNode_19 ic_1 ?_
    refine iv_isub (pc := 20) X dX6_topNode_20 ?_
    obtain ⟨hg, hm⟩ := gd_some hm
    refine aL_36 (pc := 21) X dX6_topNode_21 hg (x := (S.1 36) (((S.1 34 3) - 1).toNatClampNeg)) rfl ?_
    cases hm
    exact is_iret (pc := 22) X dX6_topNode_22
  · rw [if_neg hb1] at hm
    refine iv_iconst (pc := 7) X dX6_topNode_7 ic_m1 ?_
    refine iv_goto (pc := 8) X dX6_topNode_8 (tgt := 22) rfl ?_
    cases hm
    exact is_iret (pc := 22) X dX6_topNode_22
def f_X6_topRegion (S : im_S) : Option (Int32 × im_S) := if (S.1 34 3 : Int32) ≠ 0 then (gd (in_b ((S.1 34 3) - 1) 512) (some ((S.1 37) (((S.1 34 3) - 1).toNatClampNeg), S))) else (some ((-1), S))
set_option maxHeartbeats 4000000 in
set_option maxRecDepth 100000 in
theorem f_X6_topRegion_e (l : Launch) (g : im_G) (ad : Nat → Nat) (S : im_S) (r : Int32) (S' : im_S) (hm : f_X6_topRegion  S = some (r, S')) : im_E l g ad 0 yX6_topRegion cX6_topRegion 1 (some Jvm.ClassFile.FieldType.int) [.ref (ad 34)] S (some (.int r)) S' := by
  unfold f_X6_topRegion at hm
  refine is_met (own := RX6) (by decide +kernel) rfl (Nat.le_of_ble_eq_true rfl) (fun p e s m below meth c X => ?_)
  refine iv_aload_n (pc := 0) X dX6_topRegion_0 rfl ?_
  refine gF_X6_21_34 (pc := 1) X dX6_topRegion_1 (x := S.1 34 3) rfl ?_
  refine iv_if_ne (pc := 4) X dX6_topRegion_4 (tgt := 11) rfl (fun hb1 => ?_) (fun hb1 => ?_)
  · rw [if_pos hb1] at hm
    refine iv_aload_n (pc := 11) X dX6_topRegion_11 rfl ?_
    refine gF_X6_18_34 (pc := 12) X dX6_topRegion_12 ?_
    refine iv_aload_n (pc := 15) X dX6_topRegion_15 rfl ?_
    refine gF_X6_21_34 (pc := 16) X dX6_topRegion_16 (x := S.1 34 3) rfl ?_
    refine iv_iconst (pc := 19) X dX6_topRegion_19 ic_1 ?_
    refine iv_isub (pc := 20) X dX6_topRegion_20 ?_
    obtain ⟨hg, hm⟩ := gd_some hm
    refine aL_37 (pc := 21) X dX6_topRegion_21 hg (x := (S.1 37) (((S.1 34 3) - 1).toNatClampNeg)) rfl ?_
    cases hm
    exact is_iret (pc := 22) X dX6_topRegion_22
  · rw [if_neg hb1] at hm
    refine iv_iconst (pc := 7) X dX6_topRegion_7 ic_m1 ?_
    refine iv_goto (pc := 8) X dX6_topRegion_8 (tgt := 22) rfl ?_
    cases hm
    exact is_iret (pc := 22) X dX6_topRegion_22
def f_X6_topStrength (S : im_S) : Option (Int32 × im_S) := (f_X6_topKind S).bind (fun qS1 => if (6 : Int32) < qS1.1 then (some (0, qS1.2)) else ((f_X6_topKind qS1.2).bind (fun qS5 => some (qS5.1, qS5.2))))
set_option maxHeartbeats 4000000 in
set_option maxRecDepth 100000 in
theorem f_X6_topStrength_e (l : Launch) (g : im_G) (ad : Nat → Nat) (S : im_S) (r : Int32) (S' : im_S) (hm : f_X6_topStrength  S = some (r, S')) : im_E l g ad 1 yX6_topStrength cX6_topStrength 1 (some Jvm.ClassFile.FieldType.int) [.ref (ad 34)] S (some (.int r)) S' := by
  unfold f_X6_topStrength at hm
  refine is_met (own := RX6) (by decide +kernel) rfl (Nat.le_of_ble_eq_true rfl) (fun p e s m below meth c X => ?_)
  refine iv_aload_n (pc := 0) X dX6_topStrength_0 rfl ?_
  obtain ⟨⟨r2, S1⟩, hc3, hm⟩ := bd_some hm
  refine cV_X6_25_34 (pc := 1) X [] [] 0 rfl (f_X6_topKind_e l g ad  S _ _ hc3) (by decide) (by decide) (Nat.le_of_ble_eq_true rfl) rfl dX6_topStrength_1 ?_
  refine iv_bipush (pc := 4) X dX6_topStrength_4 bc_6 ?_
  refine iv_icmp_gt (pc := 6) X dX6_topStrength_6 (tgt := 16) rfl (fun hb4 => ?_) (fun hb4 => ?_)
  · rw [if_pos hb4] at hm
    refine iv_iconst (pc := 16) X dX6_topStrength_16 ic_0 ?_
    cases hm
    exact is_iret (pc := 17) X dX6_topStrength_17
  · rw [if_neg hb4] at hm
    refine iv_aload_n (pc := 9) X dX6_topStrength_9 rfl ?_
    obtain ⟨⟨r6, S5⟩, hc7, hm⟩ := bd_some hm
    refine cV_X6_25_34 (pc := 10) X [] [] 0 rfl (f_X6_topKind_e l g ad  S1 _ _ hc7) (by decide) (by decide) (Nat.le_of_ble_eq_true rfl) rfl dX6_topStrength_10 ?_
    refine iv_goto (pc := 13) X dX6_topStrength_13 (tgt := 17) rfl ?_
    cases hm
    exact is_iret (pc := 17) X dX6_topStrength_17
def f_X6_topEndsByItself (S : im_S) : Option (Int32 × im_S) := (f_X6_topKind S).bind (fun qS1 => if (qS1.1 : Int32) = 15 then (some (1, qS1.2)) else (if (qS1.1 : Int32) = 18 then (some (1, qS1.2)) else (if (qS1.1 : Int32) = 22 then (some (1, qS1.2)) else (if (qS1.1 : Int32) ≠ 24 then (some (0, qS1.2)) else (some (1, qS1.2))))))
set_option maxHeartbeats 4000000 in
set_option maxRecDepth 100000 in
theorem f_X6_topEndsByItself_e (l : Launch) (g : im_G) (ad : Nat → Nat) (S : im_S) (r : Int32) (S' : im_S) (hm : f_X6_topEndsByItself  S = some (r, S')) : im_E l g ad 1 yX6_topEndsByItself cX6_topEndsByItself 2 (some Jvm.ClassFile.FieldType.boolean) [.ref (ad 34)] S (some (.int r)) S' := by
  unfold f_X6_topEndsByItself at hm
  refine is_met (own := RX6) (by decide +kernel) rfl (Nat.le_of_ble_eq_true rfl) (fun p e s m below meth c X => ?_)
  refine iv_aload_n (pc := 0) X dX6_topEndsByItself_0 rfl ?_
  obtain ⟨⟨r2, S1⟩, hc3, hm⟩ := bd_some hm
  refine cV_X6_25_34 (pc := 1) X [] [] 0 rfl (f_X6_topKind_e l g ad  S _ _ hc3) (by decide) (by decide) (Nat.le_of_ble_eq_true rfl) rfl dX6_topEndsByItself_1 ?_
  refine iv_istore_n (pc := 4) X dX6_topEndsByItself_4 (by decide) (lv' := [(1, .int r2), (0, .ref (ad 34))]) rfl ?_
  refine iv_iload_n (pc := 5) X dX6_topEndsByItself_5 rfl ?_
  refine iv_bipush (pc := 6) X dX6_topEndsByItself_6 bc_15 ?_
  refine iv_icmp_eq (pc := 8) X dX6_topEndsByItself_8 (tgt := 29) rfl (fun hb4 => ?_) (fun hb4 => ?_)
  · rw [if_pos hb4] at hm
    refine iv_iconst (pc := 29) X dX6_topEndsByItself_29 ic_1 ?_
    refine iv_goto (pc := 30) X dX6_topEndsByItself_30 (tgt := 34) rfl ?_
    cases hm
    exact is_zret (pc := 34) X dX6_topEndsByItself_34 rfl
  · rw [if_neg hb4] at hm
    refine iv_iload_n (pc := 11) X dX6_topEndsByItself_11 rfl ?_
    refine iv_bipush (pc := 12) X dX6_topEndsByItself_12 bc_18 ?_
    refine iv_icmp_eq (pc := 14) X dX6_topEndsByItself_14 (tgt := 29) rfl (fun hb5 => ?_) (fun hb5 => ?_)
    · rw [if_pos hb5] at hm
      refine iv_iconst (pc := 29) X dX6_topEndsByItself_29 ic_1 ?_
      refine iv_goto (pc := 30) X dX6_topEndsByItself_30 (tgt := 34) rfl ?_
      cases hm
      exact is_zret (pc := 34) X dX6_topEndsByItself_34 rfl
    · rw [if_neg hb5] at hm
      refine iv_iload_n (pc := 17) X dX6_topEndsByItself_17 rfl ?_
      refine iv_bipush (pc := 18) X dX6_topEndsByItself_18 bc_22 ?_
      refine iv_icmp_eq (pc := 20) X dX6_topEndsByItself_20 (tgt := 29) rfl (fun hb6 => ?_) (fun hb6 => ?_)
      · rw [if_pos hb6] at hm
        refine iv_iconst (pc := 29) X dX6_topEndsByItself_29 ic_1 ?_
        refine iv_goto (pc := 30) X dX6_topEndsByItself_30 (tgt := 34) rfl ?_
        cases hm
        exact is_zret (pc := 34) X dX6_topEndsByItself_34 rfl
      · rw [if_neg hb6] at hm
        refine iv_iload_n (pc := 23) X dX6_topEndsByItself_23 rfl ?_
        refine iv_bipush (pc := 24) X dX6_topEndsByItself_24 bc_24 ?_
        refine iv_icmp_ne (pc := 26) X dX6_topEndsByItself_26 (tgt := 33) rfl (fun hb7 => ?_) (fun hb7 => ?_)
        · rw [if_pos hb7] at hm
          refine iv_iconst (pc := 33) X dX6_topEndsByItself_33 ic_0 ?_
          cases hm
          exact is_zret (pc := 34) X dX6_topEndsByItself_34 rfl
        · rw [if_neg hb7] at hm
          refine iv_iconst (pc := 29) X dX6_topEndsByItself_29 ic_1 ?_
          refine iv_goto (pc := 30) X dX6_topEndsByItself_30 (tgt := 34) rfl ?_
          cases hm
          exact is_zret (pc := 34) X dX6_topEndsByItself_34 rfl
def f_X6_strengthOf (x0 : Int32) (S : im_S) : Option (Int32 × im_S) := if x0 = (37 : Int32) then (some (5, S)) else (if x0 = (38 : Int32) then (some (2, S)) else (if x0 = (42 : Int32) then (some (5, S)) else (if x0 = (43 : Int32) then (some (4, S)) else (if x0 = (45 : Int32) then (some (4, S)) else (if x0 = (47 : Int32) then (some (5, S)) else (if x0 = (60 : Int32) then (some (3, S)) else (if x0 = (61 : Int32) then (some (3, S)) else (if x0 = (124 : Int32) then (some (1, S)) else (some (0, S))))))))))
set_option maxHeartbeats 4000000 in
set_option maxRecDepth 100000 in
theorem f_X6_strengthOf_e (l : Launch) (g : im_G) (ad : Nat → Nat) (x0 : Int32) (S : im_S) (r : Int32) (S' : im_S) (hm : f_X6_strengthOf x0 S = some (r, S')) : im_E l g ad 0 yX6_strengthOf cX6_strengthOf 1 (some Jvm.ClassFile.FieldType.int) [.int x0] S (some (.int r)) S' := by
  unfold f_X6_strengthOf at hm
  refine is_met (own := RX6) (by decide +kernel) rfl (Nat.le_of_ble_eq_true rfl) (fun p e s m below meth c X => ?_)
  refine iv_iload_n (pc := 0) X dX6_strengthOf_0 rfl ?_
  by_cases hb1 : x0 = (37 : Int32)
  · rw [if_pos hb1] at hm
    refine iv_lookup X dX6_strengthOf_1 (off := 91) (tgt := 92) (by decide) (by rw [hb1]; decide) (by decide) ?_
    refine iv_iconst (pc := 92) X dX6_strengthOf_92 ic_5 ?_
    cases hm
    exact is_iret (pc := 93) X dX6_strengthOf_93
  · rw [if_neg hb1] at hm
    by_cases hb2 : x0 = (38 : Int32)
    · rw [if_pos hb2] at hm
      refine iv_lookup X dX6_strengthOf_1 (off := 85) (tgt := 86) (by decide) (by rw [hb2]; decide) (by decide) ?_
      refine iv_iconst (pc := 86) X dX6_strengthOf_86 ic_2 ?_
      cases hm
      exact is_iret (pc := 87) X dX6_strengthOf_87
    · rw [if_neg hb2] at hm
      by_cases hb3 : x0 = (42 : Int32)
      · rw [if_pos hb3] at hm
        refine iv_lookup X dX6_strengthOf_1 (off := 91) (tgt := 92) (by decide) (by rw [hb3]; decide) (by decide) ?_
        refine iv_iconst (pc := 92) X dX6_strengthOf_92 ic_5 ?_
        cases hm
        exact is_iret (pc := 93) X dX6_strengthOf_93
      · rw [if_neg hb3] at hm
        by_cases hb4 : x0 = (43 : Int32)
        · rw [if_pos hb4] at hm
          refine iv_lookup X dX6_strengthOf_1 (off := 89) (tgt := 90) (by decide) (by rw [hb4]; decide) (by decide) ?_
          refine iv_iconst (pc := 90) X dX6_strengthOf_90 ic_4 ?_
          cases hm
          exact is_iret (pc := 91) X dX6_strengthOf_91
        · rw [if_neg hb4] at hm
          by_cases hb5 : x0 = (45 : Int32)
          · rw [if_pos hb5] at hm
            refine iv_lookup X dX6_strengthOf_1 (off := 89) (tgt := 90) (by decide) (by rw [hb5]; decide) (by decide) ?_
            refine iv_iconst (pc := 90) X dX6_strengthOf_90 ic_4 ?_
            cases hm
            exact is_iret (pc := 91) X dX6_strengthOf_91
          · rw [if_neg hb5] at hm
            by_cases hb6 : x0 = (47 : Int32)
            · rw [if_pos hb6] at hm
              refine iv_lookup X dX6_strengthOf_1 (off := 91) (tgt := 92) (by decide) (by rw [hb6]; decide) (by decide) ?_
              refine iv_iconst (pc := 92) X dX6_strengthOf_92 ic_5 ?_
              cases hm
              exact is_iret (pc := 93) X dX6_strengthOf_93
            · rw [if_neg hb6] at hm
              by_cases hb7 : x0 = (60 : Int32)
              · rw [if_pos hb7] at hm
                refine iv_lookup X dX6_strengthOf_1 (off := 87) (tgt := 88) (by decide) (by rw [hb7]; decide) (by decide) ?_
                refine iv_iconst (pc := 88) X dX6_strengthOf_88 ic_3 ?_
                cases hm
                exact is_iret (pc := 89) X dX6_strengthOf_89
              · rw [if_neg hb7] at hm
                by_cases hb8 : x0 = (61 : Int32)
                · rw [if_pos hb8] at hm
                  refine iv_lookup X dX6_strengthOf_1 (off := 87) (tgt := 88) (by decide) (by rw [hb8]; decide) (by decide) ?_
                  refine iv_iconst (pc := 88) X dX6_strengthOf_88 ic_3 ?_
                  cases hm
                  exact is_iret (pc := 89) X dX6_strengthOf_89
                · rw [if_neg hb8] at hm
                  by_cases hb9 : x0 = (124 : Int32)
                  · rw [if_pos hb9] at hm
                    refine iv_lookup X dX6_strengthOf_1 (off := 83) (tgt := 84) (by decide) (by rw [hb9]; decide) (by decide) ?_
                    refine iv_iconst (pc := 84) X dX6_strengthOf_84 ic_1 ?_
                    cases hm
                    exact is_iret (pc := 85) X dX6_strengthOf_85
                  · rw [if_neg hb9] at hm
                    have k0 := sw_ne hb1 (n := 37) (by decide)
                    have k1 := sw_ne hb2 (n := 38) (by decide)
                    have k2 := sw_ne hb3 (n := 42) (by decide)
                    have k3 := sw_ne hb4 (n := 43) (by decide)
                    have k4 := sw_ne hb5 (n := 45) (by decide)
                    have k5 := sw_ne hb6 (n := 47) (by decide)
                    have k6 := sw_ne hb7 (n := 60) (by decide)
                    have k7 := sw_ne hb8 (n := 61) (by decide)
                    have k8 := sw_ne hb9 (n := 124) (by decide)
                    refine iv_lookup X dX6_strengthOf_1 (off := 93) (tgt := 94) (by decide) (by simp [Op.lookupswitch.offset, k0, k0.symm, k1, k1.symm, k2, k2.symm, k3, k3.symm, k4, k4.symm, k5, k5.symm, k6, k6.symm, k7, k7.symm, k8, k8.symm]) (by decide) ?_
                    refine iv_iconst (pc := 94) X dX6_strengthOf_94 ic_0 ?_
                    cases hm
                    exact is_iret (pc := 95) X dX6_strengthOf_95
