/-! the constructors: written by program (wip/whole/mkctor.py) -/
/-- the links between nest mates, which the start gives -/
def im_nest (V : State) : Prop := va_Nw (.methodLinkNest RX10 19 yX7_init "TagFlow") V ∧ va_Nw (.methodLinkNest RX7 11 yX1_init "TagFlow") V ∧ va_Nw (.methodLinkNest RX7 20 yX3_init "TagFlow") V ∧ va_Nw (.methodLinkNest RX3 11 yX4_init "TagFlow") V ∧ va_Nw (.methodLinkNest RX7 27 yX9_init "TagFlow") V ∧ va_Nw (.methodLinkNest RX7 34 yX6_init "TagFlow") V ∧ va_Nw (.methodLinkNest RX10 26 yX5_init "TagFlow") V ∧ va_Nw (.methodLinkNest RX5 11 yX3_init "TagFlow") V ∧ va_Nw (.methodLinkNest RX5 20 yX8_init "TagFlow") V ∧ va_Nw (.methodLinkNest RX5 27 yX2_init "TagFlow") V ∧ va_Nw (.methodLinkNest RX5 34 yX0_init "TagFlow") V
theorem df_X0 : ∀ j, j < 4 → defaultValue (tyX0 j) = vp_V [.null, .null, .int 0, .int 0] j := by
  intro j hj
  match j, hj with
  | 0, _ => rfl
  | 1, _ => rfl
  | 2, _ => rfl
  | 3, _ => rfl
  | j + 4, h => exact absurd h (by omega)
theorem df_X1 : ∀ j, j < 2 → defaultValue (tyX1 j) = vp_V [.int 0, .int 0] j := by
  intro j hj
  match j, hj with
  | 0, _ => rfl
  | 1, _ => rfl
  | j + 2, h => exact absurd h (by omega)
theorem df_X2 : ∀ j, j < 5 → defaultValue (tyX2 j) = vp_V [.null, .null, .null, .null, .int 0] j := by
  intro j hj
  match j, hj with
  | 0, _ => rfl
  | 1, _ => rfl
  | 2, _ => rfl
  | 3, _ => rfl
  | 4, _ => rfl
  | j + 5, h => exact absurd h (by omega)
theorem df_X4 : ∀ j, j < 10 → defaultValue (tyX4 j) = vp_V [.null, .null, .null, .int 0, .null, .null, .int 0, .null, .null, .int 0] j := by
  intro j hj
  match j, hj with
  | 0, _ => rfl
  | 1, _ => rfl
  | 2, _ => rfl
  | 3, _ => rfl
  | 4, _ => rfl
  | 5, _ => rfl
  | 6, _ => rfl
  | 7, _ => rfl
  | 8, _ => rfl
  | 9, _ => rfl
  | j + 10, h => exact absurd h (by omega)
theorem df_X3 : ∀ j, j < 17 → defaultValue (tyX3 j) = vp_V [.null, .null, .null, .null, .null, .null, .null, .null, .null, .null, .null, .null, .null, .null, .null, .null, .int 0] j := by
  intro j hj
  match j, hj with
  | 0, _ => rfl
  | 1, _ => rfl
  | 2, _ => rfl
  | 3, _ => rfl
  | 4, _ => rfl
  | 5, _ => rfl
  | 6, _ => rfl
  | 7, _ => rfl
  | 8, _ => rfl
  | 9, _ => rfl
  | 10, _ => rfl
  | 11, _ => rfl
  | 12, _ => rfl
  | 13, _ => rfl
  | 14, _ => rfl
  | 15, _ => rfl
  | 16, _ => rfl
  | j + 17, h => exact absurd h (by omega)
theorem df_X6 : ∀ j, j < 4 → defaultValue (tyX6 j) = vp_V [.null, .null, .null, .int 0] j := by
  intro j hj
  match j, hj with
  | 0, _ => rfl
  | 1, _ => rfl
  | 2, _ => rfl
  | 3, _ => rfl
  | j + 4, h => exact absurd h (by omega)
theorem df_X9 : ∀ j, j < 4 → defaultValue (tyX9 j) = vp_V [.null, .null, .null, .int 0] j := by
  intro j hj
  match j, hj with
  | 0, _ => rfl
  | 1, _ => rfl
  | 2, _ => rfl
  | 3, _ => rfl
  | j + 4, h => exact absurd h (by omega)
theorem df_X8 : ∀ j, j < 3 → defaultValue (tyX8 j) = vp_V [.null, .null, .int 0] j := by
  intro j hj
  match j, hj with
  | 0, _ => rfl
  | 1, _ => rfl
  | 2, _ => rfl
  | j + 3, h => exact absurd h (by omega)
theorem df_X7 : ∀ j, j < 11 → defaultValue (tyX7 j) = vp_V [.null, .null, .null, .null, .null, .int 0, .int 0, .int 0, .int 0, .int 0, .int 0] j := by
  intro j hj
  match j, hj with
  | 0, _ => rfl
  | 1, _ => rfl
  | 2, _ => rfl
  | 3, _ => rfl
  | 4, _ => rfl
  | 5, _ => rfl
  | 6, _ => rfl
  | 7, _ => rfl
  | 8, _ => rfl
  | 9, _ => rfl
  | 10, _ => rfl
  | j + 11, h => exact absurd h (by omega)
theorem df_X5 : ∀ j, j < 16 → defaultValue (tyX5 j) = vp_V [.null, .null, .int 0, .int 0, .long 0, .null, .null, .null, .int 0, .int 0, .int 0, .int 0, .int 0, .int 0, .int 0, .long 0] j := by
  intro j hj
  match j, hj with
  | 0, _ => rfl
  | 1, _ => rfl
  | 2, _ => rfl
  | 3, _ => rfl
  | 4, _ => rfl
  | 5, _ => rfl
  | 6, _ => rfl
  | 7, _ => rfl
  | 8, _ => rfl
  | 9, _ => rfl
  | 10, _ => rfl
  | 11, _ => rfl
  | 12, _ => rfl
  | 13, _ => rfl
  | 14, _ => rfl
  | 15, _ => rfl
  | j + 16, h => exact absurd h (by omega)
theorem df_X10 : ∀ j, j < 7 → defaultValue (tyX10 j) = vp_V [.null, .null, .null, .null, .int 0, .int 0, .int 0] j := by
  intro j hj
  match j, hj with
  | 0, _ => rfl
  | 1, _ => rfl
  | 2, _ => rfl
  | 3, _ => rfl
  | 4, _ => rfl
  | 5, _ => rfl
  | 6, _ => rfl
  | j + 7, h => exact absurd h (by omega)
theorem df_X11 : ∀ j, j < 83 → defaultValue (tyX11 j) = vp_V [.int 0, .null, .int 0, .int 0, .int 0, .int 0, .null, .null, .null, .null, .int 0, .null, .null, .null, .null, .null, .null, .null, .null, .null, .null, .null, .null, .null, .null, .null, .int 0, .int 0, .null, .null, .null, .null, .null, .null, .null, .int 0, .int 0, .int 0, .null, .null, .int 0, .null, .null, .null, .null, .null, .null, .null, .null, .null, .null, .null, .int 0, .null, .null, .null, .null, .int 0, .null, .null, .null, .null, .null, .null, .int 0, .null, .null, .null, .int 0, .null, .null, .null, .int 0, .int 0, .int 0, .int 0, .int 0, .int 0, .int 0, .null, .null, .int 0, .long 0] j := by
  intro j hj
  match j, hj with
  | 0, _ => rfl
  | 1, _ => rfl
  | 2, _ => rfl
  | 3, _ => rfl
  | 4, _ => rfl
  | 5, _ => rfl
  | 6, _ => rfl
  | 7, _ => rfl
  | 8, _ => rfl
  | 9, _ => rfl
  | 10, _ => rfl
  | 11, _ => rfl
  | 12, _ => rfl
  | 13, _ => rfl
  | 14, _ => rfl
  | 15, _ => rfl
  | 16, _ => rfl
  | 17, _ => rfl
  | 18, _ => rfl
  | 19, _ => rfl
  | 20, _ => rfl
  | 21, _ => rfl
  | 22, _ => rfl
  | 23, _ => rfl
  | 24, _ => rfl
  | 25, _ => rfl
  | 26, _ => rfl
  | 27, _ => rfl
  | 28, _ => rfl
  | 29, _ => rfl
  | 30, _ => rfl
  | 31, _ => rfl
  | 32, _ => rfl
  | 33, _ => rfl
  | 34, _ => rfl
  | 35, _ => rfl
  | 36, _ => rfl
  | 37, _ => rfl
  | 38, _ => rfl
  | 39, _ => rfl
  | 40, _ => rfl
  | 41, _ => rfl
  | 42, _ => rfl
  | 43, _ => rfl
  | 44, _ => rfl
  | 45, _ => rfl
  | 46, _ => rfl
  | 47, _ => rfl
  | 48, _ => rfl
  | 49, _ => rfl
  | 50, _ => rfl
  | 51, _ => rfl
  | 52, _ => rfl
  | 53, _ => rfl
  | 54, _ => rfl
  | 55, _ => rfl
  | 56, _ => rfl
  | 57, _ => rfl
  | 58, _ => rfl
  | 59, _ => rfl
  | 60, _ => rfl
  | 61, _ => rfl
  | 62, _ => rfl
  | 63, _ => rfl
  | 64, _ => rfl
  | 65, _ => rfl
  | 66, _ => rfl
  | 67, _ => rfl
  | 68, _ => rfl
  | 69, _ => rfl
  | 70, _ => rfl
  | 71, _ => rfl
  | 72, _ => rfl
  | 73, _ => rfl
  | 74, _ => rfl
  | 75, _ => rfl
  | 76, _ => rfl
  | 77, _ => rfl
  | 78, _ => rfl
  | 79, _ => rfl
  | 80, _ => rfl
  | 81, _ => rfl
  | 82, _ => rfl
  | j + 83, h => exact absurd h (by omega)
theorem bc_64 : (Int8.ofInt (64)).toInt32 = (64 : Int32) := by decide
theorem sc_1001 : (Int16.ofInt (1001)).toInt32 = (1001 : Int32) := by decide
theorem sc_1002 : (Int16.ofInt (1002)).toInt32 = (1002 : Int32) := by decide
theorem sc_1024 : (Int16.ofInt (1024)).toInt32 = (1024 : Int32) := by decide
theorem sc_1200 : (Int16.ofInt (1200)).toInt32 = (1200 : Int32) := by decide
theorem sc_24000 : (Int16.ofInt (24000)).toInt32 = (24000 : Int32) := by decide
theorem sc_256 : (Int16.ofInt (256)).toInt32 = (256 : Int32) := by decide
theorem sc_260 : (Int16.ofInt (260)).toInt32 = (260 : Int32) := by decide
theorem sc_501 : (Int16.ofInt (501)).toInt32 = (501 : Int32) := by decide
theorem sc_502 : (Int16.ofInt (502)).toInt32 = (502 : Int32) := by decide
theorem sc_640 : (Int16.ofInt (640)).toInt32 = (640 : Int32) := by decide
def fs_X1 (q : Nat → Nat) : List Value := [.int 0, .int 0]
def al_X1c (q : Nat → Nat) : List Nat := []
def ct_X1 (g : im_G) (q : Nat → Nat) : List va_E := []
set_option maxHeartbeats 4000000 in
set_option maxRecDepth 100000 in
/-- X1() -/
theorem mk_X1 (l : Launch) (g : im_G) (hZ : ∀ V, g.2.2.2 V → im_nest V) : im_J l g 1 yX1_init cX1_init 0 0 3 [.int 0, .int 0] fs_X1 al_X1c (ct_X1 g) := by
  intro al0 ct0 a M hlen hM
  refine im_met (own := RX1) (by decide +kernel) rfl (Nat.le_of_ble_eq_true rfl) (fun p e s m below meth c X hin => ?_)
  refine ik_go hM ?_
  refine ik_aload_n (pc := 0) X dX1_init_0 rfl ?_
  refine ik_objInit (pc := 1) X wo_X1 dX1_init_1 (by decide) (Nat.le_of_ble_eq_true rfl) ?_
  exact ik_vret (pc := 4) X dX1_init_4 (fun M' h => ⟨rfl, (fun _ => 0), h⟩)
def fs_X4 (q : Nat → Nat) : List Value := [.ref (q 0), .ref (q 1), .ref (q 2), .int 0, .ref (q 3), .ref (q 4), .int 0, .ref (q 5), .ref (q 6), .int 0]
def al_X4c (q : Nat → Nat) : List Nat := [q 0, q 1, q 2, q 3, q 4, q 5, q 6]
def ct_X4_0 (g : im_G) (q : Nat → Nat) : List va_E := [.inl (g.2.1 2, 8, .inr (.inl (fun _ => 0))), .inl (g.2.1 1, 8, .inl (fun _ => 0)), .inl (g.2.1 1, 8, .inl (fun _ => 0)), .inl (g.2.1 1, 512, .inl (fun _ => 0)), .inl (g.2.1 1, 512, .inl (fun _ => 0)), .inl (g.2.1 1, 512, .inl (fun _ => 0)), .inl (g.2.1 1, 512, .inl (fun _ => 0))]
def ct_X4 (g : im_G) (q : Nat → Nat) : List va_E := ct_X4_0 g q
set_option maxHeartbeats 4000000 in
set_option maxRecDepth 100000 in
/-- X4() -/
theorem mk_X4 (l : Launch) (g : im_G) (hZ : ∀ V, g.2.2.2 V → im_nest V) : im_J l g 1 yX4_init cX4_init 7 2072 6 [.null, .null, .null, .int 0, .null, .null, .int 0, .null, .null, .int 0] fs_X4 al_X4c (ct_X4 g) := by
  intro al0 ct0 a M hlen hM
  refine im_met (own := RX4) (by decide +kernel) rfl (Nat.le_of_ble_eq_true rfl) (fun p e s m below meth c X hin => ?_)
  refine ik_go hM ?_
  refine ik_aload_n (pc := 0) X dX4_init_0 rfl ?_
  refine ik_objInit (pc := 1) X wo_X4 dX4_init_1 (by decide) (Nat.le_of_ble_eq_true rfl) ?_
  refine ik_aload_n (pc := 4) X dX4_init_4 rfl ?_
  refine ik_bipush (pc := 5) X dX4_init_5 bc_8 ?_
  refine ik_newJ (pc := 7) X 8 (by decide) (by decide) (by decide) dX4_init_7 (bc' := 6) (bs' := 2064) rfl rfl (fun q1 => ?_)
  refine ik_put (pc := 9) X 0 tyX4 tyX4_ok nmX4 rfl wx_X4 (by decide) wf_X4_9 (Or.inr ⟨rfl, hin, rfl⟩) rfl rfl dX4_init_9 hlen rfl (fun hf => ?_)
  refine ik_aload_n (pc := 12) X dX4_init_12 rfl ?_
  refine ik_bipush (pc := 13) X dX4_init_13 bc_8 ?_
  refine ik_newI (pc := 15) X 8 (by decide) (by decide) (by decide) dX4_init_15 (bc' := 5) (bs' := 2056) rfl rfl (fun q2 => ?_)
  refine ik_put (pc := 17) X 1 tyX4 tyX4_ok nmX4 rfl wx_X4 (by decide) wf_X4_15 (Or.inr ⟨rfl, hin, rfl⟩) rfl rfl dX4_init_17 hlen hf (fun hf => ?_)
  refine ik_aload_n (pc := 20) X dX4_init_20 rfl ?_
  refine ik_bipush (pc := 21) X dX4_init_21 bc_8 ?_
  refine ik_newI (pc := 23) X 8 (by decide) (by decide) (by decide) dX4_init_23 (bc' := 4) (bs' := 2048) rfl rfl (fun q3 => ?_)
  refine ik_put (pc := 25) X 2 tyX4 tyX4_ok nmX4 rfl wx_X4 (by decide) wf_X4_19 (Or.inr ⟨rfl, hin, rfl⟩) rfl rfl dX4_init_25 hlen hf (fun hf => ?_)
  refine ik_aload_n (pc := 28) X dX4_init_28 rfl ?_
  refine ik_sipush (pc := 29) X dX4_init_29 sc_512 ?_
  refine ik_newI (pc := 32) X 512 (by decide) (by decide) (by decide) dX4_init_32 (bc' := 3) (bs' := 1536) rfl rfl (fun q4 => ?_)
  refine ik_put (pc := 34) X 4 tyX4 tyX4_ok nmX4 rfl wx_X4 (by decide) wf_X4_22 (Or.inr ⟨rfl, hin, rfl⟩) rfl rfl dX4_init_34 hlen hf (fun hf => ?_)
  refine ik_aload_n (pc := 37) X dX4_init_37 rfl ?_
  refine ik_sipush (pc := 38) X dX4_init_38 sc_512 ?_
  refine ik_newI (pc := 41) X 512 (by decide) (by decide) (by decide) dX4_init_41 (bc' := 2) (bs' := 1024) rfl rfl (fun q5 => ?_)
  refine ik_put (pc := 43) X 5 tyX4 tyX4_ok nmX4 rfl wx_X4 (by decide) wf_X4_25 (Or.inr ⟨rfl, hin, rfl⟩) rfl rfl dX4_init_43 hlen hf (fun hf => ?_)
  refine ik_aload_n (pc := 46) X dX4_init_46 rfl ?_
  refine ik_sipush (pc := 47) X dX4_init_47 sc_512 ?_
  refine ik_newI (pc := 50) X 512 (by decide) (by decide) (by decide) dX4_init_50 (bc' := 1) (bs' := 512) rfl rfl (fun q6 => ?_)
  refine ik_put (pc := 52) X 7 tyX4 tyX4_ok nmX4 rfl wx_X4 (by decide) wf_X4_28 (Or.inr ⟨rfl, hin, rfl⟩) rfl rfl dX4_init_52 hlen hf (fun hf => ?_)
  refine ik_aload_n (pc := 55) X dX4_init_55 rfl ?_
  refine ik_sipush (pc := 56) X dX4_init_56 sc_512 ?_
  refine ik_newI (pc := 59) X 512 (by decide) (by decide) (by decide) dX4_init_59 (bc' := 0) (bs' := 0) rfl rfl (fun q7 => ?_)
  refine ik_put (pc := 61) X 8 tyX4 tyX4_ok nmX4 rfl wx_X4 (by decide) wf_X4_31 (Or.inr ⟨rfl, hin, rfl⟩) rfl rfl dX4_init_61 hlen hf (fun hf => ?_)
  refine ik_vret (pc := 64) X dX4_init_64 (fun M' h => ⟨rfl, (fun i => List.getD [q1, q2, q3, q4, q5, q6, q7] i 0), ?_⟩)
  generalize hq : (fun i => List.getD [q1, q2, q3, q4, q5, q6, q7] i 0) = q
  have a0 : q 0 = q1 := by rw [← hq]; rfl
  have a1 : q 1 = q2 := by rw [← hq]; rfl
  have a2 : q 2 = q3 := by rw [← hq]; rfl
  have a3 : q 3 = q4 := by rw [← hq]; rfl
  have a4 : q 4 = q5 := by rw [← hq]; rfl
  have a5 : q 5 = q6 := by rw [← hq]; rfl
  have a6 : q 6 = q7 := by rw [← hq]; rfl
  simp only [al_X4c, fs_X4, ct_X4, ct_X4_0, a0, a1, a2, a3, a4, a5, a6]
  simp only [List.nil_append, List.cons_append, List.set_cons_succ, List.set_cons_zero] at h ⊢
  exact h
def fs_X3 (q : Nat → Nat) : List Value := [.ref (q 0), .ref (q 8), .ref (q 9), .ref (q 10), .ref (q 11), .ref (q 12), .ref (q 13), .ref (q 14), .ref (q 15), .ref (q 16), .ref (q 17), .ref (q 18), .ref (q 19), .ref (q 20), .ref (q 21), .ref (q 22), .int 0]
def al_X3c (q : Nat → Nat) : List Nat := [q 0, q 1, q 2, q 3, q 4, q 5, q 6, q 7, q 8, q 9, q 10, q 11, q 12, q 13, q 14, q 15, q 16, q 17, q 18, q 19, q 20, q 21, q 22]
def ct_X3_0 (g : im_G) (q : Nat → Nat) : List va_E := [.inr (6, [.ref (q 1), .ref (q 2), .ref (q 3), .int 0, .ref (q 4), .ref (q 5), .int 0, .ref (q 6), .ref (q 7), .int 0]), .inl (g.2.1 2, 8, .inr (.inl (fun _ => 0))), .inl (g.2.1 1, 8, .inl (fun _ => 0)), .inl (g.2.1 1, 8, .inl (fun _ => 0)), .inl (g.2.1 1, 512, .inl (fun _ => 0)), .inl (g.2.1 1, 512, .inl (fun _ => 0)), .inl (g.2.1 1, 512, .inl (fun _ => 0)), .inl (g.2.1 1, 512, .inl (fun _ => 0)), .inl (g.2.1 1, 512, .inl (fun _ => 0)), .inl (g.2.1 1, 512, .inl (fun _ => 0)), .inl (g.2.1 1, 512, .inl (fun _ => 0)), .inl (g.2.1 1, 512, .inl (fun _ => 0)), .inl (g.2.1 1, 512, .inl (fun _ => 0)), .inl (g.2.1 1, 512, .inl (fun _ => 0)), .inl (g.2.1 1, 512, .inl (fun _ => 0)), .inl (g.2.1 1, 512, .inl (fun _ => 0)), .inl (g.2.1 1, 512, .inl (fun _ => 0)), .inl (g.2.1 1, 512, .inl (fun _ => 0)), .inl (g.2.1 1, 512, .inl (fun _ => 0)), .inl (g.2.1 1, 512, .inl (fun _ => 0)), .inl (g.2.1 1, 512, .inl (fun _ => 0)), .inl (g.2.1 1, 512, .inl (fun _ => 0)), .inl (g.2.1 2, 512, .inr (.inl (fun _ => 0)))]
def ct_X3 (g : im_G) (q : Nat → Nat) : List va_E := ct_X3_0 g q
set_option maxHeartbeats 4000000 in
set_option maxRecDepth 100000 in
/-- X3() -/
theorem mk_X3 (l : Launch) (g : im_G) (hZ : ∀ V, g.2.2.2 V → im_nest V) : im_J l g 2 yX3_init cX3_init 23 9762 5 [.null, .null, .null, .null, .null, .null, .null, .null, .null, .null, .null, .null, .null, .null, .null, .null, .int 0] fs_X3 al_X3c (ct_X3 g) := by
  intro al0 ct0 a M hlen hM
  refine im_met (own := RX3) (by decide +kernel) rfl (Nat.le_of_ble_eq_true rfl) (fun p e s m below meth c X hin => ?_)
  refine ik_go hM ?_
  refine ik_aload_n (pc := 0) X dX3_init_0 rfl ?_
  refine ik_objInit (pc := 1) X wo_X3 dX3_init_1 (by decide) (Nat.le_of_ble_eq_true rfl) ?_
  refine ik_aload_n (pc := 4) X dX3_init_4 rfl ?_
  refine ik_new (pc := 5) X 6 [.null, .null, .null, .int 0, .null, .null, .int 0, .null, .null, .int 0] tyX4 tyX4_ok rfl wx_X4 wl_X3_9 wt_X4 wn_X4 df_X4 dX3_init_5 (bc' := 22) (bs' := 9752) rfl rfl (fun q1 => ?_)
  refine ik_dup (pc := 8) X dX3_init_8 rfl ?_
  refine ik_call (pc := 9) X (host := "TagFlow") [.ref q1, .ref a] (mk_X4 l g hZ) hlen rfl (fun V h => (hZ V h).2.2.2.1) wi_yX4_init wn_X4 wc_yX4_init rfl (by decide) (by decide) (by decide) (Nat.le_of_ble_eq_true rfl) dX3_init_9 (bc' := 15) (bs' := 7680) rfl rfl (fun qq1 hzqq1 => ?_)
  refine ik_put (pc := 12) X 0 tyX3 tyX3_ok nmX3 rfl wx_X3 (by decide) wf_X3_12 (Or.inr ⟨rfl, hin, rfl⟩) rfl rfl dX3_init_12 hlen rfl (fun hf => ?_)
  refine ik_aload_n (pc := 15) X dX3_init_15 rfl ?_
  refine ik_sipush (pc := 16) X dX3_init_16 sc_512 ?_
  refine ik_newI (pc := 19) X 512 (by decide) (by decide) (by decide) dX3_init_19 (bc' := 14) (bs' := 7168) rfl rfl (fun q2 => ?_)
  refine ik_put (pc := 21) X 1 tyX3 tyX3_ok nmX3 rfl wx_X3 (by decide) wf_X3_18 (Or.inr ⟨rfl, hin, rfl⟩) rfl rfl dX3_init_21 hlen hf (fun hf => ?_)
  refine ik_aload_n (pc := 24) X dX3_init_24 rfl ?_
  refine ik_sipush (pc := 25) X dX3_init_25 sc_512 ?_
  refine ik_newI (pc := 28) X 512 (by decide) (by decide) (by decide) dX3_init_28 (bc' := 13) (bs' := 6656) rfl rfl (fun q3 => ?_)
  refine ik_put (pc := 30) X 2 tyX3 tyX3_ok nmX3 rfl wx_X3 (by decide) wf_X3_22 (Or.inr ⟨rfl, hin, rfl⟩) rfl rfl dX3_init_30 hlen hf (fun hf => ?_)
  refine ik_aload_n (pc := 33) X dX3_init_33 rfl ?_
  refine ik_sipush (pc := 34) X dX3_init_34 sc_512 ?_
  refine ik_newI (pc := 37) X 512 (by decide) (by decide) (by decide) dX3_init_37 (bc' := 12) (bs' := 6144) rfl rfl (fun q4 => ?_)
  refine ik_put (pc := 39) X 3 tyX3 tyX3_ok nmX3 rfl wx_X3 (by decide) wf_X3_25 (Or.inr ⟨rfl, hin, rfl⟩) rfl rfl dX3_init_39 hlen hf (fun hf => ?_)
  refine ik_aload_n (pc := 42) X dX3_init_42 rfl ?_
  refine ik_sipush (pc := 43) X dX3_init_43 sc_512 ?_
  refine ik_newI (pc := 46) X 512 (by decide) (by decide) (by decide) dX3_init_46 (bc' := 11) (bs' := 5632) rfl rfl (fun q5 => ?_)
  refine ik_put (pc := 48) X 4 tyX3 tyX3_ok nmX3 rfl wx_X3 (by decide) wf_X3_28 (Or.inr ⟨rfl, hin, rfl⟩) rfl rfl dX3_init_48 hlen hf (fun hf => ?_)
  refine ik_aload_n (pc := 51) X dX3_init_51 rfl ?_
  refine ik_sipush (pc := 52) X dX3_init_52 sc_512 ?_
  refine ik_newI (pc := 55) X 512 (by decide) (by decide) (by decide) dX3_init_55 (bc' := 10) (bs' := 5120) rfl rfl (fun q6 => ?_)
  refine ik_put (pc := 57) X 5 tyX3 tyX3_ok nmX3 rfl wx_X3 (by decide) wf_X3_31 (Or.inr ⟨rfl, hin, rfl⟩) rfl rfl dX3_init_57 hlen hf (fun hf => ?_)
  refine ik_aload_n (pc := 60) X dX3_init_60 rfl ?_
  refine ik_sipush (pc := 61) X dX3_init_61 sc_512 ?_
  refine ik_newI (pc := 64) X 512 (by decide) (by decide) (by decide) dX3_init_64 (bc' := 9) (bs' := 4608) rfl rfl (fun q7 => ?_)
  refine ik_put (pc := 66) X 6 tyX3 tyX3_ok nmX3 rfl wx_X3 (by decide) wf_X3_34 (Or.inr ⟨rfl, hin, rfl⟩) rfl rfl dX3_init_66 hlen hf (fun hf => ?_)
  refine ik_aload_n (pc := 69) X dX3_init_69 rfl ?_
  refine ik_sipush (pc := 70) X dX3_init_70 sc_512 ?_
  refine ik_newI (pc := 73) X 512 (by decide) (by decide) (by decide) dX3_init_73 (bc' := 8) (bs' := 4096) rfl rfl (fun q8 => ?_)
  refine ik_put (pc := 75) X 7 tyX3 tyX3_ok nmX3 rfl wx_X3 (by decide) wf_X3_37 (Or.inr ⟨rfl, hin, rfl⟩) rfl rfl dX3_init_75 hlen hf (fun hf => ?_)
  refine ik_aload_n (pc := 78) X dX3_init_78 rfl ?_
  refine ik_sipush (pc := 79) X dX3_init_79 sc_512 ?_
  refine ik_newI (pc := 82) X 512 (by decide) (by decide) (by decide) dX3_init_82 (bc' := 7) (bs' := 3584) rfl rfl (fun q9 => ?_)
  refine ik_put (pc := 84) X 8 tyX3 tyX3_ok nmX3 rfl wx_X3 (by decide) wf_X3_40 (Or.inr ⟨rfl, hin, rfl⟩) rfl rfl dX3_init_84 hlen hf (fun hf => ?_)
  refine ik_aload_n (pc := 87) X dX3_init_87 rfl ?_
  refine ik_sipush (pc := 88) X dX3_init_88 sc_512 ?_
  refine ik_newI (pc := 91) X 512 (by decide) (by decide) (by decide) dX3_init_91 (bc' := 6) (bs' := 3072) rfl rfl (fun q10 => ?_)
  refine ik_put (pc := 93) X 9 tyX3 tyX3_ok nmX3 rfl wx_X3 (by decide) wf_X3_43 (Or.inr ⟨rfl, hin, rfl⟩) rfl rfl dX3_init_93 hlen hf (fun hf => ?_)
  refine ik_aload_n (pc := 96) X dX3_init_96 rfl ?_
  refine ik_sipush (pc := 97) X dX3_init_97 sc_512 ?_
  refine ik_newI (pc := 100) X 512 (by decide) (by decide) (by decide) dX3_init_100 (bc' := 5) (bs' := 2560) rfl rfl (fun q11 => ?_)
  refine ik_put (pc := 102) X 10 tyX3 tyX3_ok nmX3 rfl wx_X3 (by decide) wf_X3_46 (Or.inr ⟨rfl, hin, rfl⟩) rfl rfl dX3_init_102 hlen hf (fun hf => ?_)
  refine ik_aload_n (pc := 105) X dX3_init_105 rfl ?_
  refine ik_sipush (pc := 106) X dX3_init_106 sc_512 ?_
  refine ik_newI (pc := 109) X 512 (by decide) (by decide) (by decide) dX3_init_109 (bc' := 4) (bs' := 2048) rfl rfl (fun q12 => ?_)
  refine ik_put (pc := 111) X 11 tyX3 tyX3_ok nmX3 rfl wx_X3 (by decide) wf_X3_49 (Or.inr ⟨rfl, hin, rfl⟩) rfl rfl dX3_init_111 hlen hf (fun hf => ?_)
  refine ik_aload_n (pc := 114) X dX3_init_114 rfl ?_
  refine ik_sipush (pc := 115) X dX3_init_115 sc_512 ?_
  refine ik_newI (pc := 118) X 512 (by decide) (by decide) (by decide) dX3_init_118 (bc' := 3) (bs' := 1536) rfl rfl (fun q13 => ?_)
  refine ik_put (pc := 120) X 12 tyX3 tyX3_ok nmX3 rfl wx_X3 (by decide) wf_X3_52 (Or.inr ⟨rfl, hin, rfl⟩) rfl rfl dX3_init_120 hlen hf (fun hf => ?_)
  refine ik_aload_n (pc := 123) X dX3_init_123 rfl ?_
  refine ik_sipush (pc := 124) X dX3_init_124 sc_512 ?_
  refine ik_newI (pc := 127) X 512 (by decide) (by decide) (by decide) dX3_init_127 (bc' := 2) (bs' := 1024) rfl rfl (fun q14 => ?_)
  refine ik_put (pc := 129) X 13 tyX3 tyX3_ok nmX3 rfl wx_X3 (by decide) wf_X3_55 (Or.inr ⟨rfl, hin, rfl⟩) rfl rfl dX3_init_129 hlen hf (fun hf => ?_)
  refine ik_aload_n (pc := 132) X dX3_init_132 rfl ?_
  refine ik_sipush (pc := 133) X dX3_init_133 sc_512 ?_
  refine ik_newI (pc := 136) X 512 (by decide) (by decide) (by decide) dX3_init_136 (bc' := 1) (bs' := 512) rfl rfl (fun q15 => ?_)
  refine ik_put (pc := 138) X 14 tyX3 tyX3_ok nmX3 rfl wx_X3 (by decide) wf_X3_58 (Or.inr ⟨rfl, hin, rfl⟩) rfl rfl dX3_init_138 hlen hf (fun hf => ?_)
  refine ik_aload_n (pc := 141) X dX3_init_141 rfl ?_
  refine ik_sipush (pc := 142) X dX3_init_142 sc_512 ?_
  refine ik_newJ (pc := 145) X 512 (by decide) (by decide) (by decide) dX3_init_145 (bc' := 0) (bs' := 0) rfl rfl (fun q16 => ?_)
  refine ik_put (pc := 147) X 15 tyX3 tyX3_ok nmX3 rfl wx_X3 (by decide) wf_X3_61 (Or.inr ⟨rfl, hin, rfl⟩) rfl rfl dX3_init_147 hlen hf (fun hf => ?_)
  refine ik_vret (pc := 150) X dX3_init_150 (fun M' h => ⟨rfl, (fun i => List.getD [q1, (qq1 0), (qq1 1), (qq1 2), (qq1 3), (qq1 4), (qq1 5), (qq1 6), q2, q3, q4, q5, q6, q7, q8, q9, q10, q11, q12, q13, q14, q15, q16] i 0), ?_⟩)
  generalize hq : (fun i => List.getD [q1, (qq1 0), (qq1 1), (qq1 2), (qq1 3), (qq1 4), (qq1 5), (qq1 6), q2, q3, q4, q5, q6, q7, q8, q9, q10, q11, q12, q13, q14, q15, q16] i 0) = q
  have a0 : q 0 = q1 := by rw [← hq]; rfl
  have a1 : q 1 = (qq1 0) := by rw [← hq]; rfl
  have a2 : q 2 = (qq1 1) := by rw [← hq]; rfl
  have a3 : q 3 = (qq1 2) := by rw [← hq]; rfl
  have a4 : q 4 = (qq1 3) := by rw [← hq]; rfl
  have a5 : q 5 = (qq1 4) := by rw [← hq]; rfl
  have a6 : q 6 = (qq1 5) := by rw [← hq]; rfl
  have a7 : q 7 = (qq1 6) := by rw [← hq]; rfl
  have a8 : q 8 = q2 := by rw [← hq]; rfl
  have a9 : q 9 = q3 := by rw [← hq]; rfl
  have a10 : q 10 = q4 := by rw [← hq]; rfl
  have a11 : q 11 = q5 := by rw [← hq]; rfl
  have a12 : q 12 = q6 := by rw [← hq]; rfl
  have a13 : q 13 = q7 := by rw [← hq]; rfl
  have a14 : q 14 = q8 := by rw [← hq]; rfl
  have a15 : q 15 = q9 := by rw [← hq]; rfl
  have a16 : q 16 = q10 := by rw [← hq]; rfl
  have a17 : q 17 = q11 := by rw [← hq]; rfl
  have a18 : q 18 = q12 := by rw [← hq]; rfl
  have a19 : q 19 = q13 := by rw [← hq]; rfl
  have a20 : q 20 = q14 := by rw [← hq]; rfl
  have a21 : q 21 = q15 := by rw [← hq]; rfl
  have a22 : q 22 = q16 := by rw [← hq]; rfl
  simp only [al_X3c, fs_X3, ct_X3, ct_X3_0, a0, a1, a2, a3, a4, a5, a6, a7, a8, a9, a10, a11, a12, a13, a14, a15, a16, a17, a18, a19, a20, a21, a22]
  simp only [al_X4c, fs_X4, ct_X4, ct_X4_0, List.nil_append, List.cons_append, List.set_cons_succ, List.set_cons_zero] at h ⊢
  exact h
def fs_X9 (q : Nat → Nat) : List Value := [.ref (q 0), .ref (q 1), .ref (q 2), .int 0]
def al_X9c (q : Nat → Nat) : List Nat := [q 0, q 1, q 2]
def ct_X9_0 (g : im_G) (q : Nat → Nat) : List va_E := [.inl (g.2.1 1, 501, .inl (fun _ => 0)), .inl (g.2.1 1, 501, .inl (fun _ => 0)), .inl (g.2.1 2, 501, .inr (.inl (fun _ => 0)))]
def ct_X9 (g : im_G) (q : Nat → Nat) : List va_E := ct_X9_0 g q
set_option maxHeartbeats 4000000 in
set_option maxRecDepth 100000 in
/-- X9() -/
theorem mk_X9 (l : Launch) (g : im_G) (hZ : ∀ V, g.2.2.2 V → im_nest V) : im_J l g 1 yX9_init cX9_init 3 1503 11 [.null, .null, .null, .int 0] fs_X9 al_X9c (ct_X9 g) := by
  intro al0 ct0 a M hlen hM
  refine im_met (own := RX9) (by decide +kernel) rfl (Nat.le_of_ble_eq_true rfl) (fun p e s m below meth c X hin => ?_)
  refine ik_go hM ?_
  refine ik_aload_n (pc := 0) X dX9_init_0 rfl ?_
  refine ik_objInit (pc := 1) X wo_X9 dX9_init_1 (by decide) (Nat.le_of_ble_eq_true rfl) ?_
  refine ik_aload_n (pc := 4) X dX9_init_4 rfl ?_
  refine ik_sipush (pc := 5) X dX9_init_5 sc_501 ?_
  refine ik_newI (pc := 8) X 501 (by decide) (by decide) (by decide) dX9_init_8 (bc' := 2) (bs' := 1002) rfl rfl (fun q1 => ?_)
  refine ik_put (pc := 10) X 0 tyX9 tyX9_ok nmX9 rfl wx_X9 (by decide) wf_X9_9 (Or.inr ⟨rfl, hin, rfl⟩) rfl rfl dX9_init_10 hlen rfl (fun hf => ?_)
  refine ik_aload_n (pc := 13) X dX9_init_13 rfl ?_
  refine ik_sipush (pc := 14) X dX9_init_14 sc_501 ?_
  refine ik_newI (pc := 17) X 501 (by decide) (by decide) (by decide) dX9_init_17 (bc' := 1) (bs' := 501) rfl rfl (fun q2 => ?_)
  refine ik_put (pc := 19) X 1 tyX9 tyX9_ok nmX9 rfl wx_X9 (by decide) wf_X9_15 (Or.inr ⟨rfl, hin, rfl⟩) rfl rfl dX9_init_19 hlen hf (fun hf => ?_)
  refine ik_aload_n (pc := 22) X dX9_init_22 rfl ?_
  refine ik_sipush (pc := 23) X dX9_init_23 sc_501 ?_
  refine ik_newJ (pc := 26) X 501 (by decide) (by decide) (by decide) dX9_init_26 (bc' := 0) (bs' := 0) rfl rfl (fun q3 => ?_)
  refine ik_put (pc := 28) X 2 tyX9 tyX9_ok nmX9 rfl wx_X9 (by decide) wf_X9_18 (Or.inr ⟨rfl, hin, rfl⟩) rfl rfl dX9_init_28 hlen hf (fun hf => ?_)
  refine ik_vret (pc := 31) X dX9_init_31 (fun M' h => ⟨rfl, (fun i => List.getD [q1, q2, q3] i 0), ?_⟩)
  generalize hq : (fun i => List.getD [q1, q2, q3] i 0) = q
  have a0 : q 0 = q1 := by rw [← hq]; rfl
  have a1 : q 1 = q2 := by rw [← hq]; rfl
  have a2 : q 2 = q3 := by rw [← hq]; rfl
  simp only [al_X9c, fs_X9, ct_X9, ct_X9_0, a0, a1, a2]
  simp only [List.nil_append, List.cons_append, List.set_cons_succ, List.set_cons_zero] at h ⊢
  exact h
def fs_X6 (q : Nat → Nat) : List Value := [.ref (q 0), .ref (q 1), .ref (q 2), .int 0]
def al_X6c (q : Nat → Nat) : List Nat := [q 0, q 1, q 2]
def ct_X6_0 (g : im_G) (q : Nat → Nat) : List va_E := [.inl (g.2.1 1, 512, .inl (fun _ => 0)), .inl (g.2.1 1, 512, .inl (fun _ => 0)), .inl (g.2.1 1, 512, .inl (fun _ => 0))]
def ct_X6 (g : im_G) (q : Nat → Nat) : List va_E := ct_X6_0 g q
set_option maxHeartbeats 4000000 in
set_option maxRecDepth 100000 in
/-- X6() -/
theorem mk_X6 (l : Launch) (g : im_G) (hZ : ∀ V, g.2.2.2 V → im_nest V) : im_J l g 1 yX6_init cX6_init 3 1536 8 [.null, .null, .null, .int 0] fs_X6 al_X6c (ct_X6 g) := by
  intro al0 ct0 a M hlen hM
  refine im_met (own := RX6) (by decide +kernel) rfl (Nat.le_of_ble_eq_true rfl) (fun p e s m below meth c X hin => ?_)
  refine ik_go hM ?_
  refine ik_aload_n (pc := 0) X dX6_init_0 rfl ?_
  refine ik_objInit (pc := 1) X wo_X6 dX6_init_1 (by decide) (Nat.le_of_ble_eq_true rfl) ?_
  refine ik_aload_n (pc := 4) X dX6_init_4 rfl ?_
  refine ik_sipush (pc := 5) X dX6_init_5 sc_512 ?_
  refine ik_newI (pc := 8) X 512 (by decide) (by decide) (by decide) dX6_init_8 (bc' := 2) (bs' := 1024) rfl rfl (fun q1 => ?_)
  refine ik_put (pc := 10) X 0 tyX6 tyX6_ok nmX6 rfl wx_X6 (by decide) wf_X6_9 (Or.inr ⟨rfl, hin, rfl⟩) rfl rfl dX6_init_10 hlen rfl (fun hf => ?_)
  refine ik_aload_n (pc := 13) X dX6_init_13 rfl ?_
  refine ik_sipush (pc := 14) X dX6_init_14 sc_512 ?_
  refine ik_newI (pc := 17) X 512 (by decide) (by decide) (by decide) dX6_init_17 (bc' := 1) (bs' := 512) rfl rfl (fun q2 => ?_)
  refine ik_put (pc := 19) X 1 tyX6 tyX6_ok nmX6 rfl wx_X6 (by decide) wf_X6_15 (Or.inr ⟨rfl, hin, rfl⟩) rfl rfl dX6_init_19 hlen hf (fun hf => ?_)
  refine ik_aload_n (pc := 22) X dX6_init_22 rfl ?_
  refine ik_sipush (pc := 23) X dX6_init_23 sc_512 ?_
  refine ik_newI (pc := 26) X 512 (by decide) (by decide) (by decide) dX6_init_26 (bc' := 0) (bs' := 0) rfl rfl (fun q3 => ?_)
  refine ik_put (pc := 28) X 2 tyX6 tyX6_ok nmX6 rfl wx_X6 (by decide) wf_X6_18 (Or.inr ⟨rfl, hin, rfl⟩) rfl rfl dX6_init_28 hlen hf (fun hf => ?_)
  refine ik_vret (pc := 31) X dX6_init_31 (fun M' h => ⟨rfl, (fun i => List.getD [q1, q2, q3] i 0), ?_⟩)
  generalize hq : (fun i => List.getD [q1, q2, q3] i 0) = q
  have a0 : q 0 = q1 := by rw [← hq]; rfl
  have a1 : q 1 = q2 := by rw [← hq]; rfl
  have a2 : q 2 = q3 := by rw [← hq]; rfl
  simp only [al_X6c, fs_X6, ct_X6, ct_X6_0, a0, a1, a2]
  simp only [List.nil_append, List.cons_append, List.set_cons_succ, List.set_cons_zero] at h ⊢
  exact h
def fs_X7 (q : Nat → Nat) : List Value := [.ref (q 0), .ref (q 1), .ref (q 25), .ref (q 29), .ref (q 33), .int 0, .int 0, .int 0, .int 0, .int 0, .int 0]
def al_X7c (q : Nat → Nat) : List Nat := [q 0, q 1, q 2, q 3, q 4, q 5, q 6, q 7, q 8, q 9, q 10, q 11, q 12, q 13, q 14, q 15, q 16, q 17, q 18, q 19, q 20, q 21, q 22, q 23, q 24, q 25, q 26, q 27, q 28, q 29, q 30, q 31, q 32, q 33]
def ct_X7_0 (g : im_G) (q : Nat → Nat) : List va_E := [.inr (3, [.int 0, .int 0]), .inr (5, [.ref (q 2), .ref (q 10), .ref (q 11), .ref (q 12), .ref (q 13), .ref (q 14), .ref (q 15), .ref (q 16), .ref (q 17), .ref (q 18), .ref (q 19), .ref (q 20), .ref (q 21), .ref (q 22), .ref (q 23), .ref (q 24), .int 0]), .inr (6, [.ref (q 3), .ref (q 4), .ref (q 5), .int 0, .ref (q 6), .ref (q 7), .int 0, .ref (q 8), .ref (q 9), .int 0]), .inl (g.2.1 2, 8, .inr (.inl (fun _ => 0))), .inl (g.2.1 1, 8, .inl (fun _ => 0)), .inl (g.2.1 1, 8, .inl (fun _ => 0)), .inl (g.2.1 1, 512, .inl (fun _ => 0)), .inl (g.2.1 1, 512, .inl (fun _ => 0)), .inl (g.2.1 1, 512, .inl (fun _ => 0)), .inl (g.2.1 1, 512, .inl (fun _ => 0)), .inl (g.2.1 1, 512, .inl (fun _ => 0)), .inl (g.2.1 1, 512, .inl (fun _ => 0)), .inl (g.2.1 1, 512, .inl (fun _ => 0)), .inl (g.2.1 1, 512, .inl (fun _ => 0)), .inl (g.2.1 1, 512, .inl (fun _ => 0)), .inl (g.2.1 1, 512, .inl (fun _ => 0)), .inl (g.2.1 1, 512, .inl (fun _ => 0)), .inl (g.2.1 1, 512, .inl (fun _ => 0)), .inl (g.2.1 1, 512, .inl (fun _ => 0)), .inl (g.2.1 1, 512, .inl (fun _ => 0)), .inl (g.2.1 1, 512, .inl (fun _ => 0)), .inl (g.2.1 1, 512, .inl (fun _ => 0)), .inl (g.2.1 1, 512, .inl (fun _ => 0)), .inl (g.2.1 1, 512, .inl (fun _ => 0)), .inl (g.2.1 2, 512, .inr (.inl (fun _ => 0))), .inr (11, [.ref (q 26), .ref (q 27), .ref (q 28), .int 0]), .inl (g.2.1 1, 501, .inl (fun _ => 0)), .inl (g.2.1 1, 501, .inl (fun _ => 0)), .inl (g.2.1 2, 501, .inr (.inl (fun _ => 0))), .inr (8, [.ref (q 30), .ref (q 31), .ref (q 32), .int 0]), .inl (g.2.1 1, 512, .inl (fun _ => 0)), .inl (g.2.1 1, 512, .inl (fun _ => 0)), .inl (g.2.1 1, 512, .inl (fun _ => 0)), .inl (g.2.1 1, 512, .inl (fun _ => 0))]
def ct_X7 (g : im_G) (q : Nat → Nat) : List va_E := ct_X7_0 g q
set_option maxHeartbeats 4000000 in
set_option maxRecDepth 100000 in
/-- X7() -/
theorem mk_X7 (l : Launch) (g : im_G) (hZ : ∀ V, g.2.2.2 V → im_nest V) : im_J l g 3 yX7_init cX7_init 34 13340 9 [.null, .null, .null, .null, .null, .int 0, .int 0, .int 0, .int 0, .int 0, .int 0] fs_X7 al_X7c (ct_X7 g) := by
  intro al0 ct0 a M hlen hM
  refine im_met (own := RX7) (by decide +kernel) rfl (Nat.le_of_ble_eq_true rfl) (fun p e s m below meth c X hin => ?_)
  refine ik_go hM ?_
  refine ik_aload_n (pc := 0) X dX7_init_0 rfl ?_
  refine ik_objInit (pc := 1) X wo_X7 dX7_init_1 (by decide) (Nat.le_of_ble_eq_true rfl) ?_
  refine ik_aload_n (pc := 4) X dX7_init_4 rfl ?_
  refine ik_new (pc := 5) X 3 [.int 0, .int 0] tyX1 tyX1_ok rfl wx_X1 wl_X7_9 wt_X1 wn_X1 df_X1 dX7_init_5 (bc' := 33) (bs' := 13338) rfl rfl (fun q1 => ?_)
  refine ik_dup (pc := 8) X dX7_init_8 rfl ?_
  refine ik_call (pc := 9) X (host := "TagFlow") [.ref q1, .ref a] (mk_X1 l g hZ) hlen rfl (fun V h => (hZ V h).2.1) wi_yX1_init wn_X1 wc_yX1_init rfl (by decide) (by decide) (by decide) (Nat.le_of_ble_eq_true rfl) dX7_init_9 (bc' := 33) (bs' := 13338) rfl rfl (fun qq1 hzqq1 => ?_)
  refine ik_put (pc := 12) X 0 tyX7 tyX7_ok nmX7 rfl wx_X7 (by decide) wf_X7_12 (Or.inr ⟨rfl, hin, rfl⟩) rfl rfl dX7_init_12 hlen rfl (fun hf => ?_)
  refine ik_aload_n (pc := 15) X dX7_init_15 rfl ?_
  refine ik_new (pc := 16) X 5 [.null, .null, .null, .null, .null, .null, .null, .null, .null, .null, .null, .null, .null, .null, .null, .null, .int 0] tyX3 tyX3_ok rfl wx_X3 wl_X7_18 wt_X3 wn_X3 df_X3 dX7_init_16 (bc' := 32) (bs' := 13321) rfl rfl (fun q2 => ?_)
  refine ik_dup (pc := 19) X dX7_init_19 rfl ?_
  refine ik_call (pc := 20) X (host := "TagFlow") [.ref q2, .ref a] (mk_X3 l g hZ) hlen rfl (fun V h => (hZ V h).2.2.1) wi_yX3_init wn_X3 wc_yX3_init rfl (by decide) (by decide) (by decide) (Nat.le_of_ble_eq_true rfl) dX7_init_20 (bc' := 9) (bs' := 3559) rfl rfl (fun qq2 hzqq2 => ?_)
  refine ik_put (pc := 23) X 1 tyX7 tyX7_ok nmX7 rfl wx_X7 (by decide) wf_X7_21 (Or.inl rfl) rfl rfl dX7_init_23 hlen hf (fun hf => ?_)
  refine ik_aload_n (pc := 26) X dX7_init_26 rfl ?_
  refine ik_new (pc := 27) X 11 [.null, .null, .null, .int 0] tyX9 tyX9_ok rfl wx_X9 wl_X7_25 wt_X9 wn_X9 df_X9 dX7_init_27 (bc' := 8) (bs' := 3555) rfl rfl (fun q3 => ?_)
  refine ik_dup (pc := 30) X dX7_init_30 rfl ?_
  refine ik_call (pc := 31) X (host := "TagFlow") [.ref q3, .ref a] (mk_X9 l g hZ) hlen rfl (fun V h => (hZ V h).2.2.2.2.1) wi_yX9_init wn_X9 wc_yX9_init rfl (by decide) (by decide) (by decide) (Nat.le_of_ble_eq_true rfl) dX7_init_31 (bc' := 5) (bs' := 2052) rfl rfl (fun qq3 hzqq3 => ?_)
  refine ik_put (pc := 34) X 2 tyX7 tyX7_ok nmX7 rfl wx_X7 (by decide) wf_X7_28 (Or.inr ⟨rfl, hin, rfl⟩) rfl rfl dX7_init_34 hlen hf (fun hf => ?_)
  refine ik_aload_n (pc := 37) X dX7_init_37 rfl ?_
  refine ik_new (pc := 38) X 8 [.null, .null, .null, .int 0] tyX6 tyX6_ok rfl wx_X6 wl_X7_32 wt_X6 wn_X6 df_X6 dX7_init_38 (bc' := 4) (bs' := 2048) rfl rfl (fun q4 => ?_)
  refine ik_dup (pc := 41) X dX7_init_41 rfl ?_
  refine ik_call (pc := 42) X (host := "TagFlow") [.ref q4, .ref a] (mk_X6 l g hZ) hlen rfl (fun V h => (hZ V h).2.2.2.2.2.1) wi_yX6_init wn_X6 wc_yX6_init rfl (by decide) (by decide) (by decide) (Nat.le_of_ble_eq_true rfl) dX7_init_42 (bc' := 1) (bs' := 512) rfl rfl (fun qq4 hzqq4 => ?_)
  refine ik_put (pc := 45) X 3 tyX7 tyX7_ok nmX7 rfl wx_X7 (by decide) wf_X7_35 (Or.inr ⟨rfl, hin, rfl⟩) rfl rfl dX7_init_45 hlen hf (fun hf => ?_)
  refine ik_aload_n (pc := 48) X dX7_init_48 rfl ?_
  refine ik_sipush (pc := 49) X dX7_init_49 sc_512 ?_
  refine ik_newI (pc := 52) X 512 (by decide) (by decide) (by decide) dX7_init_52 (bc' := 0) (bs' := 0) rfl rfl (fun q5 => ?_)
  refine ik_put (pc := 54) X 4 tyX7 tyX7_ok nmX7 rfl wx_X7 (by decide) wf_X7_39 (Or.inr ⟨rfl, hin, rfl⟩) rfl rfl dX7_init_54 hlen hf (fun hf => ?_)
  refine ik_vret (pc := 57) X dX7_init_57 (fun M' h => ⟨rfl, (fun i => List.getD [q1, q2, (qq2 0), (qq2 1), (qq2 2), (qq2 3), (qq2 4), (qq2 5), (qq2 6), (qq2 7), (qq2 8), (qq2 9), (qq2 10), (qq2 11), (qq2 12), (qq2 13), (qq2 14), (qq2 15), (qq2 16), (qq2 17), (qq2 18), (qq2 19), (qq2 20), (qq2 21), (qq2 22), q3, (qq3 0), (qq3 1), (qq3 2), q4, (qq4 0), (qq4 1), (qq4 2), q5] i 0), ?_⟩)
  generalize hq : (fun i => List.getD [q1, q2, (qq2 0), (qq2 1), (qq2 2), (qq2 3), (qq2 4), (qq2 5), (qq2 6), (qq2 7), (qq2 8), (qq2 9), (qq2 10), (qq2 11), (qq2 12), (qq2 13), (qq2 14), (qq2 15), (qq2 16), (qq2 17), (qq2 18), (qq2 19), (qq2 20), (qq2 21), (qq2 22), q3, (qq3 0), (qq3 1), (qq3 2), q4, (qq4 0), (qq4 1), (qq4 2), q5] i 0) = q
  have a0 : q 0 = q1 := by rw [← hq]; rfl
  have a1 : q 1 = q2 := by rw [← hq]; rfl
  have a2 : q 2 = (qq2 0) := by rw [← hq]; rfl
  have a3 : q 3 = (qq2 1) := by rw [← hq]; rfl
  have a4 : q 4 = (qq2 2) := by rw [← hq]; rfl
  have a5 : q 5 = (qq2 3) := by rw [← hq]; rfl
  have a6 : q 6 = (qq2 4) := by rw [← hq]; rfl
  have a7 : q 7 = (qq2 5) := by rw [← hq]; rfl
  have a8 : q 8 = (qq2 6) := by rw [← hq]; rfl
  have a9 : q 9 = (qq2 7) := by rw [← hq]; rfl
  have a10 : q 10 = (qq2 8) := by rw [← hq]; rfl
  have a11 : q 11 = (qq2 9) := by rw [← hq]; rfl
  have a12 : q 12 = (qq2 10) := by rw [← hq]; rfl
  have a13 : q 13 = (qq2 11) := by rw [← hq]; rfl
  have a14 : q 14 = (qq2 12) := by rw [← hq]; rfl
  have a15 : q 15 = (qq2 13) := by rw [← hq]; rfl
  have a16 : q 16 = (qq2 14) := by rw [← hq]; rfl
  have a17 : q 17 = (qq2 15) := by rw [← hq]; rfl
  have a18 : q 18 = (qq2 16) := by rw [← hq]; rfl
  have a19 : q 19 = (qq2 17) := by rw [← hq]; rfl
  have a20 : q 20 = (qq2 18) := by rw [← hq]; rfl
  have a21 : q 21 = (qq2 19) := by rw [← hq]; rfl
  have a22 : q 22 = (qq2 20) := by rw [← hq]; rfl
  have a23 : q 23 = (qq2 21) := by rw [← hq]; rfl
  have a24 : q 24 = (qq2 22) := by rw [← hq]; rfl
  have a25 : q 25 = q3 := by rw [← hq]; rfl
  have a26 : q 26 = (qq3 0) := by rw [← hq]; rfl
  have a27 : q 27 = (qq3 1) := by rw [← hq]; rfl
  have a28 : q 28 = (qq3 2) := by rw [← hq]; rfl
  have a29 : q 29 = q4 := by rw [← hq]; rfl
  have a30 : q 30 = (qq4 0) := by rw [← hq]; rfl
  have a31 : q 31 = (qq4 1) := by rw [← hq]; rfl
  have a32 : q 32 = (qq4 2) := by rw [← hq]; rfl
  have a33 : q 33 = q5 := by rw [← hq]; rfl
  simp only [al_X7c, fs_X7, ct_X7, ct_X7_0, a0, a1, a2, a3, a4, a5, a6, a7, a8, a9, a10, a11, a12, a13, a14, a15, a16, a17, a18, a19, a20, a21, a22, a23, a24, a25, a26, a27, a28, a29, a30, a31, a32, a33]
  simp only [al_X1c, fs_X1, ct_X1, al_X3c, fs_X3, ct_X3, ct_X3_0, al_X9c, fs_X9, ct_X9, ct_X9_0, al_X6c, fs_X6, ct_X6, ct_X6_0, List.nil_append, List.cons_append, List.set_cons_succ, List.set_cons_zero] at h ⊢
  exact h
def fs_X8 (q : Nat → Nat) : List Value := [.ref (q 0), .ref (q 1), .int 0]
def al_X8c (q : Nat → Nat) : List Nat := [q 0, q 1]
def ct_X8_0 (g : im_G) (q : Nat → Nat) : List va_E := [.inl (g.2.1 0, 1024, .inl (fun _ => 0)), .inl (g.2.1 2, 1024, .inr (.inl (fun _ => 0)))]
def ct_X8 (g : im_G) (q : Nat → Nat) : List va_E := ct_X8_0 g q
set_option maxHeartbeats 4000000 in
set_option maxRecDepth 100000 in
/-- X8() -/
theorem mk_X8 (l : Launch) (g : im_G) (hZ : ∀ V, g.2.2.2 V → im_nest V) : im_J l g 1 yX8_init cX8_init 2 2048 10 [.null, .null, .int 0] fs_X8 al_X8c (ct_X8 g) := by
  intro al0 ct0 a M hlen hM
  refine im_met (own := RX8) (by decide +kernel) rfl (Nat.le_of_ble_eq_true rfl) (fun p e s m below meth c X hin => ?_)
  refine ik_go hM ?_
  refine ik_aload_n (pc := 0) X dX8_init_0 rfl ?_
  refine ik_objInit (pc := 1) X wo_X8 dX8_init_1 (by decide) (Nat.le_of_ble_eq_true rfl) ?_
  refine ik_aload_n (pc := 4) X dX8_init_4 rfl ?_
  refine ik_sipush (pc := 5) X dX8_init_5 sc_1024 ?_
  refine ik_newB (pc := 8) X 1024 (by decide) (by decide) (by decide) dX8_init_8 (bc' := 1) (bs' := 1024) rfl rfl (fun q1 => ?_)
  refine ik_put (pc := 10) X 0 tyX8 tyX8_ok nmX8 rfl wx_X8 (by decide) wf_X8_7 (Or.inl rfl) rfl rfl dX8_init_10 hlen rfl (fun hf => ?_)
  refine ik_aload_n (pc := 13) X dX8_init_13 rfl ?_
  refine ik_sipush (pc := 14) X dX8_init_14 sc_1024 ?_
  refine ik_newJ (pc := 17) X 1024 (by decide) (by decide) (by decide) dX8_init_17 (bc' := 0) (bs' := 0) rfl rfl (fun q2 => ?_)
  refine ik_put (pc := 19) X 1 tyX8 tyX8_ok nmX8 rfl wx_X8 (by decide) wf_X8_13 (Or.inl rfl) rfl rfl dX8_init_19 hlen hf (fun hf => ?_)
  refine ik_vret (pc := 22) X dX8_init_22 (fun M' h => ⟨rfl, (fun i => List.getD [q1, q2] i 0), ?_⟩)
  generalize hq : (fun i => List.getD [q1, q2] i 0) = q
  have a0 : q 0 = q1 := by rw [← hq]; rfl
  have a1 : q 1 = q2 := by rw [← hq]; rfl
  simp only [al_X8c, fs_X8, ct_X8, ct_X8_0, a0, a1]
  simp only [List.nil_append, List.cons_append, List.set_cons_succ, List.set_cons_zero] at h ⊢
  exact h
def fs_X2 (q : Nat → Nat) : List Value := [.ref (q 0), .ref (q 1), .ref (q 2), .ref (q 3), .int 0]
def al_X2c (q : Nat → Nat) : List Nat := [q 0, q 1, q 2, q 3]
def ct_X2_0 (g : im_G) (q : Nat → Nat) : List va_E := [.inl (g.2.1 1, 64, .inl (fun _ => 0)), .inl (g.2.1 1, 64, .inl (fun _ => 0)), .inl (g.2.1 1, 64, .inl (fun _ => 0)), .inl (g.2.1 1, 64, .inl (fun _ => 0))]
def ct_X2 (g : im_G) (q : Nat → Nat) : List va_E := ct_X2_0 g q
set_option maxHeartbeats 4000000 in
set_option maxRecDepth 100000 in
/-- X2() -/
theorem mk_X2 (l : Launch) (g : im_G) (hZ : ∀ V, g.2.2.2 V → im_nest V) : im_J l g 1 yX2_init cX2_init 4 256 4 [.null, .null, .null, .null, .int 0] fs_X2 al_X2c (ct_X2 g) := by
  intro al0 ct0 a M hlen hM
  refine im_met (own := RX2) (by decide +kernel) rfl (Nat.le_of_ble_eq_true rfl) (fun p e s m below meth c X hin => ?_)
  refine ik_go hM ?_
  refine ik_aload_n (pc := 0) X dX2_init_0 rfl ?_
  refine ik_objInit (pc := 1) X wo_X2 dX2_init_1 (by decide) (Nat.le_of_ble_eq_true rfl) ?_
  refine ik_aload_n (pc := 4) X dX2_init_4 rfl ?_
  refine ik_bipush (pc := 5) X dX2_init_5 bc_64 ?_
  refine ik_newI (pc := 7) X 64 (by decide) (by decide) (by decide) dX2_init_7 (bc' := 3) (bs' := 192) rfl rfl (fun q1 => ?_)
  refine ik_put (pc := 9) X 0 tyX2 tyX2_ok nmX2 rfl wx_X2 (by decide) wf_X2_7 (Or.inl rfl) rfl rfl dX2_init_9 hlen rfl (fun hf => ?_)
  refine ik_aload_n (pc := 12) X dX2_init_12 rfl ?_
  refine ik_bipush (pc := 13) X dX2_init_13 bc_64 ?_
  refine ik_newI (pc := 15) X 64 (by decide) (by decide) (by decide) dX2_init_15 (bc' := 2) (bs' := 128) rfl rfl (fun q2 => ?_)
  refine ik_put (pc := 17) X 1 tyX2 tyX2_ok nmX2 rfl wx_X2 (by decide) wf_X2_13 (Or.inl rfl) rfl rfl dX2_init_17 hlen hf (fun hf => ?_)
  refine ik_aload_n (pc := 20) X dX2_init_20 rfl ?_
  refine ik_bipush (pc := 21) X dX2_init_21 bc_64 ?_
  refine ik_newI (pc := 23) X 64 (by decide) (by decide) (by decide) dX2_init_23 (bc' := 1) (bs' := 64) rfl rfl (fun q3 => ?_)
  refine ik_put (pc := 25) X 2 tyX2 tyX2_ok nmX2 rfl wx_X2 (by decide) wf_X2_16 (Or.inl rfl) rfl rfl dX2_init_25 hlen hf (fun hf => ?_)
  refine ik_aload_n (pc := 28) X dX2_init_28 rfl ?_
  refine ik_bipush (pc := 29) X dX2_init_29 bc_64 ?_
  refine ik_newI (pc := 31) X 64 (by decide) (by decide) (by decide) dX2_init_31 (bc' := 0) (bs' := 0) rfl rfl (fun q4 => ?_)
  refine ik_put (pc := 33) X 3 tyX2 tyX2_ok nmX2 rfl wx_X2 (by decide) wf_X2_19 (Or.inl rfl) rfl rfl dX2_init_33 hlen hf (fun hf => ?_)
  refine ik_vret (pc := 36) X dX2_init_36 (fun M' h => ⟨rfl, (fun i => List.getD [q1, q2, q3, q4] i 0), ?_⟩)
  generalize hq : (fun i => List.getD [q1, q2, q3, q4] i 0) = q
  have a0 : q 0 = q1 := by rw [← hq]; rfl
  have a1 : q 1 = q2 := by rw [← hq]; rfl
  have a2 : q 2 = q3 := by rw [← hq]; rfl
  have a3 : q 3 = q4 := by rw [← hq]; rfl
  simp only [al_X2c, fs_X2, ct_X2, ct_X2_0, a0, a1, a2, a3]
  simp only [List.nil_append, List.cons_append, List.set_cons_succ, List.set_cons_zero] at h ⊢
  exact h
def fs_X0 (q : Nat → Nat) : List Value := [.ref (q 0), .ref (q 1), .int 1, .int 0]
def al_X0c (q : Nat → Nat) : List Nat := [q 0, q 1]
def ct_X0_0 (g : im_G) (q : Nat → Nat) : List va_E := [.inl (g.2.1 1, 256, .inl (fun _ => 0)), .inl (g.2.1 1, 256, .inl (fun _ => 0))]
def ct_X0 (g : im_G) (q : Nat → Nat) : List va_E := ct_X0_0 g q
set_option maxHeartbeats 4000000 in
set_option maxRecDepth 100000 in
/-- X0() -/
theorem mk_X0 (l : Launch) (g : im_G) (hZ : ∀ V, g.2.2.2 V → im_nest V) : im_J l g 1 yX0_init cX0_init 2 512 2 [.null, .null, .int 0, .int 0] fs_X0 al_X0c (ct_X0 g) := by
  intro al0 ct0 a M hlen hM
  refine im_met (own := RX0) (by decide +kernel) rfl (Nat.le_of_ble_eq_true rfl) (fun p e s m below meth c X hin => ?_)
  refine ik_go hM ?_
  refine ik_aload_n (pc := 0) X dX0_init_0 rfl ?_
  refine ik_objInit (pc := 1) X wo_X0 dX0_init_1 (by decide) (Nat.le_of_ble_eq_true rfl) ?_
  refine ik_aload_n (pc := 4) X dX0_init_4 rfl ?_
  refine ik_sipush (pc := 5) X dX0_init_5 sc_256 ?_
  refine ik_newI (pc := 8) X 256 (by decide) (by decide) (by decide) dX0_init_8 (bc' := 1) (bs' := 256) rfl rfl (fun q1 => ?_)
  refine ik_put (pc := 10) X 0 tyX0 tyX0_ok nmX0 rfl wx_X0 (by decide) wf_X0_7 (Or.inl rfl) rfl rfl dX0_init_10 hlen rfl (fun hf => ?_)
  refine ik_aload_n (pc := 13) X dX0_init_13 rfl ?_
  refine ik_sipush (pc := 14) X dX0_init_14 sc_256 ?_
  refine ik_newI (pc := 17) X 256 (by decide) (by decide) (by decide) dX0_init_17 (bc' := 0) (bs' := 0) rfl rfl (fun q2 => ?_)
  refine ik_put (pc := 19) X 1 tyX0 tyX0_ok nmX0 rfl wx_X0 (by decide) wf_X0_13 (Or.inl rfl) rfl rfl dX0_init_19 hlen hf (fun hf => ?_)
  refine ik_aload_n (pc := 22) X dX0_init_22 rfl ?_
  refine ik_iconst (pc := 23) X dX0_init_23 ic_1 ?_
  refine ik_put (pc := 24) X 2 tyX0 tyX0_ok nmX0 rfl wx_X0 (by decide) wf_X0_16 (Or.inl rfl) rfl rfl dX0_init_24 hlen hf (fun hf => ?_)
  refine ik_vret (pc := 27) X dX0_init_27 (fun M' h => ⟨rfl, (fun i => List.getD [q1, q2] i 0), ?_⟩)
  generalize hq : (fun i => List.getD [q1, q2] i 0) = q
  have a0 : q 0 = q1 := by rw [← hq]; rfl
  have a1 : q 1 = q2 := by rw [← hq]; rfl
  simp only [al_X0c, fs_X0, ct_X0, ct_X0_0, a0, a1]
  simp only [List.nil_append, List.cons_append, List.set_cons_succ, List.set_cons_zero] at h ⊢
  exact h
def fs_X5 (q : Nat → Nat) : List Value := [.ref (q 0), .ref (q 24), .int 0, .int 0, .long 0, .ref (q 27), .ref (q 32), .ref (q 35), .int 0, .int 0, .int 0, .int 0, .int 0, .int 0, .int 0, .long 0]
def al_X5c (q : Nat → Nat) : List Nat := [q 0, q 1, q 2, q 3, q 4, q 5, q 6, q 7, q 8, q 9, q 10, q 11, q 12, q 13, q 14, q 15, q 16, q 17, q 18, q 19, q 20, q 21, q 22, q 23, q 24, q 25, q 26, q 27, q 28, q 29, q 30, q 31, q 32, q 33, q 34, q 35]
def ct_X5_0 (g : im_G) (q : Nat → Nat) : List va_E := [.inr (5, [.ref (q 1), .ref (q 9), .ref (q 10), .ref (q 11), .ref (q 12), .ref (q 13), .ref (q 14), .ref (q 15), .ref (q 16), .ref (q 17), .ref (q 18), .ref (q 19), .ref (q 20), .ref (q 21), .ref (q 22), .ref (q 23), .int 0]), .inr (6, [.ref (q 2), .ref (q 3), .ref (q 4), .int 0, .ref (q 5), .ref (q 6), .int 0, .ref (q 7), .ref (q 8), .int 0]), .inl (g.2.1 2, 8, .inr (.inl (fun _ => 0))), .inl (g.2.1 1, 8, .inl (fun _ => 0)), .inl (g.2.1 1, 8, .inl (fun _ => 0)), .inl (g.2.1 1, 512, .inl (fun _ => 0)), .inl (g.2.1 1, 512, .inl (fun _ => 0)), .inl (g.2.1 1, 512, .inl (fun _ => 0)), .inl (g.2.1 1, 512, .inl (fun _ => 0)), .inl (g.2.1 1, 512, .inl (fun _ => 0)), .inl (g.2.1 1, 512, .inl (fun _ => 0)), .inl (g.2.1 1, 512, .inl (fun _ => 0)), .inl (g.2.1 1, 512, .inl (fun _ => 0)), .inl (g.2.1 1, 512, .inl (fun _ => 0)), .inl (g.2.1 1, 512, .inl (fun _ => 0)), .inl (g.2.1 1, 512, .inl (fun _ => 0)), .inl (g.2.1 1, 512, .inl (fun _ => 0)), .inl (g.2.1 1, 512, .inl (fun _ => 0)), .inl (g.2.1 1, 512, .inl (fun _ => 0)), .inl (g.2.1 1, 512, .inl (fun _ => 0)), .inl (g.2.1 1, 512, .inl (fun _ => 0)), .inl (g.2.1 1, 512, .inl (fun _ => 0)), .inl (g.2.1 1, 512, .inl (fun _ => 0)), .inl (g.2.1 2, 512, .inr (.inl (fun _ => 0))), .inr (10, [.ref (q 25), .ref (q 26), .int 0]), .inl (g.2.1 0, 1024, .inl (fun _ => 0)), .inl (g.2.1 2, 1024, .inr (.inl (fun _ => 0))), .inr (4, [.ref (q 28), .ref (q 29), .ref (q 30), .ref (q 31), .int 0]), .inl (g.2.1 1, 64, .inl (fun _ => 0)), .inl (g.2.1 1, 64, .inl (fun _ => 0)), .inl (g.2.1 1, 64, .inl (fun _ => 0)), .inl (g.2.1 1, 64, .inl (fun _ => 0)), .inr (2, [.ref (q 33), .ref (q 34), .int 1, .int 0]), .inl (g.2.1 1, 256, .inl (fun _ => 0)), .inl (g.2.1 1, 256, .inl (fun _ => 0)), .inl (g.2.1 1, 1001, .inl (fun _ => 0))]
def ct_X5 (g : im_G) (q : Nat → Nat) : List va_E := ct_X5_0 g q
set_option maxHeartbeats 4000000 in
set_option maxRecDepth 100000 in
/-- X5() -/
theorem mk_X5 (l : Launch) (g : im_G) (hZ : ∀ V, g.2.2.2 V → im_nest V) : im_J l g 3 yX5_init cX5_init 36 13608 7 [.null, .null, .int 0, .int 0, .long 0, .null, .null, .null, .int 0, .int 0, .int 0, .int 0, .int 0, .int 0, .int 0, .long 0] fs_X5 al_X5c (ct_X5 g) := by
  intro al0 ct0 a M hlen hM
  refine im_met (own := RX5) (by decide +kernel) rfl (Nat.le_of_ble_eq_true rfl) (fun p e s m below meth c X hin => ?_)
  refine ik_go hM ?_
  refine ik_aload_n (pc := 0) X dX5_init_0 rfl ?_
  refine ik_objInit (pc := 1) X wo_X5 dX5_init_1 (by decide) (Nat.le_of_ble_eq_true rfl) ?_
  refine ik_aload_n (pc := 4) X dX5_init_4 rfl ?_
  refine ik_new (pc := 5) X 5 [.null, .null, .null, .null, .null, .null, .null, .null, .null, .null, .null, .null, .null, .null, .null, .null, .int 0] tyX3 tyX3_ok rfl wx_X3 wl_X5_9 wt_X3 wn_X3 df_X3 dX5_init_5 (bc' := 35) (bs' := 13591) rfl rfl (fun q1 => ?_)
  refine ik_dup (pc := 8) X dX5_init_8 rfl ?_
  refine ik_call (pc := 9) X (host := "TagFlow") [.ref q1, .ref a] (mk_X3 l g hZ) hlen rfl (fun V h => (hZ V h).2.2.2.2.2.2.2.1) wi_yX3_init wn_X3 wc_yX3_init rfl (by decide) (by decide) (by decide) (Nat.le_of_ble_eq_true rfl) dX5_init_9 (bc' := 12) (bs' := 3829) rfl rfl (fun qq1 hzqq1 => ?_)
  refine ik_put (pc := 12) X 0 tyX5 tyX5_ok nmX5 rfl wx_X5 (by decide) wf_X5_12 (Or.inl rfl) rfl rfl dX5_init_12 hlen rfl (fun hf => ?_)
  refine ik_aload_n (pc := 15) X dX5_init_15 rfl ?_
  refine ik_new (pc := 16) X 10 [.null, .null, .int 0] tyX8 tyX8_ok rfl wx_X8 wl_X5_18 wt_X8 wn_X8 df_X8 dX5_init_16 (bc' := 11) (bs' := 3826) rfl rfl (fun q2 => ?_)
  refine ik_dup (pc := 19) X dX5_init_19 rfl ?_
  refine ik_call (pc := 20) X (host := "TagFlow") [.ref q2, .ref a] (mk_X8 l g hZ) hlen rfl (fun V h => (hZ V h).2.2.2.2.2.2.2.2.1) wi_yX8_init wn_X8 wc_yX8_init rfl (by decide) (by decide) (by decide) (Nat.le_of_ble_eq_true rfl) dX5_init_20 (bc' := 9) (bs' := 1778) rfl rfl (fun qq2 hzqq2 => ?_)
  refine ik_put (pc := 23) X 1 tyX5 tyX5_ok nmX5 rfl wx_X5 (by decide) wf_X5_21 (Or.inr ⟨rfl, hin, rfl⟩) rfl rfl dX5_init_23 hlen hf (fun hf => ?_)
  refine ik_aload_n (pc := 26) X dX5_init_26 rfl ?_
  refine ik_new (pc := 27) X 4 [.null, .null, .null, .null, .int 0] tyX2 tyX2_ok rfl wx_X2 wl_X5_25 wt_X2 wn_X2 df_X2 dX5_init_27 (bc' := 8) (bs' := 1773) rfl rfl (fun q3 => ?_)
  refine ik_dup (pc := 30) X dX5_init_30 rfl ?_
  refine ik_call (pc := 31) X (host := "TagFlow") [.ref q3, .ref a] (mk_X2 l g hZ) hlen rfl (fun V h => (hZ V h).2.2.2.2.2.2.2.2.2.1) wi_yX2_init wn_X2 wc_yX2_init rfl (by decide) (by decide) (by decide) (Nat.le_of_ble_eq_true rfl) dX5_init_31 (bc' := 4) (bs' := 1517) rfl rfl (fun qq3 hzqq3 => ?_)
  refine ik_put (pc := 34) X 5 tyX5 tyX5_ok nmX5 rfl wx_X5 (by decide) wf_X5_28 (Or.inr ⟨rfl, hin, rfl⟩) rfl rfl dX5_init_34 hlen hf (fun hf => ?_)
  refine ik_aload_n (pc := 37) X dX5_init_37 rfl ?_
  refine ik_new (pc := 38) X 2 [.null, .null, .int 0, .int 0] tyX0 tyX0_ok rfl wx_X0 wl_X5_32 wt_X0 wn_X0 df_X0 dX5_init_38 (bc' := 3) (bs' := 1513) rfl rfl (fun q4 => ?_)
  refine ik_dup (pc := 41) X dX5_init_41 rfl ?_
  refine ik_call (pc := 42) X (host := "TagFlow") [.ref q4, .ref a] (mk_X0 l g hZ) hlen rfl (fun V h => (hZ V h).2.2.2.2.2.2.2.2.2.2) wi_yX0_init wn_X0 wc_yX0_init rfl (by decide) (by decide) (by decide) (Nat.le_of_ble_eq_true rfl) dX5_init_42 (bc' := 1) (bs' := 1001) rfl rfl (fun qq4 hzqq4 => ?_)
  refine ik_put (pc := 45) X 6 tyX5 tyX5_ok nmX5 rfl wx_X5 (by decide) wf_X5_35 (Or.inr ⟨rfl, hin, rfl⟩) rfl rfl dX5_init_45 hlen hf (fun hf => ?_)
  refine ik_aload_n (pc := 48) X dX5_init_48 rfl ?_
  refine ik_sipush (pc := 49) X dX5_init_49 sc_1001 ?_
  refine ik_newI (pc := 52) X 1001 (by decide) (by decide) (by decide) dX5_init_52 (bc' := 0) (bs' := 0) rfl rfl (fun q5 => ?_)
  refine ik_put (pc := 54) X 7 tyX5 tyX5_ok nmX5 rfl wx_X5 (by decide) wf_X5_39 (Or.inr ⟨rfl, hin, rfl⟩) rfl rfl dX5_init_54 hlen hf (fun hf => ?_)
  refine ik_vret (pc := 57) X dX5_init_57 (fun M' h => ⟨rfl, (fun i => List.getD [q1, (qq1 0), (qq1 1), (qq1 2), (qq1 3), (qq1 4), (qq1 5), (qq1 6), (qq1 7), (qq1 8), (qq1 9), (qq1 10), (qq1 11), (qq1 12), (qq1 13), (qq1 14), (qq1 15), (qq1 16), (qq1 17), (qq1 18), (qq1 19), (qq1 20), (qq1 21), (qq1 22), q2, (qq2 0), (qq2 1), q3, (qq3 0), (qq3 1), (qq3 2), (qq3 3), q4, (qq4 0), (qq4 1), q5] i 0), ?_⟩)
  generalize hq : (fun i => List.getD [q1, (qq1 0), (qq1 1), (qq1 2), (qq1 3), (qq1 4), (qq1 5), (qq1 6), (qq1 7), (qq1 8), (qq1 9), (qq1 10), (qq1 11), (qq1 12), (qq1 13), (qq1 14), (qq1 15), (qq1 16), (qq1 17), (qq1 18), (qq1 19), (qq1 20), (qq1 21), (qq1 22), q2, (qq2 0), (qq2 1), q3, (qq3 0), (qq3 1), (qq3 2), (qq3 3), q4, (qq4 0), (qq4 1), q5] i 0) = q
  have a0 : q 0 = q1 := by rw [← hq]; rfl
  have a1 : q 1 = (qq1 0) := by rw [← hq]; rfl
  have a2 : q 2 = (qq1 1) := by rw [← hq]; rfl
  have a3 : q 3 = (qq1 2) := by rw [← hq]; rfl
  have a4 : q 4 = (qq1 3) := by rw [← hq]; rfl
  have a5 : q 5 = (qq1 4) := by rw [← hq]; rfl
  have a6 : q 6 = (qq1 5) := by rw [← hq]; rfl
  have a7 : q 7 = (qq1 6) := by rw [← hq]; rfl
  have a8 : q 8 = (qq1 7) := by rw [← hq]; rfl
  have a9 : q 9 = (qq1 8) := by rw [← hq]; rfl
  have a10 : q 10 = (qq1 9) := by rw [← hq]; rfl
  have a11 : q 11 = (qq1 10) := by rw [← hq]; rfl
  have a12 : q 12 = (qq1 11) := by rw [← hq]; rfl
  have a13 : q 13 = (qq1 12) := by rw [← hq]; rfl
  have a14 : q 14 = (qq1 13) := by rw [← hq]; rfl
  have a15 : q 15 = (qq1 14) := by rw [← hq]; rfl
  have a16 : q 16 = (qq1 15) := by rw [← hq]; rfl
  have a17 : q 17 = (qq1 16) := by rw [← hq]; rfl
  have a18 : q 18 = (qq1 17) := by rw [← hq]; rfl
  have a19 : q 19 = (qq1 18) := by rw [← hq]; rfl
  have a20 : q 20 = (qq1 19) := by rw [← hq]; rfl
  have a21 : q 21 = (qq1 20) := by rw [← hq]; rfl
  have a22 : q 22 = (qq1 21) := by rw [← hq]; rfl
  have a23 : q 23 = (qq1 22) := by rw [← hq]; rfl
  have a24 : q 24 = q2 := by rw [← hq]; rfl
  have a25 : q 25 = (qq2 0) := by rw [← hq]; rfl
  have a26 : q 26 = (qq2 1) := by rw [← hq]; rfl
  have a27 : q 27 = q3 := by rw [← hq]; rfl
  have a28 : q 28 = (qq3 0) := by rw [← hq]; rfl
  have a29 : q 29 = (qq3 1) := by rw [← hq]; rfl
  have a30 : q 30 = (qq3 2) := by rw [← hq]; rfl
  have a31 : q 31 = (qq3 3) := by rw [← hq]; rfl
  have a32 : q 32 = q4 := by rw [← hq]; rfl
  have a33 : q 33 = (qq4 0) := by rw [← hq]; rfl
  have a34 : q 34 = (qq4 1) := by rw [← hq]; rfl
  have a35 : q 35 = q5 := by rw [← hq]; rfl
  simp only [al_X5c, fs_X5, ct_X5, ct_X5_0, a0, a1, a2, a3, a4, a5, a6, a7, a8, a9, a10, a11, a12, a13, a14, a15, a16, a17, a18, a19, a20, a21, a22, a23, a24, a25, a26, a27, a28, a29, a30, a31, a32, a33, a34, a35]
  simp only [al_X3c, fs_X3, ct_X3, ct_X3_0, al_X8c, fs_X8, ct_X8, ct_X8_0, al_X2c, fs_X2, ct_X2, ct_X2_0, al_X0c, fs_X0, ct_X0, ct_X0_0, List.nil_append, List.cons_append, List.set_cons_succ, List.set_cons_zero] at h ⊢
  exact h
def fs_X10 (q : Nat → Nat) : List Value := [.ref (q 0), .ref (q 1), .ref (q 2), .ref (q 37), .int 0, .int 0, .int 0]
def al_X10c (q : Nat → Nat) : List Nat := [q 0, q 1, q 2, q 3, q 4, q 5, q 6, q 7, q 8, q 9, q 10, q 11, q 12, q 13, q 14, q 15, q 16, q 17, q 18, q 19, q 20, q 21, q 22, q 23, q 24, q 25, q 26, q 27, q 28, q 29, q 30, q 31, q 32, q 33, q 34, q 35, q 36, q 37, q 38, q 39, q 40, q 41, q 42, q 43, q 44, q 45, q 46, q 47, q 48, q 49, q 50, q 51, q 52, q 53, q 54, q 55, q 56, q 57, q 58, q 59, q 60, q 61, q 62, q 63, q 64, q 65, q 66, q 67, q 68, q 69, q 70, q 71, q 72, q 73]
def ct_X10_0 (g : im_G) (q : Nat → Nat) : List va_E := [.inl (g.2.1 0, 500, .inl (fun _ => 0)), .inl (g.2.1 2, 4, .inr (.inl (fun _ => 0))), .inr (9, [.ref (q 3), .ref (q 4), .ref (q 28), .ref (q 32), .ref (q 36), .int 0, .int 0, .int 0, .int 0, .int 0, .int 0]), .inr (3, [.int 0, .int 0]), .inr (5, [.ref (q 5), .ref (q 13), .ref (q 14), .ref (q 15), .ref (q 16), .ref (q 17), .ref (q 18), .ref (q 19), .ref (q 20), .ref (q 21), .ref (q 22), .ref (q 23), .ref (q 24), .ref (q 25), .ref (q 26), .ref (q 27), .int 0]), .inr (6, [.ref (q 6), .ref (q 7), .ref (q 8), .int 0, .ref (q 9), .ref (q 10), .int 0, .ref (q 11), .ref (q 12), .int 0]), .inl (g.2.1 2, 8, .inr (.inl (fun _ => 0))), .inl (g.2.1 1, 8, .inl (fun _ => 0)), .inl (g.2.1 1, 8, .inl (fun _ => 0)), .inl (g.2.1 1, 512, .inl (fun _ => 0)), .inl (g.2.1 1, 512, .inl (fun _ => 0)), .inl (g.2.1 1, 512, .inl (fun _ => 0)), .inl (g.2.1 1, 512, .inl (fun _ => 0)), .inl (g.2.1 1, 512, .inl (fun _ => 0)), .inl (g.2.1 1, 512, .inl (fun _ => 0)), .inl (g.2.1 1, 512, .inl (fun _ => 0)), .inl (g.2.1 1, 512, .inl (fun _ => 0)), .inl (g.2.1 1, 512, .inl (fun _ => 0)), .inl (g.2.1 1, 512, .inl (fun _ => 0)), .inl (g.2.1 1, 512, .inl (fun _ => 0)), .inl (g.2.1 1, 512, .inl (fun _ => 0)), .inl (g.2.1 1, 512, .inl (fun _ => 0)), .inl (g.2.1 1, 512, .inl (fun _ => 0)), .inl (g.2.1 1, 512, .inl (fun _ => 0)), .inl (g.2.1 1, 512, .inl (fun _ => 0)), .inl (g.2.1 1, 512, .inl (fun _ => 0)), .inl (g.2.1 1, 512, .inl (fun _ => 0)), .inl (g.2.1 2, 512, .inr (.inl (fun _ => 0))), .inr (11, [.ref (q 29), .ref (q 30), .ref (q 31), .int 0]), .inl (g.2.1 1, 501, .inl (fun _ => 0)), .inl (g.2.1 1, 501, .inl (fun _ => 0)), .inl (g.2.1 2, 501, .inr (.inl (fun _ => 0))), .inr (8, [.ref (q 33), .ref (q 34), .ref (q 35), .int 0]), .inl (g.2.1 1, 512, .inl (fun _ => 0)), .inl (g.2.1 1, 512, .inl (fun _ => 0)), .inl (g.2.1 1, 512, .inl (fun _ => 0)), .inl (g.2.1 1, 512, .inl (fun _ => 0)), .inr (7, [.ref (q 38), .ref (q 62), .int 0, .int 0, .long 0, .ref (q 65), .ref (q 70), .ref (q 73), .int 0, .int 0, .int 0, .int 0, .int 0, .int 0, .int 0, .long 0]), .inr (5, [.ref (q 39), .ref (q 47), .ref (q 48), .ref (q 49), .ref (q 50), .ref (q 51), .ref (q 52), .ref (q 53), .ref (q 54), .ref (q 55), .ref (q 56), .ref (q 57), .ref (q 58), .ref (q 59), .ref (q 60), .ref (q 61), .int 0]), .inr (6, [.ref (q 40), .ref (q 41), .ref (q 42), .int 0, .ref (q 43), .ref (q 44), .int 0, .ref (q 45), .ref (q 46), .int 0])]
def ct_X10_1 (g : im_G) (q : Nat → Nat) : List va_E := [.inl (g.2.1 2, 8, .inr (.inl (fun _ => 0))), .inl (g.2.1 1, 8, .inl (fun _ => 0)), .inl (g.2.1 1, 8, .inl (fun _ => 0)), .inl (g.2.1 1, 512, .inl (fun _ => 0)), .inl (g.2.1 1, 512, .inl (fun _ => 0)), .inl (g.2.1 1, 512, .inl (fun _ => 0)), .inl (g.2.1 1, 512, .inl (fun _ => 0)), .inl (g.2.1 1, 512, .inl (fun _ => 0)), .inl (g.2.1 1, 512, .inl (fun _ => 0)), .inl (g.2.1 1, 512, .inl (fun _ => 0)), .inl (g.2.1 1, 512, .inl (fun _ => 0)), .inl (g.2.1 1, 512, .inl (fun _ => 0)), .inl (g.2.1 1, 512, .inl (fun _ => 0)), .inl (g.2.1 1, 512, .inl (fun _ => 0)), .inl (g.2.1 1, 512, .inl (fun _ => 0)), .inl (g.2.1 1, 512, .inl (fun _ => 0)), .inl (g.2.1 1, 512, .inl (fun _ => 0)), .inl (g.2.1 1, 512, .inl (fun _ => 0)), .inl (g.2.1 1, 512, .inl (fun _ => 0)), .inl (g.2.1 1, 512, .inl (fun _ => 0)), .inl (g.2.1 1, 512, .inl (fun _ => 0)), .inl (g.2.1 2, 512, .inr (.inl (fun _ => 0))), .inr (10, [.ref (q 63), .ref (q 64), .int 0]), .inl (g.2.1 0, 1024, .inl (fun _ => 0)), .inl (g.2.1 2, 1024, .inr (.inl (fun _ => 0))), .inr (4, [.ref (q 66), .ref (q 67), .ref (q 68), .ref (q 69), .int 0]), .inl (g.2.1 1, 64, .inl (fun _ => 0)), .inl (g.2.1 1, 64, .inl (fun _ => 0)), .inl (g.2.1 1, 64, .inl (fun _ => 0)), .inl (g.2.1 1, 64, .inl (fun _ => 0)), .inr (2, [.ref (q 71), .ref (q 72), .int 1, .int 0]), .inl (g.2.1 1, 256, .inl (fun _ => 0)), .inl (g.2.1 1, 256, .inl (fun _ => 0)), .inl (g.2.1 1, 1001, .inl (fun _ => 0))]
def ct_X10 (g : im_G) (q : Nat → Nat) : List va_E := ct_X10_0 g q ++ ct_X10_1 g q
set_option maxHeartbeats 4000000 in
set_option maxRecDepth 100000 in
/-- X10() -/
theorem mk_X10 (l : Launch) (g : im_G) (hZ : ∀ V, g.2.2.2 V → im_nest V) : im_J l g 4 yX10_init cX10_init 74 27479 12 [.null, .null, .null, .null, .int 0, .int 0, .int 0] fs_X10 al_X10c (ct_X10 g) := by
  intro al0 ct0 a M hlen hM
  refine im_met (own := RX10) (by decide +kernel) rfl (Nat.le_of_ble_eq_true rfl) (fun p e s m below meth c X hin => ?_)
  refine ik_go hM ?_
  refine ik_aload_n (pc := 0) X dX10_init_0 rfl ?_
  refine ik_objInit (pc := 1) X wo_X10 dX10_init_1 (by decide) (Nat.le_of_ble_eq_true rfl) ?_
  refine ik_aload_n (pc := 4) X dX10_init_4 rfl ?_
  refine ik_sipush (pc := 5) X dX10_init_5 sc_500 ?_
  refine ik_newB (pc := 8) X 500 (by decide) (by decide) (by decide) dX10_init_8 (bc' := 73) (bs' := 26979) rfl rfl (fun q1 => ?_)
  refine ik_put (pc := 10) X 0 tyX10 tyX10_ok nmX10 rfl wx_X10 (by decide) wf_X10_9 (Or.inr ⟨rfl, hin, rfl⟩) rfl rfl dX10_init_10 hlen rfl (fun hf => ?_)
  refine ik_aload_n (pc := 13) X dX10_init_13 rfl ?_
  refine ik_iconst (pc := 14) X dX10_init_14 ic_4 ?_
  refine ik_newJ (pc := 15) X 4 (by decide) (by decide) (by decide) dX10_init_15 (bc' := 72) (bs' := 26975) rfl rfl (fun q2 => ?_)
  refine ik_put (pc := 17) X 1 tyX10 tyX10_ok nmX10 rfl wx_X10 (by decide) wf_X10_13 (Or.inr ⟨rfl, hin, rfl⟩) rfl rfl dX10_init_17 hlen hf (fun hf => ?_)
  refine ik_aload_n (pc := 20) X dX10_init_20 rfl ?_
  refine ik_new (pc := 21) X 9 [.null, .null, .null, .null, .null, .int 0, .int 0, .int 0, .int 0, .int 0, .int 0] tyX7 tyX7_ok rfl wx_X7 wl_X10_17 wt_X7 wn_X7 df_X7 dX10_init_21 (bc' := 71) (bs' := 26964) rfl rfl (fun q3 => ?_)
  refine ik_dup (pc := 24) X dX10_init_24 rfl ?_
  refine ik_call (pc := 25) X (host := "TagFlow") [.ref q3, .ref a] (mk_X7 l g hZ) hlen rfl (fun V h => (hZ V h).1) wi_yX7_init wn_X7 wc_yX7_init rfl (by decide) (by decide) (by decide) (Nat.le_of_ble_eq_true rfl) dX10_init_25 (bc' := 37) (bs' := 13624) rfl rfl (fun qq1 hzqq1 => ?_)
  refine ik_put (pc := 28) X 2 tyX10 tyX10_ok nmX10 rfl wx_X10 (by decide) wf_X10_20 (Or.inr ⟨rfl, hin, rfl⟩) rfl rfl dX10_init_28 hlen hf (fun hf => ?_)
  refine ik_aload_n (pc := 31) X dX10_init_31 rfl ?_
  refine ik_new (pc := 32) X 7 [.null, .null, .int 0, .int 0, .long 0, .null, .null, .null, .int 0, .int 0, .int 0, .int 0, .int 0, .int 0, .int 0, .long 0] tyX5 tyX5_ok rfl wx_X5 wl_X10_24 wt_X5 wn_X5 df_X5 dX10_init_32 (bc' := 36) (bs' := 13608) rfl rfl (fun q4 => ?_)
  refine ik_dup (pc := 35) X dX10_init_35 rfl ?_
  refine ik_call (pc := 36) X (host := "TagFlow") [.ref q4, .ref a] (mk_X5 l g hZ) hlen rfl (fun V h => (hZ V h).2.2.2.2.2.2.1) wi_yX5_init wn_X5 wc_yX5_init rfl (by decide) (by decide) (by decide) (Nat.le_of_ble_eq_true rfl) dX10_init_36 (bc' := 0) (bs' := 0) rfl rfl (fun qq2 hzqq2 => ?_)
  refine ik_put (pc := 39) X 3 tyX10 tyX10_ok nmX10 rfl wx_X10 (by decide) wf_X10_27 (Or.inr ⟨rfl, hin, rfl⟩) rfl rfl dX10_init_39 hlen hf (fun hf => ?_)
  refine ik_vret (pc := 42) X dX10_init_42 (fun M' h => ⟨rfl, (fun i => List.getD [q1, q2, q3, (qq1 0), (qq1 1), (qq1 2), (qq1 3), (qq1 4), (qq1 5), (qq1 6), (qq1 7), (qq1 8), (qq1 9), (qq1 10), (qq1 11), (qq1 12), (qq1 13), (qq1 14), (qq1 15), (qq1 16), (qq1 17), (qq1 18), (qq1 19), (qq1 20), (qq1 21), (qq1 22), (qq1 23), (qq1 24), (qq1 25), (qq1 26), (qq1 27), (qq1 28), (qq1 29), (qq1 30), (qq1 31), (qq1 32), (qq1 33), q4, (qq2 0), (qq2 1), (qq2 2), (qq2 3), (qq2 4), (qq2 5), (qq2 6), (qq2 7), (qq2 8), (qq2 9), (qq2 10), (qq2 11), (qq2 12), (qq2 13), (qq2 14), (qq2 15), (qq2 16), (qq2 17), (qq2 18), (qq2 19), (qq2 20), (qq2 21), (qq2 22), (qq2 23), (qq2 24), (qq2 25), (qq2 26), (qq2 27), (qq2 28), (qq2 29), (qq2 30), (qq2 31), (qq2 32), (qq2 33), (qq2 34), (qq2 35)] i 0), ?_⟩)
  generalize hq : (fun i => List.getD [q1, q2, q3, (qq1 0), (qq1 1), (qq1 2), (qq1 3), (qq1 4), (qq1 5), (qq1 6), (qq1 7), (qq1 8), (qq1 9), (qq1 10), (qq1 11), (qq1 12), (qq1 13), (qq1 14), (qq1 15), (qq1 16), (qq1 17), (qq1 18), (qq1 19), (qq1 20), (qq1 21), (qq1 22), (qq1 23), (qq1 24), (qq1 25), (qq1 26), (qq1 27), (qq1 28), (qq1 29), (qq1 30), (qq1 31), (qq1 32), (qq1 33), q4, (qq2 0), (qq2 1), (qq2 2), (qq2 3), (qq2 4), (qq2 5), (qq2 6), (qq2 7), (qq2 8), (qq2 9), (qq2 10), (qq2 11), (qq2 12), (qq2 13), (qq2 14), (qq2 15), (qq2 16), (qq2 17), (qq2 18), (qq2 19), (qq2 20), (qq2 21), (qq2 22), (qq2 23), (qq2 24), (qq2 25), (qq2 26), (qq2 27), (qq2 28), (qq2 29), (qq2 30), (qq2 31), (qq2 32), (qq2 33), (qq2 34), (qq2 35)] i 0) = q
  have a0 : q 0 = q1 := by rw [← hq]; rfl
  have a1 : q 1 = q2 := by rw [← hq]; rfl
  have a2 : q 2 = q3 := by rw [← hq]; rfl
  have a3 : q 3 = (qq1 0) := by rw [← hq]; rfl
  have a4 : q 4 = (qq1 1) := by rw [← hq]; rfl
  have a5 : q 5 = (qq1 2) := by rw [← hq]; rfl
  have a6 : q 6 = (qq1 3) := by rw [← hq]; rfl
  have a7 : q 7 = (qq1 4) := by rw [← hq]; rfl
  have a8 : q 8 = (qq1 5) := by rw [← hq]; rfl
  have a9 : q 9 = (qq1 6) := by rw [← hq]; rfl
  have a10 : q 10 = (qq1 7) := by rw [← hq]; rfl
  have a11 : q 11 = (qq1 8) := by rw [← hq]; rfl
  have a12 : q 12 = (qq1 9) := by rw [← hq]; rfl
  have a13 : q 13 = (qq1 10) := by rw [← hq]; rfl
  have a14 : q 14 = (qq1 11) := by rw [← hq]; rfl
  have a15 : q 15 = (qq1 12) := by rw [← hq]; rfl
  have a16 : q 16 = (qq1 13) := by rw [← hq]; rfl
  have a17 : q 17 = (qq1 14) := by rw [← hq]; rfl
  have a18 : q 18 = (qq1 15) := by rw [← hq]; rfl
  have a19 : q 19 = (qq1 16) := by rw [← hq]; rfl
  have a20 : q 20 = (qq1 17) := by rw [← hq]; rfl
  have a21 : q 21 = (qq1 18) := by rw [← hq]; rfl
  have a22 : q 22 = (qq1 19) := by rw [← hq]; rfl
  have a23 : q 23 = (qq1 20) := by rw [← hq]; rfl
  have a24 : q 24 = (qq1 21) := by rw [← hq]; rfl
  have a25 : q 25 = (qq1 22) := by rw [← hq]; rfl
  have a26 : q 26 = (qq1 23) := by rw [← hq]; rfl
  have a27 : q 27 = (qq1 24) := by rw [← hq]; rfl
  have a28 : q 28 = (qq1 25) := by rw [← hq]; rfl
  have a29 : q 29 = (qq1 26) := by rw [← hq]; rfl
  have a30 : q 30 = (qq1 27) := by rw [← hq]; rfl
  have a31 : q 31 = (qq1 28) := by rw [← hq]; rfl
  have a32 : q 32 = (qq1 29) := by rw [← hq]; rfl
  have a33 : q 33 = (qq1 30) := by rw [← hq]; rfl
  have a34 : q 34 = (qq1 31) := by rw [← hq]; rfl
  have a35 : q 35 = (qq1 32) := by rw [← hq]; rfl
  have a36 : q 36 = (qq1 33) := by rw [← hq]; rfl
  have a37 : q 37 = q4 := by rw [← hq]; rfl
  have a38 : q 38 = (qq2 0) := by rw [← hq]; rfl
  have a39 : q 39 = (qq2 1) := by rw [← hq]; rfl
  have a40 : q 40 = (qq2 2) := by rw [← hq]; rfl
  have a41 : q 41 = (qq2 3) := by rw [← hq]; rfl
  have a42 : q 42 = (qq2 4) := by rw [← hq]; rfl
  have a43 : q 43 = (qq2 5) := by rw [← hq]; rfl
  have a44 : q 44 = (qq2 6) := by rw [← hq]; rfl
  have a45 : q 45 = (qq2 7) := by rw [← hq]; rfl
  have a46 : q 46 = (qq2 8) := by rw [← hq]; rfl
  have a47 : q 47 = (qq2 9) := by rw [← hq]; rfl
  have a48 : q 48 = (qq2 10) := by rw [← hq]; rfl
  have a49 : q 49 = (qq2 11) := by rw [← hq]; rfl
  have a50 : q 50 = (qq2 12) := by rw [← hq]; rfl
  have a51 : q 51 = (qq2 13) := by rw [← hq]; rfl
  have a52 : q 52 = (qq2 14) := by rw [← hq]; rfl
  have a53 : q 53 = (qq2 15) := by rw [← hq]; rfl
  have a54 : q 54 = (qq2 16) := by rw [← hq]; rfl
  have a55 : q 55 = (qq2 17) := by rw [← hq]; rfl
  have a56 : q 56 = (qq2 18) := by rw [← hq]; rfl
  have a57 : q 57 = (qq2 19) := by rw [← hq]; rfl
  have a58 : q 58 = (qq2 20) := by rw [← hq]; rfl
  have a59 : q 59 = (qq2 21) := by rw [← hq]; rfl
  have a60 : q 60 = (qq2 22) := by rw [← hq]; rfl
  have a61 : q 61 = (qq2 23) := by rw [← hq]; rfl
  have a62 : q 62 = (qq2 24) := by rw [← hq]; rfl
  have a63 : q 63 = (qq2 25) := by rw [← hq]; rfl
  have a64 : q 64 = (qq2 26) := by rw [← hq]; rfl
  have a65 : q 65 = (qq2 27) := by rw [← hq]; rfl
  have a66 : q 66 = (qq2 28) := by rw [← hq]; rfl
  have a67 : q 67 = (qq2 29) := by rw [← hq]; rfl
  have a68 : q 68 = (qq2 30) := by rw [← hq]; rfl
  have a69 : q 69 = (qq2 31) := by rw [← hq]; rfl
  have a70 : q 70 = (qq2 32) := by rw [← hq]; rfl
  have a71 : q 71 = (qq2 33) := by rw [← hq]; rfl
  have a72 : q 72 = (qq2 34) := by rw [← hq]; rfl
  have a73 : q 73 = (qq2 35) := by rw [← hq]; rfl
  simp only [al_X10c, fs_X10, ct_X10, ct_X10_0, ct_X10_1, a0, a1, a2, a3, a4, a5, a6, a7, a8, a9, a10, a11, a12, a13, a14, a15, a16, a17, a18, a19, a20, a21, a22, a23, a24, a25, a26, a27, a28, a29, a30, a31, a32, a33, a34, a35, a36, a37, a38, a39, a40, a41, a42, a43, a44, a45, a46, a47, a48, a49, a50, a51, a52, a53, a54, a55, a56, a57, a58, a59, a60, a61, a62, a63, a64, a65, a66, a67, a68, a69, a70, a71, a72, a73]
  simp only [al_X7c, fs_X7, ct_X7, ct_X7_0, al_X5c, fs_X5, ct_X5, ct_X5_0, List.nil_append, List.cons_append, List.set_cons_succ, List.set_cons_zero] at h ⊢
  exact h
