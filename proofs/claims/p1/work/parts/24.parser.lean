/-! written by program (wip/whole/walk.py): methods as functions, and their contracts -/
def f_X7_kindHere (S : im_S) : Option (Int32 × im_S) := gd (in_b (S.1 3 6) 501) (some ((S.1 31) ((S.1 3 6).toNatClampNeg), S))
set_option maxHeartbeats 4000000 in
set_option maxRecDepth 100000 in
theorem f_X7_kindHere_e (l : Launch) (g : im_G) (ad : Nat → Nat) (S : im_S) (r : Int32) (S' : im_S) (hm : f_X7_kindHere  S = some (r, S')) : im_E l g ad 0 yX7_kindHere cX7_kindHere 1 (some Jvm.ClassFile.FieldType.int) [.ref (ad 3)] S (some (.int r)) S' := by
  unfold f_X7_kindHere at hm
  refine is_met (own := RX7) (by decide +kernel) rfl (Nat.le_of_ble_eq_true rfl) (fun p e s m below meth c X => ?_)
  refine iv_aload_n (pc := 0) X dX7_kindHere_0 rfl ?_
  refine gF_X7_28_3 (pc := 1) X dX7_kindHere_1 ?_
  refine gF_X7_75_30 (pc := 4) X dX7_kindHere_4 ?_
  refine iv_aload_n (pc := 7) X dX7_kindHere_7 rfl ?_
  refine gF_X7_51_3 (pc := 8) X dX7_kindHere_8 (x := S.1 3 6) rfl ?_
  obtain ⟨hg, hm⟩ := gd_some hm
  refine aL_31 (pc := 11) X dX7_kindHere_11 hg (x := (S.1 31) ((S.1 3 6).toNatClampNeg)) rfl ?_
  cases hm
  exact is_iret (pc := 12) X dX7_kindHere_12
def f_X7_placeHere (S : im_S) : Option (Int32 × im_S) := gd (in_b (S.1 3 6) 501) (some ((S.1 32) ((S.1 3 6).toNatClampNeg), S))
set_option maxHeartbeats 4000000 in
set_option maxRecDepth 100000 in
theorem f_X7_placeHere_e (l : Launch) (g : im_G) (ad : Nat → Nat) (S : im_S) (r : Int32) (S' : im_S) (hm : f_X7_placeHere  S = some (r, S')) : im_E l g ad 0 yX7_placeHere cX7_placeHere 1 (some Jvm.ClassFile.FieldType.int) [.ref (ad 3)] S (some (.int r)) S' := by
  unfold f_X7_placeHere at hm
  refine is_met (own := RX7) (by decide +kernel) rfl (Nat.le_of_ble_eq_true rfl) (fun p e s m below meth c X => ?_)
  refine iv_aload_n (pc := 0) X dX7_placeHere_0 rfl ?_
  refine gF_X7_28_3 (pc := 1) X dX7_placeHere_1 ?_
  refine gF_X7_77_30 (pc := 4) X dX7_placeHere_4 ?_
  refine iv_aload_n (pc := 7) X dX7_placeHere_7 rfl ?_
  refine gF_X7_51_3 (pc := 8) X dX7_placeHere_8 (x := S.1 3 6) rfl ?_
  obtain ⟨hg, hm⟩ := gd_some hm
  refine aL_32 (pc := 11) X dX7_placeHere_11 hg (x := (S.1 32) ((S.1 3 6).toNatClampNeg)) rfl ?_
  cases hm
  exact is_iret (pc := 12) X dX7_placeHere_12
def f_X7_refuse (S : im_S) : Option (Int32 × im_S) := gd (in_b (S.1 3 6) 501) (some (0, (uI (uI S 5 0 1) 5 1 ((S.1 32) ((S.1 3 6).toNatClampNeg)))))
set_option maxHeartbeats 4000000 in
set_option maxRecDepth 100000 in
theorem f_X7_refuse_e (l : Launch) (g : im_G) (ad : Nat → Nat) (S : im_S) (r : Int32) (S' : im_S) (hm : f_X7_refuse  S = some (r, S')) : im_E l g ad 0 yX7_refuse cX7_refuse 1 (some Jvm.ClassFile.FieldType.boolean) [.ref (ad 3)] S (some (.int r)) S' := by
  unfold f_X7_refuse at hm
  refine is_met (own := RX7) (by decide +kernel) rfl (Nat.le_of_ble_eq_true rfl) (fun p e s m below meth c X => ?_)
  refine iv_aload_n (pc := 0) X dX7_refuse_0 rfl ?_
  refine gF_X7_12_3 (pc := 1) X dX7_refuse_1 ?_
  refine iv_iconst (pc := 4) X dX7_refuse_4 ic_1 ?_
  refine pF_X7_72_5 (pc := 5) X dX7_refuse_5 ?_
  refine iv_aload_n (pc := 8) X dX7_refuse_8 rfl ?_
  refine gF_X7_12_3 (pc := 9) X dX7_refuse_9 ?_
  refine iv_aload_n (pc := 12) X dX7_refuse_12 rfl ?_
  refine gF_X7_28_3 (pc := 13) X dX7_refuse_13 ?_
  refine gF_X7_77_30 (pc := 16) X dX7_refuse_16 ?_
  refine iv_aload_n (pc := 19) X dX7_refuse_19 rfl ?_
  refine gF_X7_51_3 (pc := 20) X dX7_refuse_20 (x := S.1 3 6) rfl ?_
  obtain ⟨hg, hm⟩ := gd_some hm
  refine aL_32 (pc := 23) X dX7_refuse_23 hg (x := (S.1 32) ((S.1 3 6).toNatClampNeg)) rfl ?_
  refine pF_X7_80_5 (pc := 24) X dX7_refuse_24 ?_
  refine iv_iconst (pc := 27) X dX7_refuse_27 ic_0 ?_
  cases hm
  exact is_zret (pc := 28) X dX7_refuse_28 rfl
def f_X7_take (x1 : Int32) (S : im_S) : Option (Int32 × im_S) := (f_X7_kindHere S).bind (fun qS1 => if (qS1.1 : Int32) = x1 then (some (1, (uI qS1.2 3 6 ((qS1.2.1 3 6) + 1)))) else ((f_X7_refuse qS1.2).bind (fun qS5 => gd (z_b qS5.1) (some (qS5.1, qS5.2)))))
set_option maxHeartbeats 4000000 in
set_option maxRecDepth 100000 in
theorem f_X7_take_e (l : Launch) (g : im_G) (ad : Nat → Nat) (x1 : Int32) (S : im_S) (r : Int32) (S' : im_S) (hm : f_X7_take x1 S = some (r, S')) : im_E l g ad 1 yX7_take cX7_take 2 (some Jvm.ClassFile.FieldType.boolean) [.ref (ad 3), .int x1] S (some (.int r)) S' := by
  unfold f_X7_take at hm
  refine is_met (own := RX7) (by decide +kernel) rfl (Nat.le_of_ble_eq_true rfl) (fun p e s m below meth c X => ?_)
  refine iv_aload_n (pc := 0) X dX7_take_0 rfl ?_
  obtain ⟨⟨r2, S1⟩, hc3, hm⟩ := bd_some hm
  refine cV_X7_62_3 (pc := 1) X [] [] 0 rfl (f_X7_kindHere_e l g ad  S _ _ hc3) (by decide) (by decide) (Nat.le_of_ble_eq_true rfl) rfl dX7_take_1 ?_
  refine iv_iload_n (pc := 4) X dX7_take_4 rfl ?_
  refine iv_icmp_eq (pc := 5) X dX7_take_5 (tgt := 13) rfl (fun hb4 => ?_) (fun hb4 => ?_)
  · rw [if_pos hb4] at hm
    refine iv_aload_n (pc := 13) X dX7_take_13 rfl ?_
    refine iv_dup (pc := 14) X dX7_take_14 rfl ?_
    refine gF_X7_51_3 (pc := 15) X dX7_take_15 (x := S1.1 3 6) rfl ?_
    refine iv_iconst (pc := 18) X dX7_take_18 ic_1 ?_
    refine iv_iadd (pc := 19) X dX7_take_19 ?_
    refine pF_X7_51_3 (pc := 20) X dX7_take_20 ?_
    refine iv_iconst (pc := 23) X dX7_take_23 ic_1 ?_
    cases hm
    exact is_zret (pc := 24) X dX7_take_24 rfl
  · rw [if_neg hb4] at hm
    refine iv_aload_n (pc := 8) X dX7_take_8 rfl ?_
    obtain ⟨⟨r6, S5⟩, hc7, hm⟩ := bd_some hm
    refine cV_X7_66_3 (pc := 9) X [] [] 0 rfl (f_X7_refuse_e l g ad  S1 _ _ hc7) (by decide) (by decide) (Nat.le_of_ble_eq_true rfl) rfl dX7_take_9 ?_
    obtain ⟨hg, hm⟩ := gd_some hm
    cases hm
    exact is_zret (pc := 12) X dX7_take_12 (z_b_n hg)
def f_X7_open (x1 : Int32) (x2 : Int32) (x3 : Int32) (S : im_S) : Option (Int32 × im_S) := (f_X6_push x1 x2 x3 S).bind (fun qS1 => some (1, (uI qS1.2 3 7 0)))
set_option maxHeartbeats 4000000 in
set_option maxRecDepth 100000 in
theorem f_X7_open_e (l : Launch) (g : im_G) (ad : Nat → Nat) (x1 : Int32) (x2 : Int32) (x3 : Int32) (S : im_S) (r : Int32) (S' : im_S) (hm : f_X7_open x1 x2 x3 S = some (r, S')) : im_E l g ad 1 yX7_open cX7_open 4 (some Jvm.ClassFile.FieldType.boolean) [.ref (ad 3), .int x1, .int x2, .int x3] S (some (.int r)) S' := by
  unfold f_X7_open at hm
  refine is_met (own := RX7) (by decide +kernel) rfl (Nat.le_of_ble_eq_true rfl) (fun p e s m below meth c X => ?_)
  refine iv_aload_n (pc := 0) X dX7_open_0 rfl ?_
  refine gF_X7_35_3 (pc := 1) X dX7_open_1 ?_
  refine iv_iload_n (pc := 4) X dX7_open_4 rfl ?_
  refine iv_iload_n (pc := 5) X dX7_open_5 rfl ?_
  refine iv_iload_n (pc := 6) X dX7_open_6 rfl ?_
  obtain ⟨⟨r2, S1⟩, hc3, hm⟩ := bd_some hm
  refine cV_X7_118_34 (pc := 7) X [.int x1, .int x2, .int x3] [] 3 rfl (f_X6_push_e l g ad x1 x2 x3 S _ _ hc3) (by decide) (by decide) (Nat.le_of_ble_eq_true rfl) rfl dX7_open_7 ?_
  refine iv_aload_n (pc := 10) X dX7_open_10 rfl ?_
  refine iv_iconst (pc := 11) X dX7_open_11 ic_0 ?_
  refine pF_X7_122_3 (pc := 12) X dX7_open_12 ?_
  refine iv_iconst (pc := 15) X dX7_open_15 ic_1 ?_
  cases hm
  exact is_zret (pc := 16) X dX7_open_16 rfl
def f_X7_endOperand (x1 : Int32) (S : im_S) : Option (Int32 × im_S) := some (1, (uI (uI S 3 8 x1) 3 7 2))
set_option maxHeartbeats 4000000 in
set_option maxRecDepth 100000 in
theorem f_X7_endOperand_e (l : Launch) (g : im_G) (ad : Nat → Nat) (x1 : Int32) (S : im_S) (r : Int32) (S' : im_S) (hm : f_X7_endOperand x1 S = some (r, S')) : im_E l g ad 0 yX7_endOperand cX7_endOperand 2 (some Jvm.ClassFile.FieldType.boolean) [.ref (ad 3), .int x1] S (some (.int r)) S' := by
  unfold f_X7_endOperand at hm
  refine is_met (own := RX7) (by decide +kernel) rfl (Nat.le_of_ble_eq_true rfl) (fun p e s m below meth c X => ?_)
  refine iv_aload_n (pc := 0) X dX7_endOperand_0 rfl ?_
  refine iv_iload_n (pc := 1) X dX7_endOperand_1 rfl ?_
  refine pF_X7_193_3 (pc := 2) X dX7_endOperand_2 ?_
  refine iv_aload_n (pc := 5) X dX7_endOperand_5 rfl ?_
  refine iv_iconst (pc := 6) X dX7_endOperand_6 ic_2 ?_
  refine pF_X7_122_3 (pc := 7) X dX7_endOperand_7 ?_
  refine iv_iconst (pc := 10) X dX7_endOperand_10 ic_1 ?_
  cases hm
  exact is_zret (pc := 11) X dX7_endOperand_11 rfl
def f_X7_openBracket (S : im_S) : Option (Int32 × im_S) := (f_X7_placeHere S).bind (fun qS1 => (f_X6_topRegion (uI (uI qS1.2 3 6 ((qS1.2.1 3 6) + 1)) 3 9 ((qS1.2.1 3 9) + 1))).bind (fun qS4 => (f_X7_open 11 qS1.1 qS4.1 qS4.2).bind (fun qS7 => gd (z_b qS7.1) (some (qS7.1, qS7.2)))))
set_option maxHeartbeats 4000000 in
set_option maxRecDepth 100000 in
theorem f_X7_openBracket_e (l : Launch) (g : im_G) (ad : Nat → Nat) (S : im_S) (r : Int32) (S' : im_S) (hm : f_X7_openBracket  S = some (r, S')) : im_E l g ad 2 yX7_openBracket cX7_openBracket 2 (some Jvm.ClassFile.FieldType.boolean) [.ref (ad 3)] S (some (.int r)) S' := by
  unfold f_X7_openBracket at hm
  refine is_met (own := RX7) (by decide +kernel) rfl (Nat.le_of_ble_eq_true rfl) (fun p e s m below meth c X => ?_)
  refine iv_aload_n (pc := 0) X dX7_openBracket_0 rfl ?_
  obtain ⟨⟨r2, S1⟩, hc3, hm⟩ := bd_some hm
  refine cV_X7_96_3 (pc := 1) X [] [] 0 rfl (f_X7_placeHere_e l g ad  S _ _ hc3) (by decide) (by decide) (Nat.le_of_ble_eq_true rfl) rfl dX7_openBracket_1 ?_
  refine iv_istore_n (pc := 4) X dX7_openBracket_4 (by decide) (lv' := [(1, .int r2), (0, .ref (ad 3))]) rfl ?_
  refine iv_aload_n (pc := 5) X dX7_openBracket_5 rfl ?_
  refine iv_dup (pc := 6) X dX7_openBracket_6 rfl ?_
  refine gF_X7_51_3 (pc := 7) X dX7_openBracket_7 (x := S1.1 3 6) rfl ?_
  refine iv_iconst (pc := 10) X dX7_openBracket_10 ic_1 ?_
  refine iv_iadd (pc := 11) X dX7_openBracket_11 ?_
  refine pF_X7_51_3 (pc := 12) X dX7_openBracket_12 ?_
  refine iv_aload_n (pc := 15) X dX7_openBracket_15 rfl ?_
  refine iv_dup (pc := 16) X dX7_openBracket_16 rfl ?_
  refine gF_X7_109_3 (pc := 17) X dX7_openBracket_17 (x := S1.1 3 9) rfl ?_
  refine iv_iconst (pc := 20) X dX7_openBracket_20 ic_1 ?_
  refine iv_iadd (pc := 21) X dX7_openBracket_21 ?_
  refine pF_X7_109_3 (pc := 22) X dX7_openBracket_22 ?_
  refine iv_aload_n (pc := 25) X dX7_openBracket_25 rfl ?_
  refine iv_bipush (pc := 26) X dX7_openBracket_26 bc_11 ?_
  refine iv_iload_n (pc := 28) X dX7_openBracket_28 rfl ?_
  refine iv_aload_n (pc := 29) X dX7_openBracket_29 rfl ?_
  refine gF_X7_35_3 (pc := 30) X dX7_openBracket_30 ?_
  obtain ⟨⟨r5, S4⟩, hc6, hm⟩ := bd_some hm
  refine cV_X7_186_34 (pc := 33) X [] [.int r2, .int 11, .ref (ad 3)] 0 rfl (f_X6_topRegion_e l g ad  (uI (uI S1 3 6 ((S1.1 3 6) + 1)) 3 9 ((S1.1 3 9) + 1)) _ _ hc6) (by decide) (by decide) (Nat.le_of_ble_eq_true rfl) rfl dX7_openBracket_33 ?_
  obtain ⟨⟨r8, S7⟩, hc9, hm⟩ := bd_some hm
  refine cV_X7_212_3 (pc := 36) X [.int 11, .int r2, .int r5] [] 3 rfl (f_X7_open_e l g ad 11 r2 r5 S4 _ _ hc9) (by decide) (by decide) (Nat.le_of_ble_eq_true rfl) rfl dX7_openBracket_36 ?_
  obtain ⟨hg, hm⟩ := gd_some hm
  cases hm
  exact is_zret (pc := 39) X dX7_openBracket_39 (z_b_n hg)
def f_X7_know (x1 : Int32) (S : im_S) : Option (Unit × im_S) := gd (in_b (S.1 3 5) 512) (some ((), (uI (uI S 4 ((S.1 3 5).toNatClampNeg) x1) 3 5 ((S.1 3 5) + 1))))
set_option maxHeartbeats 4000000 in
set_option maxRecDepth 100000 in
theorem f_X7_know_e (l : Launch) (g : im_G) (ad : Nat → Nat) (x1 : Int32) (S : im_S) (r : Unit) (S' : im_S) (hm : f_X7_know x1 S = some (r, S')) : im_E l g ad 0 yX7_know cX7_know 2 none [.ref (ad 3), .int x1] S none S' := by
  unfold f_X7_know at hm
  refine is_met (own := RX7) (by decide +kernel) rfl (Nat.le_of_ble_eq_true rfl) (fun p e s m below meth c X => ?_)
  refine iv_aload_n (pc := 0) X dX7_know_0 rfl ?_
  refine gF_X7_39_3 (pc := 1) X dX7_know_1 ?_
  refine iv_aload_n (pc := 4) X dX7_know_4 rfl ?_
  refine gF_X7_106_3 (pc := 5) X dX7_know_5 (x := S.1 3 5) rfl ?_
  refine iv_iload_n (pc := 8) X dX7_know_8 rfl ?_
  obtain ⟨hg, hm⟩ := gd_some hm
  refine aS_4 (pc := 9) X dX7_know_9 hg ?_
  refine iv_aload_n (pc := 10) X dX7_know_10 rfl ?_
  refine iv_dup (pc := 11) X dX7_know_11 rfl ?_
  refine gF_X7_106_3 (pc := 12) X dX7_know_12 (x := S.1 3 5) rfl ?_
  refine iv_iconst (pc := 15) X dX7_know_15 ic_1 ?_
  refine iv_iadd (pc := 16) X dX7_know_16 ?_
  refine pF_X7_106_3 (pc := 17) X dX7_know_17 ?_
  cases hm
  exact is_vret (pc := 20) X dX7_know_20
def f_X7_forget (x1 : Int32) (S : im_S) : Option (Unit × im_S) := some ((), (uI S 3 5 ((S.1 3 5) - x1)))
set_option maxHeartbeats 4000000 in
set_option maxRecDepth 100000 in
theorem f_X7_forget_e (l : Launch) (g : im_G) (ad : Nat → Nat) (x1 : Int32) (S : im_S) (r : Unit) (S' : im_S) (hm : f_X7_forget x1 S = some (r, S')) : im_E l g ad 0 yX7_forget cX7_forget 2 none [.ref (ad 3), .int x1] S none S' := by
  unfold f_X7_forget at hm
  refine is_met (own := RX7) (by decide +kernel) rfl (Nat.le_of_ble_eq_true rfl) (fun p e s m below meth c X => ?_)
  refine iv_aload_n (pc := 0) X dX7_forget_0 rfl ?_
  refine iv_dup (pc := 1) X dX7_forget_1 rfl ?_
  refine gF_X7_106_3 (pc := 2) X dX7_forget_2 (x := S.1 3 5) rfl ?_
  refine iv_iload_n (pc := 5) X dX7_forget_5 rfl ?_
  refine iv_isub (pc := 6) X dX7_forget_6 ?_
  refine pF_X7_106_3 (pc := 7) X dX7_forget_7 ?_
  cases hm
  exact is_vret (pc := 10) X dX7_forget_10
def f_X7_findKnown_L7 (fu : Nat) : Nat → Int64 → Int32 → im_S → Option (Int32 × im_S)
  | 0, _, _, _ => none
  | nf + 1, z1, z3, S => if (z3 : Int32) < 0 then (some ((-1), S)) else (gd (in_b z3 512) (gd (in_b ((S.1 4) z3.toNatClampNeg) 512) (if (lg_cmp ((S.2.1 21) (((S.1 4) z3.toNatClampNeg).toNatClampNeg)) z1 : Int32) ≠ 0 then (f_X7_findKnown_L7 fu nf z1 (z3 + (-1)) S) else (gd (in_b z3 512) (some ((S.1 4) z3.toNatClampNeg, S))))))
set_option maxHeartbeats 4000000 in
set_option maxRecDepth 100000 in
theorem f_X7_findKnown_L7_w {fu : Nat} (l : Launch) (g : im_G) (ad : Nat → Nat) {p : Program} {e : Env} {s : State} {m : MethodId} {below : List Frame} {meth : Method} {c : Code} {args : Array Value} (X : im_X p l s m args meth c g cX7_findKnown 4 RX7 (some Jvm.ClassFile.FieldType.int)) : ∀ (nf : Nat) (z1 : Int64) (z3 : Int32) (S : im_S) (r : Int32) (S' : im_S), f_X7_findKnown_L7 fu nf z1 z3 S = some (r, S') → im_V p l e (im_R 0 0 0) s m args below meth c g 4 (im_Z below g ad args s (some (.int r)) S') ad im_N (im_cn g ad S) 0 0 7 [(0, .ref (ad 3)), (1, .long z1), (3, .int z3)] [] := by
  intro nf
  induction nf with
  | zero =>
    intro z1 z3 S r S' hm
    cases hm
  | succ nf ih =>
    intro z1 z3 S r S' hm
    unfold f_X7_findKnown_L7 at hm
    refine iv_iload_n (pc := 7) X dX7_findKnown_7 rfl ?_
    refine iv_if_lt (pc := 8) X dX7_findKnown_8 (tgt := 43) rfl (fun hb1 => ?_) (fun hb1 => ?_)
    · rw [if_pos hb1] at hm
      refine iv_iconst (pc := 43) X dX7_findKnown_43 ic_m1 ?_
      cases hm
      exact is_iret (pc := 44) X dX7_findKnown_44
    · rw [if_neg hb1] at hm
      refine iv_aload_n (pc := 11) X dX7_findKnown_11 rfl ?_
      refine gF_X7_21_3 (pc := 12) X dX7_findKnown_12 ?_
      refine gF_X7_232_6 (pc := 15) X dX7_findKnown_15 ?_
      refine iv_aload_n (pc := 18) X dX7_findKnown_18 rfl ?_
      refine gF_X7_39_3 (pc := 19) X dX7_findKnown_19 ?_
      refine iv_iload_n (pc := 22) X dX7_findKnown_22 rfl ?_
      obtain ⟨hg, hm⟩ := gd_some hm
      refine aL_4 (pc := 23) X dX7_findKnown_23 hg (x := (S.1 4) z3.toNatClampNeg) rfl ?_
      obtain ⟨hg, hm⟩ := gd_some hm
      refine aL_21 (pc := 24) X dX7_findKnown_24 hg (x := (S.2.1 21) (((S.1 4) z3.toNatClampNeg).toNatClampNeg)) rfl ?_
      refine iv_lload_n (pc := 25) X dX7_findKnown_25 rfl ?_
      refine iv_lcmp (pc := 26) X dX7_findKnown_26 ?_
      refine iv_if_ne (pc := 27) X dX7_findKnown_27 (tgt := 37) rfl (fun hb2 => ?_) (fun hb2 => ?_)
      · rw [if_pos hb2] at hm
        refine iv_iinc (pc := 37) X dX7_findKnown_37 rfl (by decide) (v := z3 + (-1)) rfl (lv' := [(3, .int (z3 + (-1))), (0, .ref (ad 3)), (1, .long z1)]) rfl ?_
        refine iv_goto (pc := 40) X dX7_findKnown_40 (tgt := 7) rfl ?_
        refine iv_sub [1, 2, 0] (lv2 := [(0, .ref (ad 3)), (1, .long z1), (3, .int (z3 + (-1)))]) rfl ?_
        exact ih z1 (z3 + (-1)) S _ _ hm
      · rw [if_neg hb2] at hm
        refine iv_aload_n (pc := 30) X dX7_findKnown_30 rfl ?_
        refine gF_X7_39_3 (pc := 31) X dX7_findKnown_31 ?_
        refine iv_iload_n (pc := 34) X dX7_findKnown_34 rfl ?_
        obtain ⟨hg, hm⟩ := gd_some hm
        refine aL_4 (pc := 35) X dX7_findKnown_35 hg (x := (S.1 4) z3.toNatClampNeg) rfl ?_
        cases hm
        exact is_iret (pc := 36) X dX7_findKnown_36
def f_X7_findKnown (fu : Nat) (x1 : Int64) (S : im_S) : Option (Int32 × im_S) := f_X7_findKnown_L7 fu fu x1 ((S.1 3 5) - 1) S
set_option maxHeartbeats 4000000 in
set_option maxRecDepth 100000 in
theorem f_X7_findKnown_e (l : Launch) (g : im_G) (ad : Nat → Nat) (fu : Nat) (x1 : Int64) (S : im_S) (r : Int32) (S' : im_S) (hm : f_X7_findKnown fu x1 S = some (r, S')) : im_E l g ad 0 yX7_findKnown cX7_findKnown 4 (some Jvm.ClassFile.FieldType.int) [.ref (ad 3), .long x1] S (some (.int r)) S' := by
  unfold f_X7_findKnown at hm
  refine is_met (own := RX7) (by decide +kernel) rfl (Nat.le_of_ble_eq_true rfl) (fun p e s m below meth c X => ?_)
  refine iv_aload_n (pc := 0) X dX7_findKnown_0 rfl ?_
  refine gF_X7_106_3 (pc := 1) X dX7_findKnown_1 (x := S.1 3 5) rfl ?_
  refine iv_iconst (pc := 4) X dX7_findKnown_4 ic_1 ?_
  refine iv_isub (pc := 5) X dX7_findKnown_5 ?_
  refine iv_istore_n (pc := 6) X dX7_findKnown_6 (by decide) (lv' := [(3, .int ((S.1 3 5) - 1)), (0, .ref (ad 3)), (1, .long x1)]) rfl ?_
  refine iv_sub [1, 2, 0] (lv2 := [(0, .ref (ad 3)), (1, .long x1), (3, .int ((S.1 3 5) - 1))]) rfl ?_
  exact f_X7_findKnown_L7_w (fu := fu) l g ad X fu x1 ((S.1 3 5) - 1) S _ _ hm
def f_X7_typeOf_L5 (fu : Nat) : Nat → Int64 → Int64 → Int32 → im_S → Option (Int32 × im_S)
  | 0, _, _, _, _ => none
  | nf + 1, z0, z2, z4, S => if (6 : Int32) ≤ z4 then (if (0 : Int32) < (lg_cmp z2 114) then (if (0 : Int32) < (lg_cmp z2 117) then (some (3, S)) else (some (2, S))) else (some (1, S))) else (if (lg_cmp z2 255 : Int32) ≤ 0 then (if (0 : Int32) < (lg_cmp z2 114) then (if (0 : Int32) < (lg_cmp z2 117) then (some (3, S)) else (some (2, S))) else (some (1, S))) else (f_X7_typeOf_L5 fu nf z0 (z2 >>> ((8 : Int32).toInt64 &&& 63)) (z4 + 1) S))
set_option maxHeartbeats 4000000 in
set_option maxRecDepth 100000 in
theorem f_X7_typeOf_L5_w {fu : Nat} (l : Launch) (g : im_G) (ad : Nat → Nat) {p : Program} {e : Env} {s : State} {m : MethodId} {below : List Frame} {meth : Method} {c : Code} {args : Array Value} (X : im_X p l s m args meth c g cX7_typeOf 5 RX7 (some Jvm.ClassFile.FieldType.int)) : ∀ (nf : Nat) (z0 : Int64) (z2 : Int64) (z4 : Int32) (S : im_S) (r : Int32) (S' : im_S), f_X7_typeOf_L5 fu nf z0 z2 z4 S = some (r, S') → im_V p l e (im_R 0 0 0) s m args below meth c g 5 (im_Z below g ad args s (some (.int r)) S') ad im_N (im_cn g ad S) 0 0 5 [(0, .long z0), (2, .long z2), (4, .int z4)] [] := by
  intro nf
  induction nf with
  | zero =>
    intro z0 z2 z4 S r S' hm
    cases hm
  | succ nf ih =>
    intro z0 z2 z4 S r S' hm
    unfold f_X7_typeOf_L5 at hm
    refine iv_iload (pc := 5) X dX7_typeOf_5 rfl ?_
    refine iv_bipush (pc := 7) X dX7_typeOf_7 bc_6 ?_
    refine iv_icmp_ge (pc := 9) X dX7_typeOf_9 (tgt := 31) rfl (fun hb1 => ?_) (fun hb1 => ?_)
    · rw [if_pos hb1] at hm
      refine iv_lload_n (pc := 31) X dX7_typeOf_31 rfl ?_
      refine iv_ldc2 (pc := 32) X wk_X7_258 dX7_typeOf_32 ?_
      refine iv_lcmp (pc := 35) X dX7_typeOf_35 ?_
      refine iv_if_gt (pc := 36) X dX7_typeOf_36 (tgt := 41) rfl (fun hb2 => ?_) (fun hb2 => ?_)
      · rw [if_pos hb2] at hm
        refine iv_lload_n (pc := 41) X dX7_typeOf_41 rfl ?_
        refine iv_ldc2 (pc := 42) X wk_X7_260 dX7_typeOf_42 ?_
        refine iv_lcmp (pc := 45) X dX7_typeOf_45 ?_
        refine iv_if_gt (pc := 46) X dX7_typeOf_46 (tgt := 53) rfl (fun hb3 => ?_) (fun hb3 => ?_)
        · rw [if_pos hb3] at hm
          refine iv_iconst (pc := 53) X dX7_typeOf_53 ic_3 ?_
          cases hm
          exact is_iret (pc := 54) X dX7_typeOf_54
        · rw [if_neg hb3] at hm
          refine iv_iconst (pc := 49) X dX7_typeOf_49 ic_2 ?_
          refine iv_goto (pc := 50) X dX7_typeOf_50 (tgt := 54) rfl ?_
          cases hm
          exact is_iret (pc := 54) X dX7_typeOf_54
      · rw [if_neg hb2] at hm
        refine iv_iconst (pc := 39) X dX7_typeOf_39 ic_1 ?_
        cases hm
        exact is_iret (pc := 40) X dX7_typeOf_40
    · rw [if_neg hb1] at hm
      refine iv_lload_n (pc := 12) X dX7_typeOf_12 rfl ?_
      refine iv_ldc2 (pc := 13) X wk_X7_256 dX7_typeOf_13 ?_
      refine iv_lcmp (pc := 16) X dX7_typeOf_16 ?_
      refine iv_if_le (pc := 17) X dX7_typeOf_17 (tgt := 31) rfl (fun hb4 => ?_) (fun hb4 => ?_)
      · rw [if_pos hb4] at hm
        refine iv_lload_n (pc := 31) X dX7_typeOf_31 rfl ?_
        refine iv_ldc2 (pc := 32) X wk_X7_258 dX7_typeOf_32 ?_
        refine iv_lcmp (pc := 35) X dX7_typeOf_35 ?_
        refine iv_if_gt (pc := 36) X dX7_typeOf_36 (tgt := 41) rfl (fun hb5 => ?_) (fun hb5 => ?_)
        · rw [if_pos hb5] at hm
          refine iv_lload_n (pc := 41) X dX7_typeOf_41 rfl ?_
          refine iv_ldc2 (pc := 42) X wk_X7_260 dX7_typeOf_42 ?_
          refine iv_lcmp (pc := 45) X dX7_typeOf_45 ?_
          refine iv_if_gt (pc := 46) X dX7_typeOf_46 (tgt := 53) rfl (fun hb6 => ?_) (fun hb6 => ?_)
          · rw [if_pos hb6] at hm
            refine iv_iconst (pc := 53) X dX7_typeOf_53 ic_3 ?_
            cases hm
            exact is_iret (pc := 54) X dX7_typeOf_54
          · rw [if_neg hb6] at hm
            refine iv_iconst (pc := 49) X dX7_typeOf_49 ic_2 ?_
            refine iv_goto (pc := 50) X dX7_typeOf_50 (tgt := 54) rfl ?_
            cases hm
            exact is_iret (pc := 54) X dX7_typeOf_54
        · rw [if_neg hb5] at hm
          refine iv_iconst (pc := 39) X dX7_typeOf_39 ic_1 ?_
          cases hm
          exact is_iret (pc := 40) X dX7_typeOf_40
      · rw [if_neg hb4] at hm
        refine iv_lload_n (pc := 20) X dX7_typeOf_20 rfl ?_
        refine iv_bipush (pc := 21) X dX7_typeOf_21 bc_8 ?_
        refine iv_lshr (pc := 23) X dX7_typeOf_23 rfl ?_
        refine iv_lstore_n (pc := 24) X dX7_typeOf_24 (by decide) (lv' := [(2, .long (z2 >>> ((8 : Int32).toInt64 &&& 63))), (0, .long z0), (4, .int z4)]) rfl ?_
        refine iv_iinc (pc := 25) X dX7_typeOf_25 rfl (by decide) (v := z4 + 1) rfl (lv' := [(4, .int (z4 + 1)), (2, .long (z2 >>> ((8 : Int32).toInt64 &&& 63))), (0, .long z0)]) rfl ?_
        refine iv_goto (pc := 28) X dX7_typeOf_28 (tgt := 5) rfl ?_
        refine iv_sub [2, 1, 0] (lv2 := [(0, .long z0), (2, .long (z2 >>> ((8 : Int32).toInt64 &&& 63))), (4, .int (z4 + 1))]) rfl ?_
        exact ih z0 (z2 >>> ((8 : Int32).toInt64 &&& 63)) (z4 + 1) S _ _ hm
def f_X7_typeOf (fu : Nat) (x0 : Int64) (S : im_S) : Option (Int32 × im_S) := f_X7_typeOf_L5 fu fu x0 x0 1 S
set_option maxHeartbeats 4000000 in
set_option maxRecDepth 100000 in
theorem f_X7_typeOf_e (l : Launch) (g : im_G) (ad : Nat → Nat) (fu : Nat) (x0 : Int64) (S : im_S) (r : Int32) (S' : im_S) (hm : f_X7_typeOf fu x0 S = some (r, S')) : im_E l g ad 0 yX7_typeOf cX7_typeOf 5 (some Jvm.ClassFile.FieldType.int) [.long x0] S (some (.int r)) S' := by
  unfold f_X7_typeOf at hm
  refine is_met (own := RX7) (by decide +kernel) rfl (Nat.le_of_ble_eq_true rfl) (fun p e s m below meth c X => ?_)
  refine iv_lload_n (pc := 0) X dX7_typeOf_0 rfl ?_
  refine iv_lstore_n (pc := 1) X dX7_typeOf_1 (by decide) (lv' := [(2, .long x0), (0, .long x0)]) rfl ?_
  refine iv_iconst (pc := 2) X dX7_typeOf_2 ic_1 ?_
  refine iv_istore (pc := 3) X dX7_typeOf_3 (by decide) (lv' := [(4, .int 1), (2, .long x0), (0, .long x0)]) rfl ?_
  refine iv_sub [2, 1, 0] (lv2 := [(0, .long x0), (2, .long x0), (4, .int 1)]) rfl ?_
  exact f_X7_typeOf_L5_w (fu := fu) l g ad X fu x0 x0 1 S _ _ hm
def f_X7_checkType (x1 : Int32) (x2 : Int32) (S : im_S) : Option (Unit × im_S) := gd (in_b x1 512) (if ((S.1 8) x1.toNatClampNeg : Int32) = x2 then (some ((), S)) else (gd (in_b x1 512) ((f_X1_note 3 ((S.1 20) x1.toNatClampNeg) S).bind (fun qS2 => some ((), qS2.2)))))
set_option maxHeartbeats 4000000 in
set_option maxRecDepth 100000 in
theorem f_X7_checkType_e (l : Launch) (g : im_G) (ad : Nat → Nat) (x1 : Int32) (x2 : Int32) (S : im_S) (r : Unit) (S' : im_S) (hm : f_X7_checkType x1 x2 S = some (r, S')) : im_E l g ad 1 yX7_checkType cX7_checkType 3 none [.ref (ad 3), .int x1, .int x2] S none S' := by
  unfold f_X7_checkType at hm
  refine is_met (own := RX7) (by decide +kernel) rfl (Nat.le_of_ble_eq_true rfl) (fun p e s m below meth c X => ?_)
  refine iv_aload_n (pc := 0) X dX7_checkType_0 rfl ?_
  refine gF_X7_21_3 (pc := 1) X dX7_checkType_1 ?_
  refine gF_X7_262_6 (pc := 4) X dX7_checkType_4 ?_
  refine iv_iload_n (pc := 7) X dX7_checkType_7 rfl ?_
  obtain ⟨hg, hm⟩ := gd_some hm
  refine aL_8 (pc := 8) X dX7_checkType_8 hg (x := (S.1 8) x1.toNatClampNeg) rfl ?_
  refine iv_iload_n (pc := 9) X dX7_checkType_9 rfl ?_
  refine iv_icmp_eq (pc := 10) X dX7_checkType_10 (tgt := 30) rfl (fun hb1 => ?_) (fun hb1 => ?_)
  · rw [if_pos hb1] at hm
    cases hm
    exact is_vret (pc := 30) X dX7_checkType_30
  · rw [if_neg hb1] at hm
    refine iv_aload_n (pc := 13) X dX7_checkType_13 rfl ?_
    refine gF_X7_12_3 (pc := 14) X dX7_checkType_14 ?_
    refine iv_iconst (pc := 17) X dX7_checkType_17 ic_3 ?_
    refine iv_aload_n (pc := 18) X dX7_checkType_18 rfl ?_
    refine gF_X7_21_3 (pc := 19) X dX7_checkType_19 ?_
    refine gF_X7_265_6 (pc := 22) X dX7_checkType_22 ?_
    refine iv_iload_n (pc := 25) X dX7_checkType_25 rfl ?_
    obtain ⟨hg, hm⟩ := gd_some hm
    refine aL_20 (pc := 26) X dX7_checkType_26 hg (x := (S.1 20) x1.toNatClampNeg) rfl ?_
    obtain ⟨⟨r3, S2⟩, hc4, hm⟩ := bd_some hm
    refine cV_X7_99_5 (pc := 27) X [.int 3, .int ((S.1 20) x1.toNatClampNeg)] [] 2 rfl (f_X1_note_e l g ad 3 ((S.1 20) x1.toNatClampNeg) S _ _ hc4) (by decide) (by decide) (Nat.le_of_ble_eq_true rfl) rfl dX7_checkType_27 ?_
    cases hm
    exact is_vret (pc := 30) X dX7_checkType_30
def f_X7_endOperator (x1 : Int32) (S : im_S) : Option (Unit × im_S) := (f_X6_pop S).bind (fun qS1 => if (x1 : Int32) ≠ 6 then (gd (in_b qS1.1 512) ((f_X3_connect (qS1.2.1 3 8) 2 qS1.1 (-1) (uI qS1.2 13 qS1.1.toNatClampNeg (qS1.2.1 3 8))).bind (fun qS5 => if (x1 : Int32) < 3 then ((f_X7_checkType (qS5.2.1 3 8) 2 qS5.2).bind (fun qS9 => some ((), (uI qS9.2 3 8 qS1.1)))) else ((f_X7_checkType (qS5.2.1 3 8) 1 qS5.2).bind (fun qS12 => some ((), (uI qS12.2 3 8 qS1.1))))))) else (gd (in_b qS1.1 512) ((f_X3_connect (qS1.2.1 3 8) 1 qS1.1 (-1) (uI qS1.2 12 qS1.1.toNatClampNeg (qS1.2.1 3 8))).bind (fun qS15 => gd (in_b qS1.1 512) ((f_X7_checkType (qS15.2.1 3 8) ((qS15.2.1 8) qS1.1.toNatClampNeg) qS15.2).bind (fun qS18 => some ((), (uI qS18.2 3 8 qS1.1))))))))
set_option maxHeartbeats 4000000 in
set_option maxRecDepth 100000 in
theorem f_X7_endOperator_e (l : Launch) (g : im_G) (ad : Nat → Nat) (x1 : Int32) (S : im_S) (r : Unit) (S' : im_S) (hm : f_X7_endOperator x1 S = some (r, S')) : im_E l g ad 2 yX7_endOperator cX7_endOperator 3 none [.ref (ad 3), .int x1] S none S' := by
  unfold f_X7_endOperator at hm
  refine is_met (own := RX7) (by decide +kernel) rfl (Nat.le_of_ble_eq_true rfl) (fun p e s m below meth c X => ?_)
  refine iv_aload_n (pc := 0) X dX7_endOperator_0 rfl ?_
  refine gF_X7_35_3 (pc := 1) X dX7_endOperator_1 ?_
  obtain ⟨⟨r2, S1⟩, hc3, hm⟩ := bd_some hm
  refine cV_X7_303_34 (pc := 4) X [] [] 0 rfl (f_X6_pop_e l g ad  S _ _ hc3) (by decide) (by decide) (Nat.le_of_ble_eq_true rfl) rfl dX7_endOperator_4 ?_
  refine iv_istore_n (pc := 7) X dX7_endOperator_7 (by decide) (lv' := [(2, .int r2), (0, .ref (ad 3)), (1, .int x1)]) rfl ?_
  refine iv_iload_n (pc := 8) X dX7_endOperator_8 rfl ?_
  refine iv_bipush (pc := 9) X dX7_endOperator_9 bc_6 ?_
  refine iv_icmp_ne (pc := 11) X dX7_endOperator_11 (tgt := 61) rfl (fun hb4 => ?_) (fun hb4 => ?_)
  · rw [if_pos hb4] at hm
    refine iv_aload_n (pc := 61) X dX7_endOperator_61 rfl ?_
    refine gF_X7_21_3 (pc := 62) X dX7_endOperator_62 ?_
    refine gF_X7_229_6 (pc := 65) X dX7_endOperator_65 ?_
    refine iv_iload_n (pc := 68) X dX7_endOperator_68 rfl ?_
    refine iv_aload_n (pc := 69) X dX7_endOperator_69 rfl ?_
    refine gF_X7_193_3 (pc := 70) X dX7_endOperator_70 (x := S1.1 3 8) rfl ?_
    obtain ⟨hg, hm⟩ := gd_some hm
    refine aS_13 (pc := 73) X dX7_endOperator_73 hg ?_
    refine iv_aload_n (pc := 74) X dX7_endOperator_74 rfl ?_
    refine gF_X7_21_3 (pc := 75) X dX7_endOperator_75 ?_
    refine iv_aload_n (pc := 78) X dX7_endOperator_78 rfl ?_
    refine gF_X7_193_3 (pc := 79) X dX7_endOperator_79 (x := S1.1 3 8) rfl ?_
    refine iv_iconst (pc := 82) X dX7_endOperator_82 ic_2 ?_
    refine iv_iload_n (pc := 83) X dX7_endOperator_83 rfl ?_
    refine iv_iconst (pc := 84) X dX7_endOperator_84 ic_m1 ?_
    obtain ⟨⟨r6, S5⟩, hc7, hm⟩ := bd_some hm
    refine cV_X7_296_6 (pc := 85) X [.int (S1.1 3 8), .int 2, .int r2, .int (-1)] [] 4 rfl (f_X3_connect_e l g ad (S1.1 3 8) 2 r2 (-1) (uI S1 13 r2.toNatClampNeg (S1.1 3 8)) _ _ hc7) (by decide) (by decide) (Nat.le_of_ble_eq_true rfl) rfl dX7_endOperator_85 ?_
    refine iv_aload_n (pc := 88) X dX7_endOperator_88 rfl ?_
    refine iv_aload_n (pc := 89) X dX7_endOperator_89 rfl ?_
    refine gF_X7_193_3 (pc := 90) X dX7_endOperator_90 (x := S5.1 3 8) rfl ?_
    refine iv_iload_n (pc := 93) X dX7_endOperator_93 rfl ?_
    refine iv_iconst (pc := 94) X dX7_endOperator_94 ic_3 ?_
    refine iv_icmp_lt (pc := 95) X dX7_endOperator_95 (tgt := 102) rfl (fun hb8 => ?_) (fun hb8 => ?_)
    · rw [if_pos hb8] at hm
      refine iv_iconst (pc := 102) X dX7_endOperator_102 ic_2 ?_
      obtain ⟨⟨r10, S9⟩, hc11, hm⟩ := bd_some hm
      refine cV_X7_226_3 (pc := 103) X [.int (S5.1 3 8), .int 2] [] 2 rfl (f_X7_checkType_e l g ad (S5.1 3 8) 2 S5 _ _ hc11) (by decide) (by decide) (Nat.le_of_ble_eq_true rfl) rfl dX7_endOperator_103 ?_
      refine iv_aload_n (pc := 106) X dX7_endOperator_106 rfl ?_
      refine iv_iload_n (pc := 107) X dX7_endOperator_107 rfl ?_
      refine pF_X7_193_3 (pc := 108) X dX7_endOperator_108 ?_
      cases hm
      exact is_vret (pc := 111) X dX7_endOperator_111
    · rw [if_neg hb8] at hm
      refine iv_iconst (pc := 98) X dX7_endOperator_98 ic_1 ?_
      refine iv_goto (pc := 99) X dX7_endOperator_99 (tgt := 103) rfl ?_
      obtain ⟨⟨r13, S12⟩, hc14, hm⟩ := bd_some hm
      refine cV_X7_226_3 (pc := 103) X [.int (S5.1 3 8), .int 1] [] 2 rfl (f_X7_checkType_e l g ad (S5.1 3 8) 1 S5 _ _ hc14) (by decide) (by decide) (Nat.le_of_ble_eq_true rfl) rfl dX7_endOperator_103 ?_
      refine iv_aload_n (pc := 106) X dX7_endOperator_106 rfl ?_
      refine iv_iload_n (pc := 107) X dX7_endOperator_107 rfl ?_
      refine pF_X7_193_3 (pc := 108) X dX7_endOperator_108 ?_
      cases hm
      exact is_vret (pc := 111) X dX7_endOperator_111
  · rw [if_neg hb4] at hm
    refine iv_aload_n (pc := 14) X dX7_endOperator_14 rfl ?_
    refine gF_X7_21_3 (pc := 15) X dX7_endOperator_15 ?_
    refine gF_X7_209_6 (pc := 18) X dX7_endOperator_18 ?_
    refine iv_iload_n (pc := 21) X dX7_endOperator_21 rfl ?_
    refine iv_aload_n (pc := 22) X dX7_endOperator_22 rfl ?_
    refine gF_X7_193_3 (pc := 23) X dX7_endOperator_23 (x := S1.1 3 8) rfl ?_
    obtain ⟨hg, hm⟩ := gd_some hm
    refine aS_12 (pc := 26) X dX7_endOperator_26 hg ?_
    refine iv_aload_n (pc := 27) X dX7_endOperator_27 rfl ?_
    refine gF_X7_21_3 (pc := 28) X dX7_endOperator_28 ?_
    refine iv_aload_n (pc := 31) X dX7_endOperator_31 rfl ?_
    refine gF_X7_193_3 (pc := 32) X dX7_endOperator_32 (x := S1.1 3 8) rfl ?_
    refine iv_iconst (pc := 35) X dX7_endOperator_35 ic_1 ?_
    refine iv_iload_n (pc := 36) X dX7_endOperator_36 rfl ?_
    refine iv_iconst (pc := 37) X dX7_endOperator_37 ic_m1 ?_
    obtain ⟨⟨r16, S15⟩, hc17, hm⟩ := bd_some hm
    refine cV_X7_296_6 (pc := 38) X [.int (S1.1 3 8), .int 1, .int r2, .int (-1)] [] 4 rfl (f_X3_connect_e l g ad (S1.1 3 8) 1 r2 (-1) (uI S1 12 r2.toNatClampNeg (S1.1 3 8)) _ _ hc17) (by decide) (by decide) (Nat.le_of_ble_eq_true rfl) rfl dX7_endOperator_38 ?_
    refine iv_aload_n (pc := 41) X dX7_endOperator_41 rfl ?_
    refine iv_aload_n (pc := 42) X dX7_endOperator_42 rfl ?_
    refine gF_X7_193_3 (pc := 43) X dX7_endOperator_43 (x := S15.1 3 8) rfl ?_
    refine iv_aload_n (pc := 46) X dX7_endOperator_46 rfl ?_
    refine gF_X7_21_3 (pc := 47) X dX7_endOperator_47 ?_
    refine gF_X7_262_6 (pc := 50) X dX7_endOperator_50 ?_
    refine iv_iload_n (pc := 53) X dX7_endOperator_53 rfl ?_
    obtain ⟨hg, hm⟩ := gd_some hm
    refine aL_8 (pc := 54) X dX7_endOperator_54 hg (x := (S15.1 8) r2.toNatClampNeg) rfl ?_
    obtain ⟨⟨r19, S18⟩, hc20, hm⟩ := bd_some hm
    refine cV_X7_226_3 (pc := 55) X [.int (S15.1 3 8), .int ((S15.1 8) r2.toNatClampNeg)] [] 2 rfl (f_X7_checkType_e l g ad (S15.1 3 8) ((S15.1 8) r2.toNatClampNeg) S15 _ _ hc20) (by decide) (by decide) (Nat.le_of_ble_eq_true rfl) rfl dX7_endOperator_55 ?_
    refine iv_goto (pc := 58) X dX7_endOperator_58 (tgt := 106) rfl ?_
    refine iv_aload_n (pc := 106) X dX7_endOperator_106 rfl ?_
    refine iv_iload_n (pc := 107) X dX7_endOperator_107 rfl ?_
    refine pF_X7_193_3 (pc := 108) X dX7_endOperator_108 ?_
    cases hm
    exact is_vret (pc := 111) X dX7_endOperator_111
def f_X7_endByItself (fu : Nat) (S : im_S) : Option (Unit × im_S) := (f_X6_topKind S).bind (fun qS1 => (f_X6_pop qS1.2).bind (fun qS4 => if qS1.1 = (15 : Int32) then ((f_X3_connect (qS4.2.1 3 8) 3 qS4.1 (-1) qS4.2).bind (fun qS8 => gd (in_b (qS8.2.1 3 8) 512) (gd (in_b qS4.1 512) ((f_X7_forget 1 (uI qS8.2 8 qS4.1.toNatClampNeg ((qS8.2.1 8) ((qS8.2.1 3 8).toNatClampNeg)))).bind (fun qS11 => some ((), (uI qS11.2 3 8 qS4.1))))))) else (if qS1.1 = (18 : Int32) then ((f_X3_connect (qS4.2.1 3 8) 3 qS4.1 (-1) qS4.2).bind (fun qS15 => gd (in_b qS4.1 512) ((f_X7_checkType (qS15.2.1 3 8) ((qS15.2.1 8) qS4.1.toNatClampNeg) qS15.2).bind (fun qS18 => some ((), (uI qS18.2 3 8 qS4.1)))))) else (if qS1.1 = (22 : Int32) then ((f_X3_connect (qS4.2.1 3 8) 7 qS4.1 (-1) qS4.2).bind (fun qS22 => gd (in_b (qS22.2.1 3 8) 512) (gd (in_b qS4.1 512) (gd (in_b qS4.1 512) ((f_X3_chainLength fu ((qS22.2.1 12) qS4.1.toNatClampNeg) (uI qS22.2 8 qS4.1.toNatClampNeg ((qS22.2.1 8) ((qS22.2.1 3 8).toNatClampNeg)))).bind (fun qS25 => (f_X7_forget qS25.1 qS25.2).bind (fun qS28 => some ((), (uI qS28.2 3 8 qS4.1))))))))) else ((f_X3_connect (qS4.2.1 3 8) 8 qS4.1 (-1) qS4.2).bind (fun qS31 => (f_X7_checkType (qS31.2.1 3 8) 1 qS31.2).bind (fun qS34 => (f_X7_forget 2 qS34.2).bind (fun qS37 => some ((), (uI qS37.2 3 8 qS4.1))))))))))
set_option maxHeartbeats 4000000 in
set_option maxRecDepth 100000 in
theorem f_X7_endByItself_e (l : Launch) (g : im_G) (ad : Nat → Nat) (fu : Nat) (S : im_S) (r : Unit) (S' : im_S) (hm : f_X7_endByItself fu  S = some (r, S')) : im_E l g ad 2 yX7_endByItself cX7_endByItself 3 none [.ref (ad 3)] S none S' := by
  unfold f_X7_endByItself at hm
  refine is_met (own := RX7) (by decide +kernel) rfl (Nat.le_of_ble_eq_true rfl) (fun p e s m below meth c X => ?_)
  refine iv_aload_n (pc := 0) X dX7_endByItself_0 rfl ?_
  refine gF_X7_35_3 (pc := 1) X dX7_endByItself_1 ?_
  obtain ⟨⟨r2, S1⟩, hc3, hm⟩ := bd_some hm
  refine cV_X7_290_34 (pc := 4) X [] [] 0 rfl (f_X6_topKind_e l g ad  S _ _ hc3) (by decide) (by decide) (Nat.le_of_ble_eq_true rfl) rfl dX7_endByItself_4 ?_
  refine iv_istore_n (pc := 7) X dX7_endByItself_7 (by decide) (lv' := [(1, .int r2), (0, .ref (ad 3))]) rfl ?_
  refine iv_aload_n (pc := 8) X dX7_endByItself_8 rfl ?_
  refine gF_X7_35_3 (pc := 9) X dX7_endByItself_9 ?_
  obtain ⟨⟨r5, S4⟩, hc6, hm⟩ := bd_some hm
  refine cV_X7_303_34 (pc := 12) X [] [] 0 rfl (f_X6_pop_e l g ad  S1 _ _ hc6) (by decide) (by decide) (Nat.le_of_ble_eq_true rfl) rfl dX7_endByItself_12 ?_
  refine iv_istore_n (pc := 15) X dX7_endByItself_15 (by decide) (lv' := [(2, .int r5), (1, .int r2), (0, .ref (ad 3))]) rfl ?_
  refine iv_iload_n (pc := 16) X dX7_endByItself_16 rfl ?_
  by_cases hb7 : r2 = (15 : Int32)
  · rw [if_pos hb7] at hm
    refine iv_lookup X dX7_endByItself_17 (off := 35) (tgt := 52) (by decide) (by rw [hb7]; decide) (by decide) ?_
    refine iv_aload_n (pc := 52) X dX7_endByItself_52 rfl ?_
    refine gF_X7_21_3 (pc := 53) X dX7_endByItself_53 ?_
    refine iv_aload_n (pc := 56) X dX7_endByItself_56 rfl ?_
    refine gF_X7_193_3 (pc := 57) X dX7_endByItself_57 (x := S4.1 3 8) rfl ?_
    refine iv_iconst (pc := 60) X dX7_endByItself_60 ic_3 ?_
    refine iv_iload_n (pc := 61) X dX7_endByItself_61 rfl ?_
    refine iv_iconst (pc := 62) X dX7_endByItself_62 ic_m1 ?_
    obtain ⟨⟨r9, S8⟩, hc10, hm⟩ := bd_some hm
    refine cV_X7_296_6 (pc := 63) X [.int (S4.1 3 8), .int 3, .int r5, .int (-1)] [] 4 rfl (f_X3_connect_e l g ad (S4.1 3 8) 3 r5 (-1) S4 _ _ hc10) (by decide) (by decide) (Nat.le_of_ble_eq_true rfl) rfl dX7_endByItself_63 ?_
    refine iv_aload_n (pc := 66) X dX7_endByItself_66 rfl ?_
    refine gF_X7_21_3 (pc := 67) X dX7_endByItself_67 ?_
    refine gF_X7_262_6 (pc := 70) X dX7_endByItself_70 ?_
    refine iv_iload_n (pc := 73) X dX7_endByItself_73 rfl ?_
    refine iv_aload_n (pc := 74) X dX7_endByItself_74 rfl ?_
    refine gF_X7_21_3 (pc := 75) X dX7_endByItself_75 ?_
    refine gF_X7_262_6 (pc := 78) X dX7_endByItself_78 ?_
    refine iv_aload_n (pc := 81) X dX7_endByItself_81 rfl ?_
    refine gF_X7_193_3 (pc := 82) X dX7_endByItself_82 (x := S8.1 3 8) rfl ?_
    obtain ⟨hg, hm⟩ := gd_some hm
    refine aL_8 (pc := 85) X dX7_endByItself_85 hg (x := (S8.1 8) ((S8.1 3 8).toNatClampNeg)) rfl ?_
    obtain ⟨hg, hm⟩ := gd_some hm
    refine aS_8 (pc := 86) X dX7_endByItself_86 hg ?_
    refine iv_aload_n (pc := 87) X dX7_endByItself_87 rfl ?_
    refine iv_iconst (pc := 88) X dX7_endByItself_88 ic_1 ?_
    obtain ⟨⟨r12, S11⟩, hc13, hm⟩ := bd_some hm
    refine cV_X7_306_3 (pc := 89) X [.int 1] [] 1 rfl (f_X7_forget_e l g ad 1 (uI S8 8 r5.toNatClampNeg ((S8.1 8) ((S8.1 3 8).toNatClampNeg))) _ _ hc13) (by decide) (by decide) (Nat.le_of_ble_eq_true rfl) rfl dX7_endByItself_89 ?_
    refine iv_goto (pc := 92) X dX7_endByItself_92 (tgt := 217) rfl ?_
    refine iv_aload_n (pc := 217) X dX7_endByItself_217 rfl ?_
    refine iv_iload_n (pc := 218) X dX7_endByItself_218 rfl ?_
    refine pF_X7_193_3 (pc := 219) X dX7_endByItself_219 ?_
    cases hm
    exact is_vret (pc := 222) X dX7_endByItself_222
  · rw [if_neg hb7] at hm
    by_cases hb14 : r2 = (18 : Int32)
    · rw [if_pos hb14] at hm
      refine iv_lookup X dX7_endByItself_17 (off := 78) (tgt := 95) (by decide) (by rw [hb14]; decide) (by decide) ?_
      refine iv_aload_n (pc := 95) X dX7_endByItself_95 rfl ?_
      refine gF_X7_21_3 (pc := 96) X dX7_endByItself_96 ?_
      refine iv_aload_n (pc := 99) X dX7_endByItself_99 rfl ?_
      refine gF_X7_193_3 (pc := 100) X dX7_endByItself_100 (x := S4.1 3 8) rfl ?_
      refine iv_iconst (pc := 103) X dX7_endByItself_103 ic_3 ?_
      refine iv_iload_n (pc := 104) X dX7_endByItself_104 rfl ?_
      refine iv_iconst (pc := 105) X dX7_endByItself_105 ic_m1 ?_
      obtain ⟨⟨r16, S15⟩, hc17, hm⟩ := bd_some hm
      refine cV_X7_296_6 (pc := 106) X [.int (S4.1 3 8), .int 3, .int r5, .int (-1)] [] 4 rfl (f_X3_connect_e l g ad (S4.1 3 8) 3 r5 (-1) S4 _ _ hc17) (by decide) (by decide) (Nat.le_of_ble_eq_true rfl) rfl dX7_endByItself_106 ?_
      refine iv_aload_n (pc := 109) X dX7_endByItself_109 rfl ?_
      refine iv_aload_n (pc := 110) X dX7_endByItself_110 rfl ?_
      refine gF_X7_193_3 (pc := 111) X dX7_endByItself_111 (x := S15.1 3 8) rfl ?_
      refine iv_aload_n (pc := 114) X dX7_endByItself_114 rfl ?_
      refine gF_X7_21_3 (pc := 115) X dX7_endByItself_115 ?_
      refine gF_X7_262_6 (pc := 118) X dX7_endByItself_118 ?_
      refine iv_iload_n (pc := 121) X dX7_endByItself_121 rfl ?_
      obtain ⟨hg, hm⟩ := gd_some hm
      refine aL_8 (pc := 122) X dX7_endByItself_122 hg (x := (S15.1 8) r5.toNatClampNeg) rfl ?_
      obtain ⟨⟨r19, S18⟩, hc20, hm⟩ := bd_some hm
      refine cV_X7_226_3 (pc := 123) X [.int (S15.1 3 8), .int ((S15.1 8) r5.toNatClampNeg)] [] 2 rfl (f_X7_checkType_e l g ad (S15.1 3 8) ((S15.1 8) r5.toNatClampNeg) S15 _ _ hc20) (by decide) (by decide) (Nat.le_of_ble_eq_true rfl) rfl dX7_endByItself_123 ?_
      refine iv_goto (pc := 126) X dX7_endByItself_126 (tgt := 217) rfl ?_
      refine iv_aload_n (pc := 217) X dX7_endByItself_217 rfl ?_
      refine iv_iload_n (pc := 218) X dX7_endByItself_218 rfl ?_
      refine pF_X7_193_3 (pc := 219) X dX7_endByItself_219 ?_
      cases hm
      exact is_vret (pc := 222) X dX7_endByItself_222
    · rw [if_neg hb14] at hm
      by_cases hb21 : r2 = (22 : Int32)
      · rw [if_pos hb21] at hm
        refine iv_lookup X dX7_endByItself_17 (off := 112) (tgt := 129) (by decide) (by rw [hb21]; decide) (by decide) ?_
        refine iv_aload_n (pc := 129) X dX7_endByItself_129 rfl ?_
        refine gF_X7_21_3 (pc := 130) X dX7_endByItself_130 ?_
        refine iv_aload_n (pc := 133) X dX7_endByItself_133 rfl ?_
        refine gF_X7_193_3 (pc := 134) X dX7_endByItself_134 (x := S4.1 3 8) rfl ?_
        refine iv_bipush (pc := 137) X dX7_endByItself_137 bc_7 ?_
        refine iv_iload_n (pc := 139) X dX7_endByItself_139 rfl ?_
        refine iv_iconst (pc := 140) X dX7_endByItself_140 ic_m1 ?_
        obtain ⟨⟨r23, S22⟩, hc24, hm⟩ := bd_some hm
        refine cV_X7_296_6 (pc := 141) X [.int (S4.1 3 8), .int 7, .int r5, .int (-1)] [] 4 rfl (f_X3_connect_e l g ad (S4.1 3 8) 7 r5 (-1) S4 _ _ hc24) (by decide) (by decide) (Nat.le_of_ble_eq_true rfl) rfl dX7_endByItself_141 ?_
        refine iv_aload_n (pc := 144) X dX7_endByItself_144 rfl ?_
        refine gF_X7_21_3 (pc := 145) X dX7_endByItself_145 ?_
        refine gF_X7_262_6 (pc := 148) X dX7_endByItself_148 ?_
        refine iv_iload_n (pc := 151) X dX7_endByItself_151 rfl ?_
        refine iv_aload_n (pc := 152) X dX7_endByItself_152 rfl ?_
        refine gF_X7_21_3 (pc := 153) X dX7_endByItself_153 ?_
        refine gF_X7_262_6 (pc := 156) X dX7_endByItself_156 ?_
        refine iv_aload_n (pc := 159) X dX7_endByItself_159 rfl ?_
        refine gF_X7_193_3 (pc := 160) X dX7_endByItself_160 (x := S22.1 3 8) rfl ?_
        obtain ⟨hg, hm⟩ := gd_some hm
        refine aL_8 (pc := 163) X dX7_endByItself_163 hg (x := (S22.1 8) ((S22.1 3 8).toNatClampNeg)) rfl ?_
        obtain ⟨hg, hm⟩ := gd_some hm
        refine aS_8 (pc := 164) X dX7_endByItself_164 hg ?_
        refine iv_aload_n (pc := 165) X dX7_endByItself_165 rfl ?_
        refine iv_aload_n (pc := 166) X dX7_endByItself_166 rfl ?_
        refine gF_X7_21_3 (pc := 167) X dX7_endByItself_167 ?_
        refine iv_aload_n (pc := 170) X dX7_endByItself_170 rfl ?_
        refine gF_X7_21_3 (pc := 171) X dX7_endByItself_171 ?_
        refine gF_X7_209_6 (pc := 174) X dX7_endByItself_174 ?_
        refine iv_iload_n (pc := 177) X dX7_endByItself_177 rfl ?_
        obtain ⟨hg, hm⟩ := gd_some hm
        refine aL_12 (pc := 178) X dX7_endByItself_178 hg (x := (S22.1 12) r5.toNatClampNeg) rfl ?_
        obtain ⟨⟨r26, S25⟩, hc27, hm⟩ := bd_some hm
        refine cV_X7_249_6 (pc := 179) X [.int ((S22.1 12) r5.toNatClampNeg)] [.ref (ad 3)] 1 rfl (f_X3_chainLength_e l g ad fu ((S22.1 12) r5.toNatClampNeg) (uI S22 8 r5.toNatClampNeg ((S22.1 8) ((S22.1 3 8).toNatClampNeg))) _ _ hc27) (by decide) (by decide) (Nat.le_of_ble_eq_true rfl) rfl dX7_endByItself_179 ?_
        obtain ⟨⟨r29, S28⟩, hc30, hm⟩ := bd_some hm
        refine cV_X7_306_3 (pc := 182) X [.int r26] [] 1 rfl (f_X7_forget_e l g ad r26 S25 _ _ hc30) (by decide) (by decide) (Nat.le_of_ble_eq_true rfl) rfl dX7_endByItself_182 ?_
        refine iv_goto (pc := 185) X dX7_endByItself_185 (tgt := 217) rfl ?_
        refine iv_aload_n (pc := 217) X dX7_endByItself_217 rfl ?_
        refine iv_iload_n (pc := 218) X dX7_endByItself_218 rfl ?_
        refine pF_X7_193_3 (pc := 219) X dX7_endByItself_219 ?_
        cases hm
        exact is_vret (pc := 222) X dX7_endByItself_222
      · rw [if_neg hb21] at hm
        have k0 := sw_ne hb7 (n := 15) (by decide)
        have k1 := sw_ne hb14 (n := 18) (by decide)
        have k2 := sw_ne hb21 (n := 22) (by decide)
        refine iv_lookup X dX7_endByItself_17 (off := 171) (tgt := 188) (by decide) (by simp [Op.lookupswitch.offset, k0, k0.symm, k1, k1.symm, k2, k2.symm]) (by decide) ?_
        refine iv_aload_n (pc := 188) X dX7_endByItself_188 rfl ?_
        refine gF_X7_21_3 (pc := 189) X dX7_endByItself_189 ?_
        refine iv_aload_n (pc := 192) X dX7_endByItself_192 rfl ?_
        refine gF_X7_193_3 (pc := 193) X dX7_endByItself_193 (x := S4.1 3 8) rfl ?_
        refine iv_bipush (pc := 196) X dX7_endByItself_196 bc_8 ?_
        refine iv_iload_n (pc := 198) X dX7_endByItself_198 rfl ?_
        refine iv_iconst (pc := 199) X dX7_endByItself_199 ic_m1 ?_
        obtain ⟨⟨r32, S31⟩, hc33, hm⟩ := bd_some hm
        refine cV_X7_296_6 (pc := 200) X [.int (S4.1 3 8), .int 8, .int r5, .int (-1)] [] 4 rfl (f_X3_connect_e l g ad (S4.1 3 8) 8 r5 (-1) S4 _ _ hc33) (by decide) (by decide) (Nat.le_of_ble_eq_true rfl) rfl dX7_endByItself_200 ?_
        refine iv_aload_n (pc := 203) X dX7_endByItself_203 rfl ?_
        refine iv_aload_n (pc := 204) X dX7_endByItself_204 rfl ?_
        refine gF_X7_193_3 (pc := 205) X dX7_endByItself_205 (x := S31.1 3 8) rfl ?_
        refine iv_iconst (pc := 208) X dX7_endByItself_208 ic_1 ?_
        obtain ⟨⟨r35, S34⟩, hc36, hm⟩ := bd_some hm
        refine cV_X7_226_3 (pc := 209) X [.int (S31.1 3 8), .int 1] [] 2 rfl (f_X7_checkType_e l g ad (S31.1 3 8) 1 S31 _ _ hc36) (by decide) (by decide) (Nat.le_of_ble_eq_true rfl) rfl dX7_endByItself_209 ?_
        refine iv_aload_n (pc := 212) X dX7_endByItself_212 rfl ?_
        refine iv_iconst (pc := 213) X dX7_endByItself_213 ic_2 ?_
        obtain ⟨⟨r38, S37⟩, hc39, hm⟩ := bd_some hm
        refine cV_X7_306_3 (pc := 214) X [.int 2] [] 1 rfl (f_X7_forget_e l g ad 2 S34 _ _ hc39) (by decide) (by decide) (Nat.le_of_ble_eq_true rfl) rfl dX7_endByItself_214 ?_
        refine iv_aload_n (pc := 217) X dX7_endByItself_217 rfl ?_
        refine iv_iload_n (pc := 218) X dX7_endByItself_218 rfl ?_
        refine pF_X7_193_3 (pc := 219) X dX7_endByItself_219 ?_
        cases hm
        exact is_vret (pc := 222) X dX7_endByItself_222
def f_X7_endBody (fu : Nat) (S : im_S) : Option (Int32 × im_S) := (f_X6_pop S).bind (fun qS1 => (f_X3_connect (qS1.2.1 3 8) 9 (-1) (-1) qS1.2).bind (fun qS4 => gd (in_b qS1.1 8) ((f_X7_typeOf fu ((qS4.2.2.1 23) qS1.1.toNatClampNeg) qS4.2).bind (fun qS7 => (f_X7_checkType (qS4.2.1 3 8) qS7.1 qS7.2).bind (fun qS10 => some (1, (uI qS10.2 3 7 5)))))))
set_option maxHeartbeats 4000000 in
set_option maxRecDepth 100000 in
theorem f_X7_endBody_e (l : Launch) (g : im_G) (ad : Nat → Nat) (fu : Nat) (S : im_S) (r : Int32) (S' : im_S) (hm : f_X7_endBody fu  S = some (r, S')) : im_E l g ad 2 yX7_endBody cX7_endBody 2 (some Jvm.ClassFile.FieldType.boolean) [.ref (ad 3)] S (some (.int r)) S' := by
  unfold f_X7_endBody at hm
  refine is_met (own := RX7) (by decide +kernel) rfl (Nat.le_of_ble_eq_true rfl) (fun p e s m below meth c X => ?_)
  refine iv_aload_n (pc := 0) X dX7_endBody_0 rfl ?_
  refine gF_X7_35_3 (pc := 1) X dX7_endBody_1 ?_
  obtain ⟨⟨r2, S1⟩, hc3, hm⟩ := bd_some hm
  refine cV_X7_303_34 (pc := 4) X [] [] 0 rfl (f_X6_pop_e l g ad  S _ _ hc3) (by decide) (by decide) (Nat.le_of_ble_eq_true rfl) rfl dX7_endBody_4 ?_
  refine iv_istore_n (pc := 7) X dX7_endBody_7 (by decide) (lv' := [(1, .int r2), (0, .ref (ad 3))]) rfl ?_
  refine iv_aload_n (pc := 8) X dX7_endBody_8 rfl ?_
  refine gF_X7_21_3 (pc := 9) X dX7_endBody_9 ?_
  refine iv_aload_n (pc := 12) X dX7_endBody_12 rfl ?_
  refine gF_X7_193_3 (pc := 13) X dX7_endBody_13 (x := S1.1 3 8) rfl ?_
  refine iv_bipush (pc := 16) X dX7_endBody_16 bc_9 ?_
  refine iv_iconst (pc := 18) X dX7_endBody_18 ic_m1 ?_
  refine iv_iconst (pc := 19) X dX7_endBody_19 ic_m1 ?_
  obtain ⟨⟨r5, S4⟩, hc6, hm⟩ := bd_some hm
  refine cV_X7_296_6 (pc := 20) X [.int (S1.1 3 8), .int 9, .int (-1), .int (-1)] [] 4 rfl (f_X3_connect_e l g ad (S1.1 3 8) 9 (-1) (-1) S1 _ _ hc6) (by decide) (by decide) (Nat.le_of_ble_eq_true rfl) rfl dX7_endBody_20 ?_
  refine iv_aload_n (pc := 23) X dX7_endBody_23 rfl ?_
  refine iv_aload_n (pc := 24) X dX7_endBody_24 rfl ?_
  refine gF_X7_193_3 (pc := 25) X dX7_endBody_25 (x := S4.1 3 8) rfl ?_
  refine iv_aload_n (pc := 28) X dX7_endBody_28 rfl ?_
  refine gF_X7_21_3 (pc := 29) X dX7_endBody_29 ?_
  refine gF_X7_86_6 (pc := 32) X dX7_endBody_32 ?_
  refine gF_X7_342_22 (pc := 35) X dX7_endBody_35 ?_
  refine iv_iload_n (pc := 38) X dX7_endBody_38 rfl ?_
  obtain ⟨hg, hm⟩ := gd_some hm
  refine aL_23 (pc := 39) X dX7_endBody_39 hg (x := (S4.2.1 23) r2.toNatClampNeg) rfl ?_
  obtain ⟨⟨r8, S7⟩, hc9, hm⟩ := bd_some hm
  refine cS_X7_206 (pc := 40) X [.long ((S4.2.1 23) r2.toNatClampNeg)] [.int (S4.1 3 8), .ref (ad 3)] 1 rfl (f_X7_typeOf_e l g ad fu ((S4.2.1 23) r2.toNatClampNeg) S4 _ _ hc9) (by decide) (by decide) (Nat.le_of_ble_eq_true rfl) rfl dX7_endBody_40 ?_
  obtain ⟨⟨r11, S10⟩, hc12, hm⟩ := bd_some hm
  refine cV_X7_226_3 (pc := 43) X [.int (S4.1 3 8), .int r8] [] 2 rfl (f_X7_checkType_e l g ad (S4.1 3 8) r8 S7 _ _ hc12) (by decide) (by decide) (Nat.le_of_ble_eq_true rfl) rfl dX7_endBody_43 ?_
  refine iv_aload_n (pc := 46) X dX7_endBody_46 rfl ?_
  refine iv_iconst (pc := 47) X dX7_endBody_47 ic_5 ?_
  refine pF_X7_122_3 (pc := 48) X dX7_endBody_48 ?_
  refine iv_iconst (pc := 51) X dX7_endBody_51 ic_1 ?_
  cases hm
  exact is_zret (pc := 52) X dX7_endBody_52 rfl
def f_X7_endBracket (S : im_S) : Option (Int32 × im_S) := (f_X6_pop S).bind (fun qS1 => gd (in_b (S.1 3 8) 512) ((f_X7_endOperand (qS1.2.1 3 8) (uI (uI qS1.2 20 ((S.1 3 8).toNatClampNeg) qS1.1) 3 9 ((qS1.2.1 3 9) - 1))).bind (fun qS4 => gd (z_b qS4.1) (some (qS4.1, qS4.2)))))
set_option maxHeartbeats 4000000 in
set_option maxRecDepth 100000 in
theorem f_X7_endBracket_e (l : Launch) (g : im_G) (ad : Nat → Nat) (S : im_S) (r : Int32) (S' : im_S) (hm : f_X7_endBracket  S = some (r, S')) : im_E l g ad 1 yX7_endBracket cX7_endBracket 1 (some Jvm.ClassFile.FieldType.boolean) [.ref (ad 3)] S (some (.int r)) S' := by
  unfold f_X7_endBracket at hm
  refine is_met (own := RX7) (by decide +kernel) rfl (Nat.le_of_ble_eq_true rfl) (fun p e s m below meth c X => ?_)
  refine iv_aload_n (pc := 0) X dX7_endBracket_0 rfl ?_
  refine gF_X7_21_3 (pc := 1) X dX7_endBracket_1 ?_
  refine gF_X7_265_6 (pc := 4) X dX7_endBracket_4 ?_
  refine iv_aload_n (pc := 7) X dX7_endBracket_7 rfl ?_
  refine gF_X7_193_3 (pc := 8) X dX7_endBracket_8 (x := S.1 3 8) rfl ?_
  refine iv_aload_n (pc := 11) X dX7_endBracket_11 rfl ?_
  refine gF_X7_35_3 (pc := 12) X dX7_endBracket_12 ?_
  obtain ⟨⟨r2, S1⟩, hc3, hm⟩ := bd_some hm
  refine cV_X7_303_34 (pc := 15) X [] [.int (S.1 3 8), .ref (ad 20)] 0 rfl (f_X6_pop_e l g ad  S _ _ hc3) (by decide) (by decide) (Nat.le_of_ble_eq_true rfl) rfl dX7_endBracket_15 ?_
  obtain ⟨hg, hm⟩ := gd_some hm
  refine aS_20 (pc := 18) X dX7_endBracket_18 hg ?_
  refine iv_aload_n (pc := 19) X dX7_endBracket_19 rfl ?_
  refine iv_dup (pc := 20) X dX7_endBracket_20 rfl ?_
  refine gF_X7_109_3 (pc := 21) X dX7_endBracket_21 (x := S1.1 3 9) rfl ?_
  refine iv_iconst (pc := 24) X dX7_endBracket_24 ic_1 ?_
  refine iv_isub (pc := 25) X dX7_endBracket_25 ?_
  refine pF_X7_109_3 (pc := 26) X dX7_endBracket_26 ?_
  refine iv_aload_n (pc := 29) X dX7_endBracket_29 rfl ?_
  refine iv_aload_n (pc := 30) X dX7_endBracket_30 rfl ?_
  refine gF_X7_193_3 (pc := 31) X dX7_endBracket_31 (x := S1.1 3 8) rfl ?_
  obtain ⟨⟨r5, S4⟩, hc6, hm⟩ := bd_some hm
  refine cV_X7_200_3 (pc := 34) X [.int (S1.1 3 8)] [] 1 rfl (f_X7_endOperand_e l g ad (S1.1 3 8) (uI (uI S1 20 ((S.1 3 8).toNatClampNeg) r2) 3 9 ((S1.1 3 9) - 1)) _ _ hc6) (by decide) (by decide) (Nat.le_of_ble_eq_true rfl) rfl dX7_endBracket_34 ?_
  obtain ⟨hg, hm⟩ := gd_some hm
  cases hm
  exact is_zret (pc := 37) X dX7_endBracket_37 (z_b_n hg)
def f_X7_endElement (S : im_S) : Option (Int32 × im_S) := (f_X6_pop S).bind (fun qS1 => gd (in_b qS1.1 512) ((f_X3_connect (qS1.2.1 3 8) 2 qS1.1 (-1) (uI qS1.2 13 qS1.1.toNatClampNeg (qS1.2.1 3 8))).bind (fun qS4 => (f_X7_checkType (qS4.2.1 3 8) 1 qS4.2).bind (fun qS7 => (f_X7_endOperand qS1.1 (uI qS7.2 3 9 ((qS7.2.1 3 9) - 1))).bind (fun qS10 => gd (z_b qS10.1) (some (qS10.1, qS10.2)))))))
set_option maxHeartbeats 4000000 in
set_option maxRecDepth 100000 in
theorem f_X7_endElement_e (l : Launch) (g : im_G) (ad : Nat → Nat) (S : im_S) (r : Int32) (S' : im_S) (hm : f_X7_endElement  S = some (r, S')) : im_E l g ad 2 yX7_endElement cX7_endElement 2 (some Jvm.ClassFile.FieldType.boolean) [.ref (ad 3)] S (some (.int r)) S' := by
  unfold f_X7_endElement at hm
  refine is_met (own := RX7) (by decide +kernel) rfl (Nat.le_of_ble_eq_true rfl) (fun p e s m below meth c X => ?_)
  refine iv_aload_n (pc := 0) X dX7_endElement_0 rfl ?_
  refine gF_X7_35_3 (pc := 1) X dX7_endElement_1 ?_
  obtain ⟨⟨r2, S1⟩, hc3, hm⟩ := bd_some hm
  refine cV_X7_303_34 (pc := 4) X [] [] 0 rfl (f_X6_pop_e l g ad  S _ _ hc3) (by decide) (by decide) (Nat.le_of_ble_eq_true rfl) rfl dX7_endElement_4 ?_
  refine iv_istore_n (pc := 7) X dX7_endElement_7 (by decide) (lv' := [(1, .int r2), (0, .ref (ad 3))]) rfl ?_
  refine iv_aload_n (pc := 8) X dX7_endElement_8 rfl ?_
  refine gF_X7_21_3 (pc := 9) X dX7_endElement_9 ?_
  refine gF_X7_229_6 (pc := 12) X dX7_endElement_12 ?_
  refine iv_iload_n (pc := 15) X dX7_endElement_15 rfl ?_
  refine iv_aload_n (pc := 16) X dX7_endElement_16 rfl ?_
  refine gF_X7_193_3 (pc := 17) X dX7_endElement_17 (x := S1.1 3 8) rfl ?_
  obtain ⟨hg, hm⟩ := gd_some hm
  refine aS_13 (pc := 20) X dX7_endElement_20 hg ?_
  refine iv_aload_n (pc := 21) X dX7_endElement_21 rfl ?_
  refine gF_X7_21_3 (pc := 22) X dX7_endElement_22 ?_
  refine iv_aload_n (pc := 25) X dX7_endElement_25 rfl ?_
  refine gF_X7_193_3 (pc := 26) X dX7_endElement_26 (x := S1.1 3 8) rfl ?_
  refine iv_iconst (pc := 29) X dX7_endElement_29 ic_2 ?_
  refine iv_iload_n (pc := 30) X dX7_endElement_30 rfl ?_
  refine iv_iconst (pc := 31) X dX7_endElement_31 ic_m1 ?_
  obtain ⟨⟨r5, S4⟩, hc6, hm⟩ := bd_some hm
  refine cV_X7_296_6 (pc := 32) X [.int (S1.1 3 8), .int 2, .int r2, .int (-1)] [] 4 rfl (f_X3_connect_e l g ad (S1.1 3 8) 2 r2 (-1) (uI S1 13 r2.toNatClampNeg (S1.1 3 8)) _ _ hc6) (by decide) (by decide) (Nat.le_of_ble_eq_true rfl) rfl dX7_endElement_32 ?_
  refine iv_aload_n (pc := 35) X dX7_endElement_35 rfl ?_
  refine iv_aload_n (pc := 36) X dX7_endElement_36 rfl ?_
  refine gF_X7_193_3 (pc := 37) X dX7_endElement_37 (x := S4.1 3 8) rfl ?_
  refine iv_iconst (pc := 40) X dX7_endElement_40 ic_1 ?_
  obtain ⟨⟨r8, S7⟩, hc9, hm⟩ := bd_some hm
  refine cV_X7_226_3 (pc := 41) X [.int (S4.1 3 8), .int 1] [] 2 rfl (f_X7_checkType_e l g ad (S4.1 3 8) 1 S4 _ _ hc9) (by decide) (by decide) (Nat.le_of_ble_eq_true rfl) rfl dX7_endElement_41 ?_
  refine iv_aload_n (pc := 44) X dX7_endElement_44 rfl ?_
  refine iv_dup (pc := 45) X dX7_endElement_45 rfl ?_
  refine gF_X7_109_3 (pc := 46) X dX7_endElement_46 (x := S7.1 3 9) rfl ?_
  refine iv_iconst (pc := 49) X dX7_endElement_49 ic_1 ?_
  refine iv_isub (pc := 50) X dX7_endElement_50 ?_
  refine pF_X7_109_3 (pc := 51) X dX7_endElement_51 ?_
  refine iv_aload_n (pc := 54) X dX7_endElement_54 rfl ?_
  refine iv_iload_n (pc := 55) X dX7_endElement_55 rfl ?_
  obtain ⟨⟨r11, S10⟩, hc12, hm⟩ := bd_some hm
  refine cV_X7_200_3 (pc := 56) X [.int r2] [] 1 rfl (f_X7_endOperand_e l g ad r2 (uI S7 3 9 ((S7.1 3 9) - 1)) _ _ hc12) (by decide) (by decide) (Nat.le_of_ble_eq_true rfl) rfl dX7_endElement_56 ?_
  obtain ⟨hg, hm⟩ := gd_some hm
  cases hm
  exact is_zret (pc := 59) X dX7_endElement_59 (z_b_n hg)
def f_X7_endArgument (fu : Nat) (x1 : Int32) (S : im_S) : Option (Int32 × im_S) := (f_X6_topNode S).bind (fun qS1 => (f_X3_connect (qS1.2.1 3 8) 5 qS1.1 (-1) qS1.2).bind (fun qS4 => gd (in_b qS1.1 512) ((f_X3_append fu ((qS4.2.1 12) qS1.1.toNatClampNeg) (qS4.2.1 3 8) qS4.2).bind (fun qS7 => gd (in_b qS1.1 512) (if (x1 : Int32) ≠ 44 then ((f_X6_pop (uI qS7.2 12 qS1.1.toNatClampNeg qS7.1)).bind (fun qS11 => (f_X7_take 41 (uI qS11.2 3 9 ((qS11.2.1 3 9) - 1))).bind (fun qS14 => if (qS14.1 : Int32) = 0 then (some (0, qS14.2)) else ((f_X7_endOperand qS1.1 qS14.2).bind (fun qS18 => if (qS18.1 : Int32) = 0 then (some (0, qS18.2)) else (some (1, qS18.2))))))) else (gd (in_b qS1.1 512) ((f_X3_chainLength fu ((upd (qS7.2.1 12) qS1.1.toNatClampNeg qS7.1) qS1.1.toNatClampNeg) (uI (uI (uI qS7.2 12 qS1.1.toNatClampNeg qS7.1) 3 6 ((qS7.2.1 3 6) + 1)) 3 7 0)).bind (fun qS22 => if (qS22.1 : Int32) < 4 then (some (1, qS22.2)) else ((f_X7_refuse qS22.2).bind (fun qS26 => if (qS26.1 : Int32) = 0 then (some (0, qS26.2)) else (some (1, qS26.2))))))))))))
set_option maxHeartbeats 4000000 in
set_option maxRecDepth 100000 in
theorem f_X7_endArgument_e (l : Launch) (g : im_G) (ad : Nat → Nat) (fu : Nat) (x1 : Int32) (S : im_S) (r : Int32) (S' : im_S) (hm : f_X7_endArgument fu x1 S = some (r, S')) : im_E l g ad 2 yX7_endArgument cX7_endArgument 3 (some Jvm.ClassFile.FieldType.boolean) [.ref (ad 3), .int x1] S (some (.int r)) S' := by
  unfold f_X7_endArgument at hm
  refine is_met (own := RX7) (by decide +kernel) rfl (Nat.le_of_ble_eq_true rfl) (fun p e s m below meth c X => ?_)
  refine iv_aload_n (pc := 0) X dX7_endArgument_0 rfl ?_
  refine gF_X7_35_3 (pc := 1) X dX7_endArgument_1 ?_
  obtain ⟨⟨r2, S1⟩, hc3, hm⟩ := bd_some hm
  refine cV_X7_345_34 (pc := 4) X [] [] 0 rfl (f_X6_topNode_e l g ad  S _ _ hc3) (by decide) (by decide) (Nat.le_of_ble_eq_true rfl) rfl dX7_endArgument_4 ?_
  refine iv_istore_n (pc := 7) X dX7_endArgument_7 (by decide) (lv' := [(2, .int r2), (0, .ref (ad 3)), (1, .int x1)]) rfl ?_
  refine iv_aload_n (pc := 8) X dX7_endArgument_8 rfl ?_
  refine gF_X7_21_3 (pc := 9) X dX7_endArgument_9 ?_
  refine iv_aload_n (pc := 12) X dX7_endArgument_12 rfl ?_
  refine gF_X7_193_3 (pc := 13) X dX7_endArgument_13 (x := S1.1 3 8) rfl ?_
  refine iv_iconst (pc := 16) X dX7_endArgument_16 ic_5 ?_
  refine iv_iload_n (pc := 17) X dX7_endArgument_17 rfl ?_
  refine iv_iconst (pc := 18) X dX7_endArgument_18 ic_m1 ?_
  obtain ⟨⟨r5, S4⟩, hc6, hm⟩ := bd_some hm
  refine cV_X7_296_6 (pc := 19) X [.int (S1.1 3 8), .int 5, .int r2, .int (-1)] [] 4 rfl (f_X3_connect_e l g ad (S1.1 3 8) 5 r2 (-1) S1 _ _ hc6) (by decide) (by decide) (Nat.le_of_ble_eq_true rfl) rfl dX7_endArgument_19 ?_
  refine iv_aload_n (pc := 22) X dX7_endArgument_22 rfl ?_
  refine gF_X7_21_3 (pc := 23) X dX7_endArgument_23 ?_
  refine gF_X7_209_6 (pc := 26) X dX7_endArgument_26 ?_
  refine iv_iload_n (pc := 29) X dX7_endArgument_29 rfl ?_
  refine iv_aload_n (pc := 30) X dX7_endArgument_30 rfl ?_
  refine gF_X7_21_3 (pc := 31) X dX7_endArgument_31 ?_
  refine iv_aload_n (pc := 34) X dX7_endArgument_34 rfl ?_
  refine gF_X7_21_3 (pc := 35) X dX7_endArgument_35 ?_
  refine gF_X7_209_6 (pc := 38) X dX7_endArgument_38 ?_
  refine iv_iload_n (pc := 41) X dX7_endArgument_41 rfl ?_
  obtain ⟨hg, hm⟩ := gd_some hm
  refine aL_12 (pc := 42) X dX7_endArgument_42 hg (x := (S4.1 12) r2.toNatClampNeg) rfl ?_
  refine iv_aload_n (pc := 43) X dX7_endArgument_43 rfl ?_
  refine gF_X7_193_3 (pc := 44) X dX7_endArgument_44 (x := S4.1 3 8) rfl ?_
  obtain ⟨⟨r8, S7⟩, hc9, hm⟩ := bd_some hm
  refine cV_X7_138_6 (pc := 47) X [.int ((S4.1 12) r2.toNatClampNeg), .int (S4.1 3 8)] [.int r2, .ref (ad 12)] 2 rfl (f_X3_append_e l g ad fu ((S4.1 12) r2.toNatClampNeg) (S4.1 3 8) S4 _ _ hc9) (by decide) (by decide) (Nat.le_of_ble_eq_true rfl) rfl dX7_endArgument_47 ?_
  obtain ⟨hg, hm⟩ := gd_some hm
  refine aS_12 (pc := 50) X dX7_endArgument_50 hg ?_
  refine iv_iload_n (pc := 51) X dX7_endArgument_51 rfl ?_
  refine iv_bipush (pc := 52) X dX7_endArgument_52 bc_44 ?_
  refine iv_icmp_ne (pc := 54) X dX7_endArgument_54 (tgt := 105) rfl (fun hb10 => ?_) (fun hb10 => ?_)
  · rw [if_pos hb10] at hm
    refine iv_aload_n (pc := 105) X dX7_endArgument_105 rfl ?_
    refine gF_X7_35_3 (pc := 106) X dX7_endArgument_106 ?_
    obtain ⟨⟨r12, S11⟩, hc13, hm⟩ := bd_some hm
    refine cV_X7_303_34 (pc := 109) X [] [] 0 rfl (f_X6_pop_e l g ad  (uI S7 12 r2.toNatClampNeg r8) _ _ hc13) (by decide) (by decide) (Nat.le_of_ble_eq_true rfl) rfl dX7_endArgument_109 ?_
    refine iv_pop (pc := 112) X dX7_endArgument_112 rfl ?_
    refine iv_aload_n (pc := 113) X dX7_endArgument_113 rfl ?_
    refine iv_dup (pc := 114) X dX7_endArgument_114 rfl ?_
    refine gF_X7_109_3 (pc := 115) X dX7_endArgument_115 (x := S11.1 3 9) rfl ?_
    refine iv_iconst (pc := 118) X dX7_endArgument_118 ic_1 ?_
    refine iv_isub (pc := 119) X dX7_endArgument_119 ?_
    refine pF_X7_109_3 (pc := 120) X dX7_endArgument_120 ?_
    refine iv_aload_n (pc := 123) X dX7_endArgument_123 rfl ?_
    refine iv_bipush (pc := 124) X dX7_endArgument_124 bc_41 ?_
    obtain ⟨⟨r15, S14⟩, hc16, hm⟩ := bd_some hm
    refine cV_X7_125_3 (pc := 126) X [.int 41] [] 1 rfl (f_X7_take_e l g ad 41 (uI S11 3 9 ((S11.1 3 9) - 1)) _ _ hc16) (by decide) (by decide) (Nat.le_of_ble_eq_true rfl) rfl dX7_endArgument_126 ?_
    refine iv_if_eq (pc := 129) X dX7_endArgument_129 (tgt := 144) rfl (fun hb17 => ?_) (fun hb17 => ?_)
    · rw [if_pos hb17] at hm
      refine iv_iconst (pc := 144) X dX7_endArgument_144 ic_0 ?_
      cases hm
      exact is_zret (pc := 145) X dX7_endArgument_145 rfl
    · rw [if_neg hb17] at hm
      refine iv_aload_n (pc := 132) X dX7_endArgument_132 rfl ?_
      refine iv_iload_n (pc := 133) X dX7_endArgument_133 rfl ?_
      obtain ⟨⟨r19, S18⟩, hc20, hm⟩ := bd_some hm
      refine cV_X7_200_3 (pc := 134) X [.int r2] [] 1 rfl (f_X7_endOperand_e l g ad r2 S14 _ _ hc20) (by decide) (by decide) (Nat.le_of_ble_eq_true rfl) rfl dX7_endArgument_134 ?_
      refine iv_if_eq (pc := 137) X dX7_endArgument_137 (tgt := 144) rfl (fun hb21 => ?_) (fun hb21 => ?_)
      · rw [if_pos hb21] at hm
        refine iv_iconst (pc := 144) X dX7_endArgument_144 ic_0 ?_
        cases hm
        exact is_zret (pc := 145) X dX7_endArgument_145 rfl
      · rw [if_neg hb21] at hm
        refine iv_iconst (pc := 140) X dX7_endArgument_140 ic_1 ?_
        refine iv_goto (pc := 141) X dX7_endArgument_141 (tgt := 145) rfl ?_
        cases hm
        exact is_zret (pc := 145) X dX7_endArgument_145 rfl
  · rw [if_neg hb10] at hm
    refine iv_aload_n (pc := 57) X dX7_endArgument_57 rfl ?_
    refine iv_dup (pc := 58) X dX7_endArgument_58 rfl ?_
    refine gF_X7_51_3 (pc := 59) X dX7_endArgument_59 (x := S7.1 3 6) rfl ?_
    refine iv_iconst (pc := 62) X dX7_endArgument_62 ic_1 ?_
    refine iv_iadd (pc := 63) X dX7_endArgument_63 ?_
    refine pF_X7_51_3 (pc := 64) X dX7_endArgument_64 ?_
    refine iv_aload_n (pc := 67) X dX7_endArgument_67 rfl ?_
    refine iv_iconst (pc := 68) X dX7_endArgument_68 ic_0 ?_
    refine pF_X7_122_3 (pc := 69) X dX7_endArgument_69 ?_
    refine iv_aload_n (pc := 72) X dX7_endArgument_72 rfl ?_
    refine gF_X7_21_3 (pc := 73) X dX7_endArgument_73 ?_
    refine iv_aload_n (pc := 76) X dX7_endArgument_76 rfl ?_
    refine gF_X7_21_3 (pc := 77) X dX7_endArgument_77 ?_
    refine gF_X7_209_6 (pc := 80) X dX7_endArgument_80 ?_
    refine iv_iload_n (pc := 83) X dX7_endArgument_83 rfl ?_
    obtain ⟨hg, hm⟩ := gd_some hm
    refine aL_12 (pc := 84) X dX7_endArgument_84 hg (x := (upd (S7.1 12) r2.toNatClampNeg r8) r2.toNatClampNeg) rfl ?_
    obtain ⟨⟨r23, S22⟩, hc24, hm⟩ := bd_some hm
    refine cV_X7_249_6 (pc := 85) X [.int ((upd (S7.1 12) r2.toNatClampNeg r8) r2.toNatClampNeg)] [] 1 rfl (f_X3_chainLength_e l g ad fu ((upd (S7.1 12) r2.toNatClampNeg r8) r2.toNatClampNeg) (uI (uI (uI S7 12 r2.toNatClampNeg r8) 3 6 ((S7.1 3 6) + 1)) 3 7 0) _ _ hc24) (by decide) (by decide) (Nat.le_of_ble_eq_true rfl) rfl dX7_endArgument_85 ?_
    refine iv_iconst (pc := 88) X dX7_endArgument_88 ic_4 ?_
    refine iv_icmp_lt (pc := 89) X dX7_endArgument_89 (tgt := 99) rfl (fun hb25 => ?_) (fun hb25 => ?_)
    · rw [if_pos hb25] at hm
      refine iv_iconst (pc := 99) X dX7_endArgument_99 ic_1 ?_
      refine iv_goto (pc := 100) X dX7_endArgument_100 (tgt := 104) rfl ?_
      cases hm
      exact is_zret (pc := 104) X dX7_endArgument_104 rfl
    · rw [if_neg hb25] at hm
      refine iv_aload_n (pc := 92) X dX7_endArgument_92 rfl ?_
      obtain ⟨⟨r27, S26⟩, hc28, hm⟩ := bd_some hm
      refine cV_X7_66_3 (pc := 93) X [] [] 0 rfl (f_X7_refuse_e l g ad  S22 _ _ hc28) (by decide) (by decide) (Nat.le_of_ble_eq_true rfl) rfl dX7_endArgument_93 ?_
      refine iv_if_eq (pc := 96) X dX7_endArgument_96 (tgt := 103) rfl (fun hb29 => ?_) (fun hb29 => ?_)
      · rw [if_pos hb29] at hm
        refine iv_iconst (pc := 103) X dX7_endArgument_103 ic_0 ?_
        cases hm
        exact is_zret (pc := 104) X dX7_endArgument_104 rfl
      · rw [if_neg hb29] at hm
        refine iv_iconst (pc := 99) X dX7_endArgument_99 ic_1 ?_
        refine iv_goto (pc := 100) X dX7_endArgument_100 (tgt := 104) rfl ?_
        cases hm
        exact is_zret (pc := 104) X dX7_endArgument_104 rfl
def f_X7_endLetValue (S : im_S) : Option (Int32 × im_S) := (f_X6_pop S).bind (fun qS1 => gd (in_b qS1.1 512) ((f_X3_connect (qS1.2.1 3 8) 4 qS1.1 ((qS1.2.1 12) qS1.1.toNatClampNeg) qS1.2).bind (fun qS4 => gd (in_b ((qS1.2.1 12) qS1.1.toNatClampNeg) 512) ((f_X7_checkType (qS4.2.1 3 8) ((qS4.2.1 8) (((qS1.2.1 12) qS1.1.toNatClampNeg).toNatClampNeg)) qS4.2).bind (fun qS7 => (f_X7_know ((qS1.2.1 12) qS1.1.toNatClampNeg) qS7.2).bind (fun qS10 => (f_X6_topRegion qS10.2).bind (fun qS13 => (f_X7_open 15 qS1.1 qS13.1 qS13.2).bind (fun qS16 => gd (z_b qS16.1) (some (qS16.1, qS16.2))))))))))
set_option maxHeartbeats 4000000 in
set_option maxRecDepth 100000 in
theorem f_X7_endLetValue_e (l : Launch) (g : im_G) (ad : Nat → Nat) (S : im_S) (r : Int32) (S' : im_S) (hm : f_X7_endLetValue  S = some (r, S')) : im_E l g ad 2 yX7_endLetValue cX7_endLetValue 3 (some Jvm.ClassFile.FieldType.boolean) [.ref (ad 3)] S (some (.int r)) S' := by
  unfold f_X7_endLetValue at hm
  refine is_met (own := RX7) (by decide +kernel) rfl (Nat.le_of_ble_eq_true rfl) (fun p e s m below meth c X => ?_)
  refine iv_aload_n (pc := 0) X dX7_endLetValue_0 rfl ?_
  refine gF_X7_35_3 (pc := 1) X dX7_endLetValue_1 ?_
  obtain ⟨⟨r2, S1⟩, hc3, hm⟩ := bd_some hm
  refine cV_X7_303_34 (pc := 4) X [] [] 0 rfl (f_X6_pop_e l g ad  S _ _ hc3) (by decide) (by decide) (Nat.le_of_ble_eq_true rfl) rfl dX7_endLetValue_4 ?_
  refine iv_istore_n (pc := 7) X dX7_endLetValue_7 (by decide) (lv' := [(1, .int r2), (0, .ref (ad 3))]) rfl ?_
  refine iv_aload_n (pc := 8) X dX7_endLetValue_8 rfl ?_
  refine gF_X7_21_3 (pc := 9) X dX7_endLetValue_9 ?_
  refine gF_X7_209_6 (pc := 12) X dX7_endLetValue_12 ?_
  refine iv_iload_n (pc := 15) X dX7_endLetValue_15 rfl ?_
  obtain ⟨hg, hm⟩ := gd_some hm
  refine aL_12 (pc := 16) X dX7_endLetValue_16 hg (x := (S1.1 12) r2.toNatClampNeg) rfl ?_
  refine iv_istore_n (pc := 17) X dX7_endLetValue_17 (by decide) (lv' := [(2, .int ((S1.1 12) r2.toNatClampNeg)), (1, .int r2), (0, .ref (ad 3))]) rfl ?_
  refine iv_aload_n (pc := 18) X dX7_endLetValue_18 rfl ?_
  refine gF_X7_21_3 (pc := 19) X dX7_endLetValue_19 ?_
  refine iv_aload_n (pc := 22) X dX7_endLetValue_22 rfl ?_
  refine gF_X7_193_3 (pc := 23) X dX7_endLetValue_23 (x := S1.1 3 8) rfl ?_
  refine iv_iconst (pc := 26) X dX7_endLetValue_26 ic_4 ?_
  refine iv_iload_n (pc := 27) X dX7_endLetValue_27 rfl ?_
  refine iv_iload_n (pc := 28) X dX7_endLetValue_28 rfl ?_
  obtain ⟨⟨r5, S4⟩, hc6, hm⟩ := bd_some hm
  refine cV_X7_296_6 (pc := 29) X [.int (S1.1 3 8), .int 4, .int r2, .int ((S1.1 12) r2.toNatClampNeg)] [] 4 rfl (f_X3_connect_e l g ad (S1.1 3 8) 4 r2 ((S1.1 12) r2.toNatClampNeg) S1 _ _ hc6) (by decide) (by decide) (Nat.le_of_ble_eq_true rfl) rfl dX7_endLetValue_29 ?_
  refine iv_aload_n (pc := 32) X dX7_endLetValue_32 rfl ?_
  refine iv_aload_n (pc := 33) X dX7_endLetValue_33 rfl ?_
  refine gF_X7_193_3 (pc := 34) X dX7_endLetValue_34 (x := S4.1 3 8) rfl ?_
  refine iv_aload_n (pc := 37) X dX7_endLetValue_37 rfl ?_
  refine gF_X7_21_3 (pc := 38) X dX7_endLetValue_38 ?_
  refine gF_X7_262_6 (pc := 41) X dX7_endLetValue_41 ?_
  refine iv_iload_n (pc := 44) X dX7_endLetValue_44 rfl ?_
  obtain ⟨hg, hm⟩ := gd_some hm
  refine aL_8 (pc := 45) X dX7_endLetValue_45 hg (x := (S4.1 8) (((S1.1 12) r2.toNatClampNeg).toNatClampNeg)) rfl ?_
  obtain ⟨⟨r8, S7⟩, hc9, hm⟩ := bd_some hm
  refine cV_X7_226_3 (pc := 46) X [.int (S4.1 3 8), .int ((S4.1 8) (((S1.1 12) r2.toNatClampNeg).toNatClampNeg))] [] 2 rfl (f_X7_checkType_e l g ad (S4.1 3 8) ((S4.1 8) (((S1.1 12) r2.toNatClampNeg).toNatClampNeg)) S4 _ _ hc9) (by decide) (by decide) (Nat.le_of_ble_eq_true rfl) rfl dX7_endLetValue_46 ?_
  refine iv_aload_n (pc := 49) X dX7_endLetValue_49 rfl ?_
  refine iv_iload_n (pc := 50) X dX7_endLetValue_50 rfl ?_
  obtain ⟨⟨r11, S10⟩, hc12, hm⟩ := bd_some hm
  refine cV_X7_142_3 (pc := 51) X [.int ((S1.1 12) r2.toNatClampNeg)] [] 1 rfl (f_X7_know_e l g ad ((S1.1 12) r2.toNatClampNeg) S7 _ _ hc12) (by decide) (by decide) (Nat.le_of_ble_eq_true rfl) rfl dX7_endLetValue_51 ?_
  refine iv_aload_n (pc := 54) X dX7_endLetValue_54 rfl ?_
  refine iv_bipush (pc := 55) X dX7_endLetValue_55 bc_15 ?_
  refine iv_iload_n (pc := 57) X dX7_endLetValue_57 rfl ?_
  refine iv_aload_n (pc := 58) X dX7_endLetValue_58 rfl ?_
  refine gF_X7_35_3 (pc := 59) X dX7_endLetValue_59 ?_
  obtain ⟨⟨r14, S13⟩, hc15, hm⟩ := bd_some hm
  refine cV_X7_186_34 (pc := 62) X [] [.int r2, .int 15, .ref (ad 3)] 0 rfl (f_X6_topRegion_e l g ad  S10 _ _ hc15) (by decide) (by decide) (Nat.le_of_ble_eq_true rfl) rfl dX7_endLetValue_62 ?_
  obtain ⟨⟨r17, S16⟩, hc18, hm⟩ := bd_some hm
  refine cV_X7_212_3 (pc := 65) X [.int 15, .int r2, .int r14] [] 3 rfl (f_X7_open_e l g ad 15 r2 r14 S13 _ _ hc18) (by decide) (by decide) (Nat.le_of_ble_eq_true rfl) rfl dX7_endLetValue_65 ?_
  obtain ⟨hg, hm⟩ := gd_some hm
  cases hm
  exact is_zret (pc := 68) X dX7_endLetValue_68 (z_b_n hg)
def f_X7_endCondition (S : im_S) : Option (Int32 × im_S) := (f_X6_pop S).bind (fun qS1 => gd (in_b qS1.1 512) ((f_X3_connect (qS1.2.1 3 8) 1 qS1.1 (-1) (uI qS1.2 12 qS1.1.toNatClampNeg (qS1.2.1 3 8))).bind (fun qS4 => (f_X7_checkType (qS4.2.1 3 8) 2 qS4.2).bind (fun qS7 => gd (in_b qS1.1 512) ((f_X7_open 17 qS1.1 ((qS7.2.1 15) qS1.1.toNatClampNeg) qS7.2).bind (fun qS10 => gd (z_b qS10.1) (some (qS10.1, qS10.2))))))))
set_option maxHeartbeats 4000000 in
set_option maxRecDepth 100000 in
theorem f_X7_endCondition_e (l : Launch) (g : im_G) (ad : Nat → Nat) (S : im_S) (r : Int32) (S' : im_S) (hm : f_X7_endCondition  S = some (r, S')) : im_E l g ad 2 yX7_endCondition cX7_endCondition 2 (some Jvm.ClassFile.FieldType.boolean) [.ref (ad 3)] S (some (.int r)) S' := by
  unfold f_X7_endCondition at hm
  refine is_met (own := RX7) (by decide +kernel) rfl (Nat.le_of_ble_eq_true rfl) (fun p e s m below meth c X => ?_)
  refine iv_aload_n (pc := 0) X dX7_endCondition_0 rfl ?_
  refine gF_X7_35_3 (pc := 1) X dX7_endCondition_1 ?_
  obtain ⟨⟨r2, S1⟩, hc3, hm⟩ := bd_some hm
  refine cV_X7_303_34 (pc := 4) X [] [] 0 rfl (f_X6_pop_e l g ad  S _ _ hc3) (by decide) (by decide) (Nat.le_of_ble_eq_true rfl) rfl dX7_endCondition_4 ?_
  refine iv_istore_n (pc := 7) X dX7_endCondition_7 (by decide) (lv' := [(1, .int r2), (0, .ref (ad 3))]) rfl ?_
  refine iv_aload_n (pc := 8) X dX7_endCondition_8 rfl ?_
  refine gF_X7_21_3 (pc := 9) X dX7_endCondition_9 ?_
  refine gF_X7_209_6 (pc := 12) X dX7_endCondition_12 ?_
  refine iv_iload_n (pc := 15) X dX7_endCondition_15 rfl ?_
  refine iv_aload_n (pc := 16) X dX7_endCondition_16 rfl ?_
  refine gF_X7_193_3 (pc := 17) X dX7_endCondition_17 (x := S1.1 3 8) rfl ?_
  obtain ⟨hg, hm⟩ := gd_some hm
  refine aS_12 (pc := 20) X dX7_endCondition_20 hg ?_
  refine iv_aload_n (pc := 21) X dX7_endCondition_21 rfl ?_
  refine gF_X7_21_3 (pc := 22) X dX7_endCondition_22 ?_
  refine iv_aload_n (pc := 25) X dX7_endCondition_25 rfl ?_
  refine gF_X7_193_3 (pc := 26) X dX7_endCondition_26 (x := S1.1 3 8) rfl ?_
  refine iv_iconst (pc := 29) X dX7_endCondition_29 ic_1 ?_
  refine iv_iload_n (pc := 30) X dX7_endCondition_30 rfl ?_
  refine iv_iconst (pc := 31) X dX7_endCondition_31 ic_m1 ?_
  obtain ⟨⟨r5, S4⟩, hc6, hm⟩ := bd_some hm
  refine cV_X7_296_6 (pc := 32) X [.int (S1.1 3 8), .int 1, .int r2, .int (-1)] [] 4 rfl (f_X3_connect_e l g ad (S1.1 3 8) 1 r2 (-1) (uI S1 12 r2.toNatClampNeg (S1.1 3 8)) _ _ hc6) (by decide) (by decide) (Nat.le_of_ble_eq_true rfl) rfl dX7_endCondition_32 ?_
  refine iv_aload_n (pc := 35) X dX7_endCondition_35 rfl ?_
  refine iv_aload_n (pc := 36) X dX7_endCondition_36 rfl ?_
  refine gF_X7_193_3 (pc := 37) X dX7_endCondition_37 (x := S4.1 3 8) rfl ?_
  refine iv_iconst (pc := 40) X dX7_endCondition_40 ic_2 ?_
  obtain ⟨⟨r8, S7⟩, hc9, hm⟩ := bd_some hm
  refine cV_X7_226_3 (pc := 41) X [.int (S4.1 3 8), .int 2] [] 2 rfl (f_X7_checkType_e l g ad (S4.1 3 8) 2 S4 _ _ hc9) (by decide) (by decide) (Nat.le_of_ble_eq_true rfl) rfl dX7_endCondition_41 ?_
  refine iv_aload_n (pc := 44) X dX7_endCondition_44 rfl ?_
  refine iv_bipush (pc := 45) X dX7_endCondition_45 bc_17 ?_
  refine iv_iload_n (pc := 47) X dX7_endCondition_47 rfl ?_
  refine iv_aload_n (pc := 48) X dX7_endCondition_48 rfl ?_
  refine gF_X7_21_3 (pc := 49) X dX7_endCondition_49 ?_
  refine gF_X7_223_6 (pc := 52) X dX7_endCondition_52 ?_
  refine iv_iload_n (pc := 55) X dX7_endCondition_55 rfl ?_
  obtain ⟨hg, hm⟩ := gd_some hm
  refine aL_15 (pc := 56) X dX7_endCondition_56 hg (x := (S7.1 15) r2.toNatClampNeg) rfl ?_
  obtain ⟨⟨r11, S10⟩, hc12, hm⟩ := bd_some hm
  refine cV_X7_212_3 (pc := 57) X [.int 17, .int r2, .int ((S7.1 15) r2.toNatClampNeg)] [] 3 rfl (f_X7_open_e l g ad 17 r2 ((S7.1 15) r2.toNatClampNeg) S7 _ _ hc12) (by decide) (by decide) (Nat.le_of_ble_eq_true rfl) rfl dX7_endCondition_57 ?_
  obtain ⟨hg, hm⟩ := gd_some hm
  cases hm
  exact is_zret (pc := 60) X dX7_endCondition_60 (z_b_n hg)
def f_X7_endThenPart (S : im_S) : Option (Int32 × im_S) := (f_X6_pop S).bind (fun qS1 => (f_X3_connect (qS1.2.1 3 8) 3 qS1.1 (-1) qS1.2).bind (fun qS4 => gd (in_b (qS4.2.1 3 8) 512) (gd (in_b qS1.1 512) (gd (in_b qS1.1 512) ((f_X7_open 18 qS1.1 (((qS4.2.1 15) qS1.1.toNatClampNeg) + 1) (uI qS4.2 8 qS1.1.toNatClampNeg ((qS4.2.1 8) ((qS4.2.1 3 8).toNatClampNeg)))).bind (fun qS7 => gd (z_b qS7.1) (some (qS7.1, qS7.2))))))))
set_option maxHeartbeats 4000000 in
set_option maxRecDepth 100000 in
theorem f_X7_endThenPart_e (l : Launch) (g : im_G) (ad : Nat → Nat) (S : im_S) (r : Int32) (S' : im_S) (hm : f_X7_endThenPart  S = some (r, S')) : im_E l g ad 2 yX7_endThenPart cX7_endThenPart 2 (some Jvm.ClassFile.FieldType.boolean) [.ref (ad 3)] S (some (.int r)) S' := by
  unfold f_X7_endThenPart at hm
  refine is_met (own := RX7) (by decide +kernel) rfl (Nat.le_of_ble_eq_true rfl) (fun p e s m below meth c X => ?_)
  refine iv_aload_n (pc := 0) X dX7_endThenPart_0 rfl ?_
  refine gF_X7_35_3 (pc := 1) X dX7_endThenPart_1 ?_
  obtain ⟨⟨r2, S1⟩, hc3, hm⟩ := bd_some hm
  refine cV_X7_303_34 (pc := 4) X [] [] 0 rfl (f_X6_pop_e l g ad  S _ _ hc3) (by decide) (by decide) (Nat.le_of_ble_eq_true rfl) rfl dX7_endThenPart_4 ?_
  refine iv_istore_n (pc := 7) X dX7_endThenPart_7 (by decide) (lv' := [(1, .int r2), (0, .ref (ad 3))]) rfl ?_
  refine iv_aload_n (pc := 8) X dX7_endThenPart_8 rfl ?_
  refine gF_X7_21_3 (pc := 9) X dX7_endThenPart_9 ?_
  refine iv_aload_n (pc := 12) X dX7_endThenPart_12 rfl ?_
  refine gF_X7_193_3 (pc := 13) X dX7_endThenPart_13 (x := S1.1 3 8) rfl ?_
  refine iv_iconst (pc := 16) X dX7_endThenPart_16 ic_3 ?_
  refine iv_iload_n (pc := 17) X dX7_endThenPart_17 rfl ?_
  refine iv_iconst (pc := 18) X dX7_endThenPart_18 ic_m1 ?_
  obtain ⟨⟨r5, S4⟩, hc6, hm⟩ := bd_some hm
  refine cV_X7_296_6 (pc := 19) X [.int (S1.1 3 8), .int 3, .int r2, .int (-1)] [] 4 rfl (f_X3_connect_e l g ad (S1.1 3 8) 3 r2 (-1) S1 _ _ hc6) (by decide) (by decide) (Nat.le_of_ble_eq_true rfl) rfl dX7_endThenPart_19 ?_
  refine iv_aload_n (pc := 22) X dX7_endThenPart_22 rfl ?_
  refine gF_X7_21_3 (pc := 23) X dX7_endThenPart_23 ?_
  refine gF_X7_262_6 (pc := 26) X dX7_endThenPart_26 ?_
  refine iv_iload_n (pc := 29) X dX7_endThenPart_29 rfl ?_
  refine iv_aload_n (pc := 30) X dX7_endThenPart_30 rfl ?_
  refine gF_X7_21_3 (pc := 31) X dX7_endThenPart_31 ?_
  refine gF_X7_262_6 (pc := 34) X dX7_endThenPart_34 ?_
  refine iv_aload_n (pc := 37) X dX7_endThenPart_37 rfl ?_
  refine gF_X7_193_3 (pc := 38) X dX7_endThenPart_38 (x := S4.1 3 8) rfl ?_
  obtain ⟨hg, hm⟩ := gd_some hm
  refine aL_8 (pc := 41) X dX7_endThenPart_41 hg (x := (S4.1 8) ((S4.1 3 8).toNatClampNeg)) rfl ?_
  obtain ⟨hg, hm⟩ := gd_some hm
  refine aS_8 (pc := 42) X dX7_endThenPart_42 hg ?_
  refine iv_aload_n (pc := 43) X dX7_endThenPart_43 rfl ?_
  refine iv_bipush (pc := 44) X dX7_endThenPart_44 bc_18 ?_
  refine iv_iload_n (pc := 46) X dX7_endThenPart_46 rfl ?_
  refine iv_aload_n (pc := 47) X dX7_endThenPart_47 rfl ?_
  refine gF_X7_21_3 (pc := 48) X dX7_endThenPart_48 ?_
  refine gF_X7_223_6 (pc := 51) X dX7_endThenPart_51 ?_
  refine iv_iload_n (pc := 54) X dX7_endThenPart_54 rfl ?_
  obtain ⟨hg, hm⟩ := gd_some hm
  refine aL_15 (pc := 55) X dX7_endThenPart_55 hg (x := (S4.1 15) r2.toNatClampNeg) rfl ?_
  refine iv_iconst (pc := 56) X dX7_endThenPart_56 ic_1 ?_
  refine iv_iadd (pc := 57) X dX7_endThenPart_57 ?_
  obtain ⟨⟨r8, S7⟩, hc9, hm⟩ := bd_some hm
  refine cV_X7_212_3 (pc := 58) X [.int 18, .int r2, .int (((S4.1 15) r2.toNatClampNeg) + 1)] [] 3 rfl (f_X7_open_e l g ad 18 r2 (((S4.1 15) r2.toNatClampNeg) + 1) (uI S4 8 r2.toNatClampNeg ((S4.1 8) ((S4.1 3 8).toNatClampNeg))) _ _ hc9) (by decide) (by decide) (Nat.le_of_ble_eq_true rfl) rfl dX7_endThenPart_58 ?_
  obtain ⟨hg, hm⟩ := gd_some hm
  cases hm
  exact is_zret (pc := 61) X dX7_endThenPart_61 (z_b_n hg)
def f_X7_openWhilePart_L15 (fu : Nat) : Nat → Int32 → Int32 → im_S → Option (Int32 × im_S)
  | 0, _, _, _ => none
  | nf + 1, z1, z2, S => if (4 : Int32) ≤ z2 then (gd (in_b (S.1 3 10) 512) ((f_X6_push 20 (S.1 3 10) ((S.1 15) ((S.1 3 10).toNatClampNeg)) S).bind (fun qS2 => some (1, (uI qS2.2 3 7 0))))) else (if (z1 : Int32) = (-1) then (gd (in_b (S.1 3 10) 512) ((f_X6_push 20 (S.1 3 10) ((S.1 15) ((S.1 3 10).toNatClampNeg)) S).bind (fun qS6 => some (1, (uI qS6.2 3 7 0))))) else ((f_X7_know z1 S).bind (fun qS9 => gd (in_b z1 512) (f_X7_openWhilePart_L15 fu nf ((qS9.2.1 14) z1.toNatClampNeg) (z2 + 1) qS9.2))))
set_option maxHeartbeats 4000000 in
set_option maxRecDepth 100000 in
theorem f_X7_openWhilePart_L15_w {fu : Nat} (l : Launch) (g : im_G) (ad : Nat → Nat) {p : Program} {e : Env} {s : State} {m : MethodId} {below : List Frame} {meth : Method} {c : Code} {args : Array Value} (X : im_X p l s m args meth c g cX7_openWhilePart 3 RX7 (some Jvm.ClassFile.FieldType.boolean)) : ∀ (nf : Nat) (z1 : Int32) (z2 : Int32) (S : im_S) (r : Int32) (S' : im_S), f_X7_openWhilePart_L15 fu nf z1 z2 S = some (r, S') → im_V p l e (im_R 1 0 0) s m args below meth c g 3 (im_Z below g ad args s (some (.int r)) S') ad im_N (im_cn g ad S) 0 0 15 [(0, .ref (ad 3)), (1, .int z1), (2, .int z2)] [] := by
  intro nf
  induction nf with
  | zero =>
    intro z1 z2 S r S' hm
    cases hm
  | succ nf ih =>
    intro z1 z2 S r S' hm
    unfold f_X7_openWhilePart_L15 at hm
    refine iv_iload_n (pc := 15) X dX7_openWhilePart_15 rfl ?_
    refine iv_iconst (pc := 16) X dX7_openWhilePart_16 ic_4 ?_
    refine iv_icmp_ge (pc := 17) X dX7_openWhilePart_17 (tgt := 46) rfl (fun hb1 => ?_) (fun hb1 => ?_)
    · rw [if_pos hb1] at hm
      refine iv_aload_n (pc := 46) X dX7_openWhilePart_46 rfl ?_
      refine gF_X7_35_3 (pc := 47) X dX7_openWhilePart_47 ?_
      refine iv_bipush (pc := 50) X dX7_openWhilePart_50 bc_20 ?_
      refine iv_aload_n (pc := 52) X dX7_openWhilePart_52 rfl ?_
      refine gF_X7_246_3 (pc := 53) X dX7_openWhilePart_53 (x := S.1 3 10) rfl ?_
      refine iv_aload_n (pc := 56) X dX7_openWhilePart_56 rfl ?_
      refine gF_X7_21_3 (pc := 57) X dX7_openWhilePart_57 ?_
      refine gF_X7_223_6 (pc := 60) X dX7_openWhilePart_60 ?_
      refine iv_aload_n (pc := 63) X dX7_openWhilePart_63 rfl ?_
      refine gF_X7_246_3 (pc := 64) X dX7_openWhilePart_64 (x := S.1 3 10) rfl ?_
      obtain ⟨hg, hm⟩ := gd_some hm
      refine aL_15 (pc := 67) X dX7_openWhilePart_67 hg (x := (S.1 15) ((S.1 3 10).toNatClampNeg)) rfl ?_
      obtain ⟨⟨r3, S2⟩, hc4, hm⟩ := bd_some hm
      refine cV_X7_118_34 (pc := 68) X [.int 20, .int (S.1 3 10), .int ((S.1 15) ((S.1 3 10).toNatClampNeg))] [] 3 rfl (f_X6_push_e l g ad 20 (S.1 3 10) ((S.1 15) ((S.1 3 10).toNatClampNeg)) S _ _ hc4) (by decide) (by decide) (Nat.le_of_ble_eq_true rfl) rfl dX7_openWhilePart_68 ?_
      refine iv_aload_n (pc := 71) X dX7_openWhilePart_71 rfl ?_
      refine iv_iconst (pc := 72) X dX7_openWhilePart_72 ic_0 ?_
      refine pF_X7_122_3 (pc := 73) X dX7_openWhilePart_73 ?_
      refine iv_iconst (pc := 76) X dX7_openWhilePart_76 ic_1 ?_
      cases hm
      exact is_zret (pc := 77) X dX7_openWhilePart_77 rfl
    · rw [if_neg hb1] at hm
      refine iv_iload_n (pc := 20) X dX7_openWhilePart_20 rfl ?_
      refine iv_iconst (pc := 21) X dX7_openWhilePart_21 ic_m1 ?_
      refine iv_icmp_eq (pc := 22) X dX7_openWhilePart_22 (tgt := 46) rfl (fun hb5 => ?_) (fun hb5 => ?_)
      · rw [if_pos hb5] at hm
        refine iv_aload_n (pc := 46) X dX7_openWhilePart_46 rfl ?_
        refine gF_X7_35_3 (pc := 47) X dX7_openWhilePart_47 ?_
        refine iv_bipush (pc := 50) X dX7_openWhilePart_50 bc_20 ?_
        refine iv_aload_n (pc := 52) X dX7_openWhilePart_52 rfl ?_
        refine gF_X7_246_3 (pc := 53) X dX7_openWhilePart_53 (x := S.1 3 10) rfl ?_
        refine iv_aload_n (pc := 56) X dX7_openWhilePart_56 rfl ?_
        refine gF_X7_21_3 (pc := 57) X dX7_openWhilePart_57 ?_
        refine gF_X7_223_6 (pc := 60) X dX7_openWhilePart_60 ?_
        refine iv_aload_n (pc := 63) X dX7_openWhilePart_63 rfl ?_
        refine gF_X7_246_3 (pc := 64) X dX7_openWhilePart_64 (x := S.1 3 10) rfl ?_
        obtain ⟨hg, hm⟩ := gd_some hm
        refine aL_15 (pc := 67) X dX7_openWhilePart_67 hg (x := (S.1 15) ((S.1 3 10).toNatClampNeg)) rfl ?_
        obtain ⟨⟨r7, S6⟩, hc8, hm⟩ := bd_some hm
        refine cV_X7_118_34 (pc := 68) X [.int 20, .int (S.1 3 10), .int ((S.1 15) ((S.1 3 10).toNatClampNeg))] [] 3 rfl (f_X6_push_e l g ad 20 (S.1 3 10) ((S.1 15) ((S.1 3 10).toNatClampNeg)) S _ _ hc8) (by decide) (by decide) (Nat.le_of_ble_eq_true rfl) rfl dX7_openWhilePart_68 ?_
        refine iv_aload_n (pc := 71) X dX7_openWhilePart_71 rfl ?_
        refine iv_iconst (pc := 72) X dX7_openWhilePart_72 ic_0 ?_
        refine pF_X7_122_3 (pc := 73) X dX7_openWhilePart_73 ?_
        refine iv_iconst (pc := 76) X dX7_openWhilePart_76 ic_1 ?_
        cases hm
        exact is_zret (pc := 77) X dX7_openWhilePart_77 rfl
      · rw [if_neg hb5] at hm
        refine iv_aload_n (pc := 25) X dX7_openWhilePart_25 rfl ?_
        refine iv_iload_n (pc := 26) X dX7_openWhilePart_26 rfl ?_
        obtain ⟨⟨r10, S9⟩, hc11, hm⟩ := bd_some hm
        refine cV_X7_142_3 (pc := 27) X [.int z1] [] 1 rfl (f_X7_know_e l g ad z1 S _ _ hc11) (by decide) (by decide) (Nat.le_of_ble_eq_true rfl) rfl dX7_openWhilePart_27 ?_
        refine iv_aload_n (pc := 30) X dX7_openWhilePart_30 rfl ?_
        refine gF_X7_21_3 (pc := 31) X dX7_openWhilePart_31 ?_
        refine gF_X7_233_6 (pc := 34) X dX7_openWhilePart_34 ?_
        refine iv_iload_n (pc := 37) X dX7_openWhilePart_37 rfl ?_
        obtain ⟨hg, hm⟩ := gd_some hm
        refine aL_14 (pc := 38) X dX7_openWhilePart_38 hg (x := (S9.1 14) z1.toNatClampNeg) rfl ?_
        refine iv_istore_n (pc := 39) X dX7_openWhilePart_39 (by decide) (lv' := [(1, .int ((S9.1 14) z1.toNatClampNeg)), (0, .ref (ad 3)), (2, .int z2)]) rfl ?_
        refine iv_iinc (pc := 40) X dX7_openWhilePart_40 rfl (by decide) (v := z2 + 1) rfl (lv' := [(2, .int (z2 + 1)), (1, .int ((S9.1 14) z1.toNatClampNeg)), (0, .ref (ad 3))]) rfl ?_
        refine iv_goto (pc := 43) X dX7_openWhilePart_43 (tgt := 15) rfl ?_
        refine iv_sub [2, 1, 0] (lv2 := [(0, .ref (ad 3)), (1, .int ((S9.1 14) z1.toNatClampNeg)), (2, .int (z2 + 1))]) rfl ?_
        exact ih ((S9.1 14) z1.toNatClampNeg) (z2 + 1) S9 _ _ hm
def f_X7_openWhilePart (fu : Nat) (S : im_S) : Option (Int32 × im_S) := gd (in_b (S.1 3 10) 512) (f_X7_openWhilePart_L15 fu fu ((S.1 12) ((S.1 3 10).toNatClampNeg)) 0 S)
set_option maxHeartbeats 4000000 in
set_option maxRecDepth 100000 in
theorem f_X7_openWhilePart_e (l : Launch) (g : im_G) (ad : Nat → Nat) (fu : Nat) (S : im_S) (r : Int32) (S' : im_S) (hm : f_X7_openWhilePart fu  S = some (r, S')) : im_E l g ad 1 yX7_openWhilePart cX7_openWhilePart 3 (some Jvm.ClassFile.FieldType.boolean) [.ref (ad 3)] S (some (.int r)) S' := by
  unfold f_X7_openWhilePart at hm
  refine is_met (own := RX7) (by decide +kernel) rfl (Nat.le_of_ble_eq_true rfl) (fun p e s m below meth c X => ?_)
  refine iv_aload_n (pc := 0) X dX7_openWhilePart_0 rfl ?_
  refine gF_X7_21_3 (pc := 1) X dX7_openWhilePart_1 ?_
  refine gF_X7_209_6 (pc := 4) X dX7_openWhilePart_4 ?_
  refine iv_aload_n (pc := 7) X dX7_openWhilePart_7 rfl ?_
  refine gF_X7_246_3 (pc := 8) X dX7_openWhilePart_8 (x := S.1 3 10) rfl ?_
  obtain ⟨hg, hm⟩ := gd_some hm
  refine aL_12 (pc := 11) X dX7_openWhilePart_11 hg (x := (S.1 12) ((S.1 3 10).toNatClampNeg)) rfl ?_
  refine iv_istore_n (pc := 12) X dX7_openWhilePart_12 (by decide) (lv' := [(1, .int ((S.1 12) ((S.1 3 10).toNatClampNeg))), (0, .ref (ad 3))]) rfl ?_
  refine iv_iconst (pc := 13) X dX7_openWhilePart_13 ic_0 ?_
  refine iv_istore_n (pc := 14) X dX7_openWhilePart_14 (by decide) (lv' := [(2, .int 0), (1, .int ((S.1 12) ((S.1 3 10).toNatClampNeg))), (0, .ref (ad 3))]) rfl ?_
  refine iv_sub [2, 1, 0] (lv2 := [(0, .ref (ad 3)), (1, .int ((S.1 12) ((S.1 3 10).toNatClampNeg))), (2, .int 0)]) rfl ?_
  exact f_X7_openWhilePart_L15_w (fu := fu) l g ad X fu ((S.1 12) ((S.1 3 10).toNatClampNeg)) 0 S _ _ hm
def f_X7_endWhilePart (S : im_S) : Option (Int32 × im_S) := (f_X6_pop S).bind (fun qS1 => gd (in_b qS1.1 512) ((f_X3_connect (qS1.2.1 3 8) 1 qS1.1 (-1) (uI (uI qS1.2 3 10 qS1.1) 13 qS1.1.toNatClampNeg (qS1.2.1 3 8))).bind (fun qS4 => (f_X7_checkType (qS4.2.1 3 8) 2 qS4.2).bind (fun qS7 => some (1, (uI qS7.2 3 7 4))))))
set_option maxHeartbeats 4000000 in
set_option maxRecDepth 100000 in
theorem f_X7_endWhilePart_e (l : Launch) (g : im_G) (ad : Nat → Nat) (S : im_S) (r : Int32) (S' : im_S) (hm : f_X7_endWhilePart  S = some (r, S')) : im_E l g ad 2 yX7_endWhilePart cX7_endWhilePart 1 (some Jvm.ClassFile.FieldType.boolean) [.ref (ad 3)] S (some (.int r)) S' := by
  unfold f_X7_endWhilePart at hm
  refine is_met (own := RX7) (by decide +kernel) rfl (Nat.le_of_ble_eq_true rfl) (fun p e s m below meth c X => ?_)
  refine iv_aload_n (pc := 0) X dX7_endWhilePart_0 rfl ?_
  refine iv_aload_n (pc := 1) X dX7_endWhilePart_1 rfl ?_
  refine gF_X7_35_3 (pc := 2) X dX7_endWhilePart_2 ?_
  obtain ⟨⟨r2, S1⟩, hc3, hm⟩ := bd_some hm
  refine cV_X7_303_34 (pc := 5) X [] [.ref (ad 3)] 0 rfl (f_X6_pop_e l g ad  S _ _ hc3) (by decide) (by decide) (Nat.le_of_ble_eq_true rfl) rfl dX7_endWhilePart_5 ?_
  refine pF_X7_246_3 (pc := 8) X dX7_endWhilePart_8 ?_
  refine iv_aload_n (pc := 11) X dX7_endWhilePart_11 rfl ?_
  refine gF_X7_21_3 (pc := 12) X dX7_endWhilePart_12 ?_
  refine gF_X7_229_6 (pc := 15) X dX7_endWhilePart_15 ?_
  refine iv_aload_n (pc := 18) X dX7_endWhilePart_18 rfl ?_
  refine gF_X7_246_3 (pc := 19) X dX7_endWhilePart_19 (x := r2) rfl ?_
  refine iv_aload_n (pc := 22) X dX7_endWhilePart_22 rfl ?_
  refine gF_X7_193_3 (pc := 23) X dX7_endWhilePart_23 (x := S1.1 3 8) rfl ?_
  obtain ⟨hg, hm⟩ := gd_some hm
  refine aS_13 (pc := 26) X dX7_endWhilePart_26 hg ?_
  refine iv_aload_n (pc := 27) X dX7_endWhilePart_27 rfl ?_
  refine gF_X7_21_3 (pc := 28) X dX7_endWhilePart_28 ?_
  refine iv_aload_n (pc := 31) X dX7_endWhilePart_31 rfl ?_
  refine gF_X7_193_3 (pc := 32) X dX7_endWhilePart_32 (x := S1.1 3 8) rfl ?_
  refine iv_iconst (pc := 35) X dX7_endWhilePart_35 ic_1 ?_
  refine iv_aload_n (pc := 36) X dX7_endWhilePart_36 rfl ?_
  refine gF_X7_246_3 (pc := 37) X dX7_endWhilePart_37 (x := r2) rfl ?_
  refine iv_iconst (pc := 40) X dX7_endWhilePart_40 ic_m1 ?_
  obtain ⟨⟨r5, S4⟩, hc6, hm⟩ := bd_some hm
  refine cV_X7_296_6 (pc := 41) X [.int (S1.1 3 8), .int 1, .int r2, .int (-1)] [] 4 rfl (f_X3_connect_e l g ad (S1.1 3 8) 1 r2 (-1) (uI (uI S1 3 10 r2) 13 r2.toNatClampNeg (S1.1 3 8)) _ _ hc6) (by decide) (by decide) (Nat.le_of_ble_eq_true rfl) rfl dX7_endWhilePart_41 ?_
  refine iv_aload_n (pc := 44) X dX7_endWhilePart_44 rfl ?_
  refine iv_aload_n (pc := 45) X dX7_endWhilePart_45 rfl ?_
  refine gF_X7_193_3 (pc := 46) X dX7_endWhilePart_46 (x := S4.1 3 8) rfl ?_
  refine iv_iconst (pc := 49) X dX7_endWhilePart_49 ic_2 ?_
  obtain ⟨⟨r8, S7⟩, hc9, hm⟩ := bd_some hm
  refine cV_X7_226_3 (pc := 50) X [.int (S4.1 3 8), .int 2] [] 2 rfl (f_X7_checkType_e l g ad (S4.1 3 8) 2 S4 _ _ hc9) (by decide) (by decide) (Nat.le_of_ble_eq_true rfl) rfl dX7_endWhilePart_50 ?_
  refine iv_aload_n (pc := 53) X dX7_endWhilePart_53 rfl ?_
  refine iv_iconst (pc := 54) X dX7_endWhilePart_54 ic_4 ?_
  refine pF_X7_122_3 (pc := 55) X dX7_endWhilePart_55 ?_
  refine iv_iconst (pc := 58) X dX7_endWhilePart_58 ic_1 ?_
  cases hm
  exact is_zret (pc := 59) X dX7_endWhilePart_59 rfl
def f_X7_openGivePart_L39 (fu : Nat) : Nat → Int32 → Int32 → Int32 → im_S → Option (Int32 × im_S)
  | 0, _, _, _, _ => none
  | nf + 1, z1, z2, z3, S => if (4 : Int32) ≤ z3 then (gd (in_b (S.1 3 10) 512) ((f_X6_push 22 (S.1 3 10) (((S.1 15) ((S.1 3 10).toNatClampNeg)) + 2) S).bind (fun qS2 => some (1, (uI qS2.2 3 7 0))))) else (if (z2 : Int32) = (-1) then (gd (in_b (S.1 3 10) 512) ((f_X6_push 22 (S.1 3 10) (((S.1 15) ((S.1 3 10).toNatClampNeg)) + 2) S).bind (fun qS6 => some (1, (uI qS6.2 3 7 0))))) else (gd (in_b z2 512) (if ((S.1 13) z2.toNatClampNeg : Int32) = (-1) then (gd (in_b z2 512) (f_X7_openGivePart_L39 fu nf z1 ((S.1 14) z2.toNatClampNeg) (z3 + 1) S)) else ((f_X3_moveTo z2 z1 S).bind (fun qS10 => gd (in_b z2 512) (gd (in_b ((qS10.2.1 12) z2.toNatClampNeg) 512) (gd (in_b z2 512) (f_X7_openGivePart_L39 fu nf z1 ((qS10.2.1 14) z2.toNatClampNeg) (z3 + 1) (uI qS10.2 9 (((qS10.2.1 12) z2.toNatClampNeg).toNatClampNeg) 5)))))))))
set_option maxHeartbeats 4000000 in
set_option maxRecDepth 100000 in
theorem f_X7_openGivePart_L39_w {fu : Nat} (l : Launch) (g : im_G) (ad : Nat → Nat) {p : Program} {e : Env} {s : State} {m : MethodId} {below : List Frame} {meth : Method} {c : Code} {args : Array Value} (X : im_X p l s m args meth c g cX7_openGivePart 4 RX7 (some Jvm.ClassFile.FieldType.boolean)) : ∀ (nf : Nat) (z1 : Int32) (z2 : Int32) (z3 : Int32) (S : im_S) (r : Int32) (S' : im_S), f_X7_openGivePart_L39 fu nf z1 z2 z3 S = some (r, S') → im_V p l e (im_R 1 0 0) s m args below meth c g 4 (im_Z below g ad args s (some (.int r)) S') ad im_N (im_cn g ad S) 0 0 39 [(0, .ref (ad 3)), (1, .int z1), (2, .int z2), (3, .int z3)] [] := by
  intro nf
  induction nf with
  | zero =>
    intro z1 z2 z3 S r S' hm
    cases hm
  | succ nf ih =>
    intro z1 z2 z3 S r S' hm
    unfold f_X7_openGivePart_L39 at hm
    refine iv_iload_n (pc := 39) X dX7_openGivePart_39 rfl ?_
    refine iv_iconst (pc := 40) X dX7_openGivePart_40 ic_4 ?_
    refine iv_icmp_ge (pc := 41) X dX7_openGivePart_41 (tgt := 105) rfl (fun hb1 => ?_) (fun hb1 => ?_)
    · rw [if_pos hb1] at hm
      refine iv_aload_n (pc := 105) X dX7_openGivePart_105 rfl ?_
      refine gF_X7_35_3 (pc := 106) X dX7_openGivePart_106 ?_
      refine iv_bipush (pc := 109) X dX7_openGivePart_109 bc_22 ?_
      refine iv_aload_n (pc := 111) X dX7_openGivePart_111 rfl ?_
      refine gF_X7_246_3 (pc := 112) X dX7_openGivePart_112 (x := S.1 3 10) rfl ?_
      refine iv_aload_n (pc := 115) X dX7_openGivePart_115 rfl ?_
      refine gF_X7_21_3 (pc := 116) X dX7_openGivePart_116 ?_
      refine gF_X7_223_6 (pc := 119) X dX7_openGivePart_119 ?_
      refine iv_aload_n (pc := 122) X dX7_openGivePart_122 rfl ?_
      refine gF_X7_246_3 (pc := 123) X dX7_openGivePart_123 (x := S.1 3 10) rfl ?_
      obtain ⟨hg, hm⟩ := gd_some hm
      refine aL_15 (pc := 126) X dX7_openGivePart_126 hg (x := (S.1 15) ((S.1 3 10).toNatClampNeg)) rfl ?_
      refine iv_iconst (pc := 127) X dX7_openGivePart_127 ic_2 ?_
      refine iv_iadd (pc := 128) X dX7_openGivePart_128 ?_
      obtain ⟨⟨r3, S2⟩, hc4, hm⟩ := bd_some hm
      refine cV_X7_118_34 (pc := 129) X [.int 22, .int (S.1 3 10), .int (((S.1 15) ((S.1 3 10).toNatClampNeg)) + 2)] [] 3 rfl (f_X6_push_e l g ad 22 (S.1 3 10) (((S.1 15) ((S.1 3 10).toNatClampNeg)) + 2) S _ _ hc4) (by decide) (by decide) (Nat.le_of_ble_eq_true rfl) rfl dX7_openGivePart_129 ?_
      refine iv_aload_n (pc := 132) X dX7_openGivePart_132 rfl ?_
      refine iv_iconst (pc := 133) X dX7_openGivePart_133 ic_0 ?_
      refine pF_X7_122_3 (pc := 134) X dX7_openGivePart_134 ?_
      refine iv_iconst (pc := 137) X dX7_openGivePart_137 ic_1 ?_
      cases hm
      exact is_zret (pc := 138) X dX7_openGivePart_138 rfl
    · rw [if_neg hb1] at hm
      refine iv_iload_n (pc := 44) X dX7_openGivePart_44 rfl ?_
      refine iv_iconst (pc := 45) X dX7_openGivePart_45 ic_m1 ?_
      refine iv_icmp_eq (pc := 46) X dX7_openGivePart_46 (tgt := 105) rfl (fun hb5 => ?_) (fun hb5 => ?_)
      · rw [if_pos hb5] at hm
        refine iv_aload_n (pc := 105) X dX7_openGivePart_105 rfl ?_
        refine gF_X7_35_3 (pc := 106) X dX7_openGivePart_106 ?_
        refine iv_bipush (pc := 109) X dX7_openGivePart_109 bc_22 ?_
        refine iv_aload_n (pc := 111) X dX7_openGivePart_111 rfl ?_
        refine gF_X7_246_3 (pc := 112) X dX7_openGivePart_112 (x := S.1 3 10) rfl ?_
        refine iv_aload_n (pc := 115) X dX7_openGivePart_115 rfl ?_
        refine gF_X7_21_3 (pc := 116) X dX7_openGivePart_116 ?_
        refine gF_X7_223_6 (pc := 119) X dX7_openGivePart_119 ?_
        refine iv_aload_n (pc := 122) X dX7_openGivePart_122 rfl ?_
        refine gF_X7_246_3 (pc := 123) X dX7_openGivePart_123 (x := S.1 3 10) rfl ?_
        obtain ⟨hg, hm⟩ := gd_some hm
        refine aL_15 (pc := 126) X dX7_openGivePart_126 hg (x := (S.1 15) ((S.1 3 10).toNatClampNeg)) rfl ?_
        refine iv_iconst (pc := 127) X dX7_openGivePart_127 ic_2 ?_
        refine iv_iadd (pc := 128) X dX7_openGivePart_128 ?_
        obtain ⟨⟨r7, S6⟩, hc8, hm⟩ := bd_some hm
        refine cV_X7_118_34 (pc := 129) X [.int 22, .int (S.1 3 10), .int (((S.1 15) ((S.1 3 10).toNatClampNeg)) + 2)] [] 3 rfl (f_X6_push_e l g ad 22 (S.1 3 10) (((S.1 15) ((S.1 3 10).toNatClampNeg)) + 2) S _ _ hc8) (by decide) (by decide) (Nat.le_of_ble_eq_true rfl) rfl dX7_openGivePart_129 ?_
        refine iv_aload_n (pc := 132) X dX7_openGivePart_132 rfl ?_
        refine iv_iconst (pc := 133) X dX7_openGivePart_133 ic_0 ?_
        refine pF_X7_122_3 (pc := 134) X dX7_openGivePart_134 ?_
        refine iv_iconst (pc := 137) X dX7_openGivePart_137 ic_1 ?_
        cases hm
        exact is_zret (pc := 138) X dX7_openGivePart_138 rfl
      · rw [if_neg hb5] at hm
        refine iv_aload_n (pc := 49) X dX7_openGivePart_49 rfl ?_
        refine gF_X7_21_3 (pc := 50) X dX7_openGivePart_50 ?_
        refine gF_X7_229_6 (pc := 53) X dX7_openGivePart_53 ?_
        refine iv_iload_n (pc := 56) X dX7_openGivePart_56 rfl ?_
        obtain ⟨hg, hm⟩ := gd_some hm
        refine aL_13 (pc := 57) X dX7_openGivePart_57 hg (x := (S.1 13) z2.toNatClampNeg) rfl ?_
        refine iv_iconst (pc := 58) X dX7_openGivePart_58 ic_m1 ?_
        refine iv_icmp_eq (pc := 59) X dX7_openGivePart_59 (tgt := 89) rfl (fun hb9 => ?_) (fun hb9 => ?_)
        · rw [if_pos hb9] at hm
          refine iv_aload_n (pc := 89) X dX7_openGivePart_89 rfl ?_
          refine gF_X7_21_3 (pc := 90) X dX7_openGivePart_90 ?_
          refine gF_X7_233_6 (pc := 93) X dX7_openGivePart_93 ?_
          refine iv_iload_n (pc := 96) X dX7_openGivePart_96 rfl ?_
          obtain ⟨hg, hm⟩ := gd_some hm
          refine aL_14 (pc := 97) X dX7_openGivePart_97 hg (x := (S.1 14) z2.toNatClampNeg) rfl ?_
          refine iv_istore_n (pc := 98) X dX7_openGivePart_98 (by decide) (lv' := [(2, .int ((S.1 14) z2.toNatClampNeg)), (0, .ref (ad 3)), (1, .int z1), (3, .int z3)]) rfl ?_
          refine iv_iinc (pc := 99) X dX7_openGivePart_99 rfl (by decide) (v := z3 + 1) rfl (lv' := [(3, .int (z3 + 1)), (2, .int ((S.1 14) z2.toNatClampNeg)), (0, .ref (ad 3)), (1, .int z1)]) rfl ?_
          refine iv_goto (pc := 102) X dX7_openGivePart_102 (tgt := 39) rfl ?_
          refine iv_sub [2, 3, 1, 0] (lv2 := [(0, .ref (ad 3)), (1, .int z1), (2, .int ((S.1 14) z2.toNatClampNeg)), (3, .int (z3 + 1))]) rfl ?_
          exact ih z1 ((S.1 14) z2.toNatClampNeg) (z3 + 1) S _ _ hm
        · rw [if_neg hb9] at hm
          refine iv_aload_n (pc := 62) X dX7_openGivePart_62 rfl ?_
          refine gF_X7_21_3 (pc := 63) X dX7_openGivePart_63 ?_
          refine iv_iload_n (pc := 66) X dX7_openGivePart_66 rfl ?_
          refine iv_iload_n (pc := 67) X dX7_openGivePart_67 rfl ?_
          obtain ⟨⟨r11, S10⟩, hc12, hm⟩ := bd_some hm
          refine cV_X7_242_6 (pc := 68) X [.int z2, .int z1] [] 2 rfl (f_X3_moveTo_e l g ad z2 z1 S _ _ hc12) (by decide) (by decide) (Nat.le_of_ble_eq_true rfl) rfl dX7_openGivePart_68 ?_
          refine iv_aload_n (pc := 71) X dX7_openGivePart_71 rfl ?_
          refine gF_X7_21_3 (pc := 72) X dX7_openGivePart_72 ?_
          refine gF_X7_354_6 (pc := 75) X dX7_openGivePart_75 ?_
          refine iv_aload_n (pc := 78) X dX7_openGivePart_78 rfl ?_
          refine gF_X7_21_3 (pc := 79) X dX7_openGivePart_79 ?_
          refine gF_X7_209_6 (pc := 82) X dX7_openGivePart_82 ?_
          refine iv_iload_n (pc := 85) X dX7_openGivePart_85 rfl ?_
          obtain ⟨hg, hm⟩ := gd_some hm
          refine aL_12 (pc := 86) X dX7_openGivePart_86 hg (x := (S10.1 12) z2.toNatClampNeg) rfl ?_
          refine iv_iconst (pc := 87) X dX7_openGivePart_87 ic_5 ?_
          obtain ⟨hg, hm⟩ := gd_some hm
          refine aS_9 (pc := 88) X dX7_openGivePart_88 hg ?_
          refine iv_aload_n (pc := 89) X dX7_openGivePart_89 rfl ?_
          refine gF_X7_21_3 (pc := 90) X dX7_openGivePart_90 ?_
          refine gF_X7_233_6 (pc := 93) X dX7_openGivePart_93 ?_
          refine iv_iload_n (pc := 96) X dX7_openGivePart_96 rfl ?_
          obtain ⟨hg, hm⟩ := gd_some hm
          refine aL_14 (pc := 97) X dX7_openGivePart_97 hg (x := (S10.1 14) z2.toNatClampNeg) rfl ?_
          refine iv_istore_n (pc := 98) X dX7_openGivePart_98 (by decide) (lv' := [(2, .int ((S10.1 14) z2.toNatClampNeg)), (0, .ref (ad 3)), (1, .int z1), (3, .int z3)]) rfl ?_
          refine iv_iinc (pc := 99) X dX7_openGivePart_99 rfl (by decide) (v := z3 + 1) rfl (lv' := [(3, .int (z3 + 1)), (2, .int ((S10.1 14) z2.toNatClampNeg)), (0, .ref (ad 3)), (1, .int z1)]) rfl ?_
          refine iv_goto (pc := 102) X dX7_openGivePart_102 (tgt := 39) rfl ?_
          refine iv_sub [2, 3, 1, 0] (lv2 := [(0, .ref (ad 3)), (1, .int z1), (2, .int ((S10.1 14) z2.toNatClampNeg)), (3, .int (z3 + 1))]) rfl ?_
          exact ih z1 ((S10.1 14) z2.toNatClampNeg) (z3 + 1) (uI S10 9 (((S10.1 12) z2.toNatClampNeg).toNatClampNeg) 5) _ _ hm
def f_X7_openGivePart (fu : Nat) (S : im_S) : Option (Int32 × im_S) := gd (in_b (S.1 3 10) 512) (gd (in_b ((S.1 15) ((S.1 3 10).toNatClampNeg)) 512) (gd (in_b (S.1 3 10) 512) (f_X7_openGivePart_L39 fu fu ((S.1 27) (((S.1 15) ((S.1 3 10).toNatClampNeg)).toNatClampNeg)) ((S.1 12) ((S.1 3 10).toNatClampNeg)) 0 S)))
set_option maxHeartbeats 4000000 in
set_option maxRecDepth 100000 in
theorem f_X7_openGivePart_e (l : Launch) (g : im_G) (ad : Nat → Nat) (fu : Nat) (S : im_S) (r : Int32) (S' : im_S) (hm : f_X7_openGivePart fu  S = some (r, S')) : im_E l g ad 1 yX7_openGivePart cX7_openGivePart 4 (some Jvm.ClassFile.FieldType.boolean) [.ref (ad 3)] S (some (.int r)) S' := by
  unfold f_X7_openGivePart at hm
  refine is_met (own := RX7) (by decide +kernel) rfl (Nat.le_of_ble_eq_true rfl) (fun p e s m below meth c X => ?_)
  refine iv_aload_n (pc := 0) X dX7_openGivePart_0 rfl ?_
  refine gF_X7_21_3 (pc := 1) X dX7_openGivePart_1 ?_
  refine gF_X7_86_6 (pc := 4) X dX7_openGivePart_4 ?_
  refine gF_X7_239_22 (pc := 7) X dX7_openGivePart_7 ?_
  refine iv_aload_n (pc := 10) X dX7_openGivePart_10 rfl ?_
  refine gF_X7_21_3 (pc := 11) X dX7_openGivePart_11 ?_
  refine gF_X7_223_6 (pc := 14) X dX7_openGivePart_14 ?_
  refine iv_aload_n (pc := 17) X dX7_openGivePart_17 rfl ?_
  refine gF_X7_246_3 (pc := 18) X dX7_openGivePart_18 (x := S.1 3 10) rfl ?_
  obtain ⟨hg, hm⟩ := gd_some hm
  refine aL_15 (pc := 21) X dX7_openGivePart_21 hg (x := (S.1 15) ((S.1 3 10).toNatClampNeg)) rfl ?_
  obtain ⟨hg, hm⟩ := gd_some hm
  refine aL_27 (pc := 22) X dX7_openGivePart_22 hg (x := (S.1 27) (((S.1 15) ((S.1 3 10).toNatClampNeg)).toNatClampNeg)) rfl ?_
  refine iv_istore_n (pc := 23) X dX7_openGivePart_23 (by decide) (lv' := [(1, .int ((S.1 27) (((S.1 15) ((S.1 3 10).toNatClampNeg)).toNatClampNeg))), (0, .ref (ad 3))]) rfl ?_
  refine iv_aload_n (pc := 24) X dX7_openGivePart_24 rfl ?_
  refine gF_X7_21_3 (pc := 25) X dX7_openGivePart_25 ?_
  refine gF_X7_209_6 (pc := 28) X dX7_openGivePart_28 ?_
  refine iv_aload_n (pc := 31) X dX7_openGivePart_31 rfl ?_
  refine gF_X7_246_3 (pc := 32) X dX7_openGivePart_32 (x := S.1 3 10) rfl ?_
  obtain ⟨hg, hm⟩ := gd_some hm
  refine aL_12 (pc := 35) X dX7_openGivePart_35 hg (x := (S.1 12) ((S.1 3 10).toNatClampNeg)) rfl ?_
  refine iv_istore_n (pc := 36) X dX7_openGivePart_36 (by decide) (lv' := [(2, .int ((S.1 12) ((S.1 3 10).toNatClampNeg))), (1, .int ((S.1 27) (((S.1 15) ((S.1 3 10).toNatClampNeg)).toNatClampNeg))), (0, .ref (ad 3))]) rfl ?_
  refine iv_iconst (pc := 37) X dX7_openGivePart_37 ic_0 ?_
  refine iv_istore_n (pc := 38) X dX7_openGivePart_38 (by decide) (lv' := [(3, .int 0), (2, .int ((S.1 12) ((S.1 3 10).toNatClampNeg))), (1, .int ((S.1 27) (((S.1 15) ((S.1 3 10).toNatClampNeg)).toNatClampNeg))), (0, .ref (ad 3))]) rfl ?_
  refine iv_sub [3, 2, 1, 0] (lv2 := [(0, .ref (ad 3)), (1, .int ((S.1 27) (((S.1 15) ((S.1 3 10).toNatClampNeg)).toNatClampNeg))), (2, .int ((S.1 12) ((S.1 3 10).toNatClampNeg))), (3, .int 0)]) rfl ?_
  exact f_X7_openGivePart_L39_w (fu := fu) l g ad X fu ((S.1 27) (((S.1 15) ((S.1 3 10).toNatClampNeg)).toNatClampNeg)) ((S.1 12) ((S.1 3 10).toNatClampNeg)) 0 S _ _ hm
def f_X7_endTabSize (S : im_S) : Option (Int32 × im_S) := (f_X6_pop S).bind (fun qS1 => gd (in_b qS1.1 512) ((f_X3_connect (qS1.2.1 3 8) 1 qS1.1 (-1) (uI qS1.2 12 qS1.1.toNatClampNeg (qS1.2.1 3 8))).bind (fun qS4 => (f_X7_checkType (qS4.2.1 3 8) 1 qS4.2).bind (fun qS7 => gd (in_b qS1.1 512) ((f_X7_know ((qS7.2.1 13) qS1.1.toNatClampNeg) (uI qS7.2 3 9 ((qS7.2.1 3 9) - 1))).bind (fun qS10 => gd (in_b qS1.1 512) (gd (in_b ((qS10.2.1 13) qS1.1.toNatClampNeg) 512) ((f_X7_know ((qS10.2.1 14) (((qS10.2.1 13) qS1.1.toNatClampNeg).toNatClampNeg)) qS10.2).bind (fun qS13 => gd (in_b qS1.1 512) ((f_X7_open 24 qS1.1 ((qS13.2.1 15) qS1.1.toNatClampNeg) qS13.2).bind (fun qS16 => gd (z_b qS16.1) (some (qS16.1, qS16.2)))))))))))))
set_option maxHeartbeats 4000000 in
set_option maxRecDepth 100000 in
theorem f_X7_endTabSize_e (l : Launch) (g : im_G) (ad : Nat → Nat) (S : im_S) (r : Int32) (S' : im_S) (hm : f_X7_endTabSize  S = some (r, S')) : im_E l g ad 2 yX7_endTabSize cX7_endTabSize 2 (some Jvm.ClassFile.FieldType.boolean) [.ref (ad 3)] S (some (.int r)) S' := by
  unfold f_X7_endTabSize at hm
  refine is_met (own := RX7) (by decide +kernel) rfl (Nat.le_of_ble_eq_true rfl) (fun p e s m below meth c X => ?_)
  refine iv_aload_n (pc := 0) X dX7_endTabSize_0 rfl ?_
  refine gF_X7_35_3 (pc := 1) X dX7_endTabSize_1 ?_
  obtain ⟨⟨r2, S1⟩, hc3, hm⟩ := bd_some hm
  refine cV_X7_303_34 (pc := 4) X [] [] 0 rfl (f_X6_pop_e l g ad  S _ _ hc3) (by decide) (by decide) (Nat.le_of_ble_eq_true rfl) rfl dX7_endTabSize_4 ?_
  refine iv_istore_n (pc := 7) X dX7_endTabSize_7 (by decide) (lv' := [(1, .int r2), (0, .ref (ad 3))]) rfl ?_
  refine iv_aload_n (pc := 8) X dX7_endTabSize_8 rfl ?_
  refine gF_X7_21_3 (pc := 9) X dX7_endTabSize_9 ?_
  refine gF_X7_209_6 (pc := 12) X dX7_endTabSize_12 ?_
  refine iv_iload_n (pc := 15) X dX7_endTabSize_15 rfl ?_
  refine iv_aload_n (pc := 16) X dX7_endTabSize_16 rfl ?_
  refine gF_X7_193_3 (pc := 17) X dX7_endTabSize_17 (x := S1.1 3 8) rfl ?_
  obtain ⟨hg, hm⟩ := gd_some hm
  refine aS_12 (pc := 20) X dX7_endTabSize_20 hg ?_
  refine iv_aload_n (pc := 21) X dX7_endTabSize_21 rfl ?_
  refine gF_X7_21_3 (pc := 22) X dX7_endTabSize_22 ?_
  refine iv_aload_n (pc := 25) X dX7_endTabSize_25 rfl ?_
  refine gF_X7_193_3 (pc := 26) X dX7_endTabSize_26 (x := S1.1 3 8) rfl ?_
  refine iv_iconst (pc := 29) X dX7_endTabSize_29 ic_1 ?_
  refine iv_iload_n (pc := 30) X dX7_endTabSize_30 rfl ?_
  refine iv_iconst (pc := 31) X dX7_endTabSize_31 ic_m1 ?_
  obtain ⟨⟨r5, S4⟩, hc6, hm⟩ := bd_some hm
  refine cV_X7_296_6 (pc := 32) X [.int (S1.1 3 8), .int 1, .int r2, .int (-1)] [] 4 rfl (f_X3_connect_e l g ad (S1.1 3 8) 1 r2 (-1) (uI S1 12 r2.toNatClampNeg (S1.1 3 8)) _ _ hc6) (by decide) (by decide) (Nat.le_of_ble_eq_true rfl) rfl dX7_endTabSize_32 ?_
  refine iv_aload_n (pc := 35) X dX7_endTabSize_35 rfl ?_
  refine iv_aload_n (pc := 36) X dX7_endTabSize_36 rfl ?_
  refine gF_X7_193_3 (pc := 37) X dX7_endTabSize_37 (x := S4.1 3 8) rfl ?_
  refine iv_iconst (pc := 40) X dX7_endTabSize_40 ic_1 ?_
  obtain ⟨⟨r8, S7⟩, hc9, hm⟩ := bd_some hm
  refine cV_X7_226_3 (pc := 41) X [.int (S4.1 3 8), .int 1] [] 2 rfl (f_X7_checkType_e l g ad (S4.1 3 8) 1 S4 _ _ hc9) (by decide) (by decide) (Nat.le_of_ble_eq_true rfl) rfl dX7_endTabSize_41 ?_
  refine iv_aload_n (pc := 44) X dX7_endTabSize_44 rfl ?_
  refine iv_dup (pc := 45) X dX7_endTabSize_45 rfl ?_
  refine gF_X7_109_3 (pc := 46) X dX7_endTabSize_46 (x := S7.1 3 9) rfl ?_
  refine iv_iconst (pc := 49) X dX7_endTabSize_49 ic_1 ?_
  refine iv_isub (pc := 50) X dX7_endTabSize_50 ?_
  refine pF_X7_109_3 (pc := 51) X dX7_endTabSize_51 ?_
  refine iv_aload_n (pc := 54) X dX7_endTabSize_54 rfl ?_
  refine iv_aload_n (pc := 55) X dX7_endTabSize_55 rfl ?_
  refine gF_X7_21_3 (pc := 56) X dX7_endTabSize_56 ?_
  refine gF_X7_229_6 (pc := 59) X dX7_endTabSize_59 ?_
  refine iv_iload_n (pc := 62) X dX7_endTabSize_62 rfl ?_
  obtain ⟨hg, hm⟩ := gd_some hm
  refine aL_13 (pc := 63) X dX7_endTabSize_63 hg (x := (S7.1 13) r2.toNatClampNeg) rfl ?_
  obtain ⟨⟨r11, S10⟩, hc12, hm⟩ := bd_some hm
  refine cV_X7_142_3 (pc := 64) X [.int ((S7.1 13) r2.toNatClampNeg)] [] 1 rfl (f_X7_know_e l g ad ((S7.1 13) r2.toNatClampNeg) (uI S7 3 9 ((S7.1 3 9) - 1)) _ _ hc12) (by decide) (by decide) (Nat.le_of_ble_eq_true rfl) rfl dX7_endTabSize_64 ?_
  refine iv_aload_n (pc := 67) X dX7_endTabSize_67 rfl ?_
  refine iv_aload_n (pc := 68) X dX7_endTabSize_68 rfl ?_
  refine gF_X7_21_3 (pc := 69) X dX7_endTabSize_69 ?_
  refine gF_X7_233_6 (pc := 72) X dX7_endTabSize_72 ?_
  refine iv_aload_n (pc := 75) X dX7_endTabSize_75 rfl ?_
  refine gF_X7_21_3 (pc := 76) X dX7_endTabSize_76 ?_
  refine gF_X7_229_6 (pc := 79) X dX7_endTabSize_79 ?_
  refine iv_iload_n (pc := 82) X dX7_endTabSize_82 rfl ?_
  obtain ⟨hg, hm⟩ := gd_some hm
  refine aL_13 (pc := 83) X dX7_endTabSize_83 hg (x := (S10.1 13) r2.toNatClampNeg) rfl ?_
  obtain ⟨hg, hm⟩ := gd_some hm
  refine aL_14 (pc := 84) X dX7_endTabSize_84 hg (x := (S10.1 14) (((S10.1 13) r2.toNatClampNeg).toNatClampNeg)) rfl ?_
  obtain ⟨⟨r14, S13⟩, hc15, hm⟩ := bd_some hm
  refine cV_X7_142_3 (pc := 85) X [.int ((S10.1 14) (((S10.1 13) r2.toNatClampNeg).toNatClampNeg))] [] 1 rfl (f_X7_know_e l g ad ((S10.1 14) (((S10.1 13) r2.toNatClampNeg).toNatClampNeg)) S10 _ _ hc15) (by decide) (by decide) (Nat.le_of_ble_eq_true rfl) rfl dX7_endTabSize_85 ?_
  refine iv_aload_n (pc := 88) X dX7_endTabSize_88 rfl ?_
  refine iv_bipush (pc := 89) X dX7_endTabSize_89 bc_24 ?_
  refine iv_iload_n (pc := 91) X dX7_endTabSize_91 rfl ?_
  refine iv_aload_n (pc := 92) X dX7_endTabSize_92 rfl ?_
  refine gF_X7_21_3 (pc := 93) X dX7_endTabSize_93 ?_
  refine gF_X7_223_6 (pc := 96) X dX7_endTabSize_96 ?_
  refine iv_iload_n (pc := 99) X dX7_endTabSize_99 rfl ?_
  obtain ⟨hg, hm⟩ := gd_some hm
  refine aL_15 (pc := 100) X dX7_endTabSize_100 hg (x := (S13.1 15) r2.toNatClampNeg) rfl ?_
  obtain ⟨⟨r17, S16⟩, hc18, hm⟩ := bd_some hm
  refine cV_X7_212_3 (pc := 101) X [.int 24, .int r2, .int ((S13.1 15) r2.toNatClampNeg)] [] 3 rfl (f_X7_open_e l g ad 24 r2 ((S13.1 15) r2.toNatClampNeg) S13 _ _ hc18) (by decide) (by decide) (Nat.le_of_ble_eq_true rfl) rfl dX7_endTabSize_101 ?_
  obtain ⟨hg, hm⟩ := gd_some hm
  cases hm
  exact is_zret (pc := 104) X dX7_endTabSize_104 (z_b_n hg)
def f_X7_linkCall_L109 (fu : Nat) : Nat → Int32 → Int32 → Int32 → Int32 → Int32 → im_S → Option (Unit × im_S)
  | 0, _, _, _, _, _, _ => none
  | nf + 1, z1, z2, z3, z4, z5, S => if (4 : Int32) ≤ z5 then (some ((), S)) else (if (z4 : Int32) = (-1) then (some ((), S)) else (if (z3 : Int32) = (-1) then (some ((), S)) else (gd (in_b z4 512) (gd (in_b z3 512) ((f_X7_checkType z4 ((S.1 8) z3.toNatClampNeg) (uI S 11 z4.toNatClampNeg z3)).bind (fun qS4 => gd (in_b z4 512) (gd (in_b z3 512) (f_X7_linkCall_L109 fu nf z1 z2 ((qS4.2.1 14) z3.toNatClampNeg) ((qS4.2.1 14) z4.toNatClampNeg) (z5 + 1) qS4.2))))))))
set_option maxHeartbeats 4000000 in
set_option maxRecDepth 100000 in
theorem f_X7_linkCall_L109_w {fu : Nat} (l : Launch) (g : im_G) (ad : Nat → Nat) {p : Program} {e : Env} {s : State} {m : MethodId} {below : List Frame} {meth : Method} {c : Code} {args : Array Value} (X : im_X p l s m args meth c g cX7_linkCall 6 RX7 none) : ∀ (nf : Nat) (z1 : Int32) (z2 : Int32) (z3 : Int32) (z4 : Int32) (z5 : Int32) (S : im_S) (r : Unit) (S' : im_S), f_X7_linkCall_L109 fu nf z1 z2 z3 z4 z5 S = some (r, S') → im_V p l e (im_R 2 0 0) s m args below meth c g 6 (im_Z below g ad args s none S') ad im_N (im_cn g ad S) 0 0 109 [(0, .ref (ad 3)), (1, .int z1), (2, .int z2), (3, .int z3), (4, .int z4), (5, .int z5)] [] := by
  intro nf
  induction nf with
  | zero =>
    intro z1 z2 z3 z4 z5 S r S' hm
    cases hm
  | succ nf ih =>
    intro z1 z2 z3 z4 z5 S r S' hm
    unfold f_X7_linkCall_L109 at hm
    refine iv_iload (pc := 109) X dX7_linkCall_109 rfl ?_
    refine iv_iconst (pc := 111) X dX7_linkCall_111 ic_4 ?_
    refine iv_icmp_ge (pc := 112) X dX7_linkCall_112 (tgt := 180) rfl (fun hb1 => ?_) (fun hb1 => ?_)
    · rw [if_pos hb1] at hm
      cases hm
      exact is_vret (pc := 180) X dX7_linkCall_180
    · rw [if_neg hb1] at hm
      refine iv_iload (pc := 115) X dX7_linkCall_115 rfl ?_
      refine iv_iconst (pc := 117) X dX7_linkCall_117 ic_m1 ?_
      refine iv_icmp_eq (pc := 118) X dX7_linkCall_118 (tgt := 180) rfl (fun hb2 => ?_) (fun hb2 => ?_)
      · rw [if_pos hb2] at hm
        cases hm
        exact is_vret (pc := 180) X dX7_linkCall_180
      · rw [if_neg hb2] at hm
        refine iv_iload_n (pc := 121) X dX7_linkCall_121 rfl ?_
        refine iv_iconst (pc := 122) X dX7_linkCall_122 ic_m1 ?_
        refine iv_icmp_eq (pc := 123) X dX7_linkCall_123 (tgt := 180) rfl (fun hb3 => ?_) (fun hb3 => ?_)
        · rw [if_pos hb3] at hm
          cases hm
          exact is_vret (pc := 180) X dX7_linkCall_180
        · rw [if_neg hb3] at hm
          refine iv_aload_n (pc := 126) X dX7_linkCall_126 rfl ?_
          refine gF_X7_21_3 (pc := 127) X dX7_linkCall_127 ?_
          refine gF_X7_365_6 (pc := 130) X dX7_linkCall_130 ?_
          refine iv_iload (pc := 133) X dX7_linkCall_133 rfl ?_
          refine iv_iload_n (pc := 135) X dX7_linkCall_135 rfl ?_
          obtain ⟨hg, hm⟩ := gd_some hm
          refine aS_11 (pc := 136) X dX7_linkCall_136 hg ?_
          refine iv_aload_n (pc := 137) X dX7_linkCall_137 rfl ?_
          refine iv_iload (pc := 138) X dX7_linkCall_138 rfl ?_
          refine iv_aload_n (pc := 140) X dX7_linkCall_140 rfl ?_
          refine gF_X7_21_3 (pc := 141) X dX7_linkCall_141 ?_
          refine gF_X7_262_6 (pc := 144) X dX7_linkCall_144 ?_
          refine iv_iload_n (pc := 147) X dX7_linkCall_147 rfl ?_
          obtain ⟨hg, hm⟩ := gd_some hm
          refine aL_8 (pc := 148) X dX7_linkCall_148 hg (x := (S.1 8) z3.toNatClampNeg) rfl ?_
          obtain ⟨⟨r5, S4⟩, hc6, hm⟩ := bd_some hm
          refine cV_X7_226_3 (pc := 149) X [.int z4, .int ((S.1 8) z3.toNatClampNeg)] [] 2 rfl (f_X7_checkType_e l g ad z4 ((S.1 8) z3.toNatClampNeg) (uI S 11 z4.toNatClampNeg z3) _ _ hc6) (by decide) (by decide) (Nat.le_of_ble_eq_true rfl) rfl dX7_linkCall_149 ?_
          refine iv_aload_n (pc := 152) X dX7_linkCall_152 rfl ?_
          refine gF_X7_21_3 (pc := 153) X dX7_linkCall_153 ?_
          refine gF_X7_233_6 (pc := 156) X dX7_linkCall_156 ?_
          refine iv_iload (pc := 159) X dX7_linkCall_159 rfl ?_
          obtain ⟨hg, hm⟩ := gd_some hm
          refine aL_14 (pc := 161) X dX7_linkCall_161 hg (x := (S4.1 14) z4.toNatClampNeg) rfl ?_
          refine iv_istore (pc := 162) X dX7_linkCall_162 (by decide) (lv' := [(4, .int ((S4.1 14) z4.toNatClampNeg)), (0, .ref (ad 3)), (1, .int z1), (2, .int z2), (3, .int z3), (5, .int z5)]) rfl ?_
          refine iv_aload_n (pc := 164) X dX7_linkCall_164 rfl ?_
          refine gF_X7_21_3 (pc := 165) X dX7_linkCall_165 ?_
          refine gF_X7_233_6 (pc := 168) X dX7_linkCall_168 ?_
          refine iv_iload_n (pc := 171) X dX7_linkCall_171 rfl ?_
          obtain ⟨hg, hm⟩ := gd_some hm
          refine aL_14 (pc := 172) X dX7_linkCall_172 hg (x := (S4.1 14) z3.toNatClampNeg) rfl ?_
          refine iv_istore_n (pc := 173) X dX7_linkCall_173 (by decide) (lv' := [(3, .int ((S4.1 14) z3.toNatClampNeg)), (4, .int ((S4.1 14) z4.toNatClampNeg)), (0, .ref (ad 3)), (1, .int z1), (2, .int z2), (5, .int z5)]) rfl ?_
          refine iv_iinc (pc := 174) X dX7_linkCall_174 rfl (by decide) (v := z5 + 1) rfl (lv' := [(5, .int (z5 + 1)), (3, .int ((S4.1 14) z3.toNatClampNeg)), (4, .int ((S4.1 14) z4.toNatClampNeg)), (0, .ref (ad 3)), (1, .int z1), (2, .int z2)]) rfl ?_
          refine iv_goto (pc := 177) X dX7_linkCall_177 (tgt := 109) rfl ?_
          refine iv_sub [3, 4, 5, 1, 2, 0] (lv2 := [(0, .ref (ad 3)), (1, .int z1), (2, .int z2), (3, .int ((S4.1 14) z3.toNatClampNeg)), (4, .int ((S4.1 14) z4.toNatClampNeg)), (5, .int (z5 + 1))]) rfl ?_
          exact ih z1 z2 ((S4.1 14) z3.toNatClampNeg) ((S4.1 14) z4.toNatClampNeg) (z5 + 1) S4 _ _ hm
def f_X7_linkCall (fu : Nat) (x1 : Int32) (S : im_S) : Option (Unit × im_S) := gd (in_b x1 512) ((f_X4_findFunction fu ((S.2.1 21) x1.toNatClampNeg) S).bind (fun qS1 => if (qS1.1 : Int32) ≠ (-1) then (gd (in_b qS1.1 8) (gd (in_b x1 512) (if (qS1.1 : Int32) = (-1) then (gd (in_b x1 512) ((f_X1_note 2 ((qS1.2.1 19) x1.toNatClampNeg) qS1.2).bind (fun qS6 => some ((), qS6.2)))) else ((f_X3_chainLength fu ((qS1.2.1 25) qS1.1.toNatClampNeg) qS1.2).bind (fun qS9 => (f_X3_chainLength fu ((qS1.2.1 12) x1.toNatClampNeg) qS9.2).bind (fun qS12 => if (qS9.1 : Int32) = qS12.1 then (gd (in_b x1 512) (f_X7_linkCall_L109 fu fu x1 qS1.1 ((qS1.2.1 25) qS1.1.toNatClampNeg) ((qS1.2.1 12) x1.toNatClampNeg) 0 (uI qS12.2 13 x1.toNatClampNeg qS1.1))) else (gd (in_b x1 512) ((f_X1_note 2 ((qS12.2.1 19) x1.toNatClampNeg) qS12.2).bind (fun qS16 => some ((), qS16.2)))))))))) else (gd (in_b x1 512) (if (qS1.1 : Int32) = (-1) then (gd (in_b x1 512) ((f_X1_note 2 ((qS1.2.1 19) x1.toNatClampNeg) qS1.2).bind (fun qS20 => some ((), qS20.2)))) else ((f_X3_chainLength fu (-1) qS1.2).bind (fun qS23 => (f_X3_chainLength fu ((qS1.2.1 12) x1.toNatClampNeg) qS23.2).bind (fun qS26 => if (qS23.1 : Int32) = qS26.1 then (gd (in_b x1 512) (f_X7_linkCall_L109 fu fu x1 qS1.1 (-1) ((qS1.2.1 12) x1.toNatClampNeg) 0 (uI qS26.2 13 x1.toNatClampNeg qS1.1))) else (gd (in_b x1 512) ((f_X1_note 2 ((qS26.2.1 19) x1.toNatClampNeg) qS26.2).bind (fun qS30 => some ((), qS30.2)))))))))))
set_option maxHeartbeats 4000000 in
set_option maxRecDepth 100000 in
theorem f_X7_linkCall_e (l : Launch) (g : im_G) (ad : Nat → Nat) (fu : Nat) (x1 : Int32) (S : im_S) (r : Unit) (S' : im_S) (hm : f_X7_linkCall fu x1 S = some (r, S')) : im_E l g ad 2 yX7_linkCall cX7_linkCall 6 none [.ref (ad 3), .int x1] S none S' := by
  unfold f_X7_linkCall at hm
  refine is_met (own := RX7) (by decide +kernel) rfl (Nat.le_of_ble_eq_true rfl) (fun p e s m below meth c X => ?_)
  refine iv_aload_n (pc := 0) X dX7_linkCall_0 rfl ?_
  refine gF_X7_21_3 (pc := 1) X dX7_linkCall_1 ?_
  refine gF_X7_86_6 (pc := 4) X dX7_linkCall_4 ?_
  refine iv_aload_n (pc := 7) X dX7_linkCall_7 rfl ?_
  refine gF_X7_21_3 (pc := 8) X dX7_linkCall_8 ?_
  refine gF_X7_232_6 (pc := 11) X dX7_linkCall_11 ?_
  refine iv_iload_n (pc := 14) X dX7_linkCall_14 rfl ?_
  obtain ⟨hg, hm⟩ := gd_some hm
  refine aL_21 (pc := 15) X dX7_linkCall_15 hg (x := (S.2.1 21) x1.toNatClampNeg) rfl ?_
  obtain ⟨⟨r2, S1⟩, hc3, hm⟩ := bd_some hm
  refine cV_X7_90_22 (pc := 16) X [.long ((S.2.1 21) x1.toNatClampNeg)] [] 1 rfl (f_X4_findFunction_e l g ad fu ((S.2.1 21) x1.toNatClampNeg) S _ _ hc3) (by decide) (by decide) (Nat.le_of_ble_eq_true rfl) rfl dX7_linkCall_16 ?_
  refine iv_istore_n (pc := 19) X dX7_linkCall_19 (by decide) (lv' := [(2, .int r2), (0, .ref (ad 3)), (1, .int x1)]) rfl ?_
  refine iv_iload_n (pc := 20) X dX7_linkCall_20 rfl ?_
  refine iv_iconst (pc := 21) X dX7_linkCall_21 ic_m1 ?_
  refine iv_icmp_ne (pc := 22) X dX7_linkCall_22 (tgt := 29) rfl (fun hb4 => ?_) (fun hb4 => ?_)
  · rw [if_pos hb4] at hm
    refine iv_aload_n (pc := 29) X dX7_linkCall_29 rfl ?_
    refine gF_X7_21_3 (pc := 30) X dX7_linkCall_30 ?_
    refine gF_X7_86_6 (pc := 33) X dX7_linkCall_33 ?_
    refine gF_X7_135_22 (pc := 36) X dX7_linkCall_36 ?_
    refine iv_iload_n (pc := 39) X dX7_linkCall_39 rfl ?_
    obtain ⟨hg, hm⟩ := gd_some hm
    refine aL_25 (pc := 40) X dX7_linkCall_40 hg (x := (S1.1 25) r2.toNatClampNeg) rfl ?_
    refine iv_istore_n (pc := 41) X dX7_linkCall_41 (by decide) (lv' := [(3, .int ((S1.1 25) r2.toNatClampNeg)), (2, .int r2), (0, .ref (ad 3)), (1, .int x1)]) rfl ?_
    refine iv_aload_n (pc := 42) X dX7_linkCall_42 rfl ?_
    refine gF_X7_21_3 (pc := 43) X dX7_linkCall_43 ?_
    refine gF_X7_209_6 (pc := 46) X dX7_linkCall_46 ?_
    refine iv_iload_n (pc := 49) X dX7_linkCall_49 rfl ?_
    obtain ⟨hg, hm⟩ := gd_some hm
    refine aL_12 (pc := 50) X dX7_linkCall_50 hg (x := (S1.1 12) x1.toNatClampNeg) rfl ?_
    refine iv_istore (pc := 51) X dX7_linkCall_51 (by decide) (lv' := [(4, .int ((S1.1 12) x1.toNatClampNeg)), (3, .int ((S1.1 25) r2.toNatClampNeg)), (2, .int r2), (0, .ref (ad 3)), (1, .int x1)]) rfl ?_
    refine iv_iload_n (pc := 53) X dX7_linkCall_53 rfl ?_
    refine iv_iconst (pc := 54) X dX7_linkCall_54 ic_m1 ?_
    refine iv_icmp_eq (pc := 55) X dX7_linkCall_55 (tgt := 78) rfl (fun hb5 => ?_) (fun hb5 => ?_)
    · rw [if_pos hb5] at hm
      refine iv_aload_n (pc := 78) X dX7_linkCall_78 rfl ?_
      refine gF_X7_12_3 (pc := 79) X dX7_linkCall_79 ?_
      refine iv_iconst (pc := 82) X dX7_linkCall_82 ic_2 ?_
      refine iv_aload_n (pc := 83) X dX7_linkCall_83 rfl ?_
      refine gF_X7_21_3 (pc := 84) X dX7_linkCall_84 ?_
      refine gF_X7_364_6 (pc := 87) X dX7_linkCall_87 ?_
      refine iv_iload_n (pc := 90) X dX7_linkCall_90 rfl ?_
      obtain ⟨hg, hm⟩ := gd_some hm
      refine aL_19 (pc := 91) X dX7_linkCall_91 hg (x := (S1.1 19) x1.toNatClampNeg) rfl ?_
      obtain ⟨⟨r7, S6⟩, hc8, hm⟩ := bd_some hm
      refine cV_X7_99_5 (pc := 92) X [.int 2, .int ((S1.1 19) x1.toNatClampNeg)] [] 2 rfl (f_X1_note_e l g ad 2 ((S1.1 19) x1.toNatClampNeg) S1 _ _ hc8) (by decide) (by decide) (Nat.le_of_ble_eq_true rfl) rfl dX7_linkCall_92 ?_
      cases hm
      exact is_vret (pc := 95) X dX7_linkCall_95
    · rw [if_neg hb5] at hm
      refine iv_aload_n (pc := 58) X dX7_linkCall_58 rfl ?_
      refine gF_X7_21_3 (pc := 59) X dX7_linkCall_59 ?_
      refine iv_iload_n (pc := 62) X dX7_linkCall_62 rfl ?_
      obtain ⟨⟨r10, S9⟩, hc11, hm⟩ := bd_some hm
      refine cV_X7_249_6 (pc := 63) X [.int ((S1.1 25) r2.toNatClampNeg)] [] 1 rfl (f_X3_chainLength_e l g ad fu ((S1.1 25) r2.toNatClampNeg) S1 _ _ hc11) (by decide) (by decide) (Nat.le_of_ble_eq_true rfl) rfl dX7_linkCall_63 ?_
      refine iv_aload_n (pc := 66) X dX7_linkCall_66 rfl ?_
      refine gF_X7_21_3 (pc := 67) X dX7_linkCall_67 ?_
      refine iv_iload (pc := 70) X dX7_linkCall_70 rfl ?_
      obtain ⟨⟨r13, S12⟩, hc14, hm⟩ := bd_some hm
      refine cV_X7_249_6 (pc := 72) X [.int ((S1.1 12) x1.toNatClampNeg)] [.int r10] 1 rfl (f_X3_chainLength_e l g ad fu ((S1.1 12) x1.toNatClampNeg) S9 _ _ hc14) (by decide) (by decide) (Nat.le_of_ble_eq_true rfl) rfl dX7_linkCall_72 ?_
      refine iv_icmp_eq (pc := 75) X dX7_linkCall_75 (tgt := 96) rfl (fun hb15 => ?_) (fun hb15 => ?_)
      · rw [if_pos hb15] at hm
        refine iv_aload_n (pc := 96) X dX7_linkCall_96 rfl ?_
        refine gF_X7_21_3 (pc := 97) X dX7_linkCall_97 ?_
        refine gF_X7_229_6 (pc := 100) X dX7_linkCall_100 ?_
        refine iv_iload_n (pc := 103) X dX7_linkCall_103 rfl ?_
        refine iv_iload_n (pc := 104) X dX7_linkCall_104 rfl ?_
        obtain ⟨hg, hm⟩ := gd_some hm
        refine aS_13 (pc := 105) X dX7_linkCall_105 hg ?_
        refine iv_iconst (pc := 106) X dX7_linkCall_106 ic_0 ?_
        refine iv_istore (pc := 107) X dX7_linkCall_107 (by decide) (lv' := [(5, .int 0), (4, .int ((S1.1 12) x1.toNatClampNeg)), (3, .int ((S1.1 25) r2.toNatClampNeg)), (2, .int r2), (0, .ref (ad 3)), (1, .int x1)]) rfl ?_
        refine iv_sub [4, 5, 3, 2, 1, 0] (lv2 := [(0, .ref (ad 3)), (1, .int x1), (2, .int r2), (3, .int ((S1.1 25) r2.toNatClampNeg)), (4, .int ((S1.1 12) x1.toNatClampNeg)), (5, .int 0)]) rfl ?_
        exact f_X7_linkCall_L109_w (fu := fu) l g ad X fu x1 r2 ((S1.1 25) r2.toNatClampNeg) ((S1.1 12) x1.toNatClampNeg) 0 (uI S12 13 x1.toNatClampNeg r2) _ _ hm
      · rw [if_neg hb15] at hm
        refine iv_aload_n (pc := 78) X dX7_linkCall_78 rfl ?_
        refine gF_X7_12_3 (pc := 79) X dX7_linkCall_79 ?_
        refine iv_iconst (pc := 82) X dX7_linkCall_82 ic_2 ?_
        refine iv_aload_n (pc := 83) X dX7_linkCall_83 rfl ?_
        refine gF_X7_21_3 (pc := 84) X dX7_linkCall_84 ?_
        refine gF_X7_364_6 (pc := 87) X dX7_linkCall_87 ?_
        refine iv_iload_n (pc := 90) X dX7_linkCall_90 rfl ?_
        obtain ⟨hg, hm⟩ := gd_some hm
        refine aL_19 (pc := 91) X dX7_linkCall_91 hg (x := (S12.1 19) x1.toNatClampNeg) rfl ?_
        obtain ⟨⟨r17, S16⟩, hc18, hm⟩ := bd_some hm
        refine cV_X7_99_5 (pc := 92) X [.int 2, .int ((S12.1 19) x1.toNatClampNeg)] [] 2 rfl (f_X1_note_e l g ad 2 ((S12.1 19) x1.toNatClampNeg) S12 _ _ hc18) (by decide) (by decide) (Nat.le_of_ble_eq_true rfl) rfl dX7_linkCall_92 ?_
        cases hm
        exact is_vret (pc := 95) X dX7_linkCall_95
  · rw [if_neg hb4] at hm
    refine iv_iconst (pc := 25) X dX7_linkCall_25 ic_m1 ?_
    refine iv_goto (pc := 26) X dX7_linkCall_26 (tgt := 41) rfl ?_
    refine iv_istore_n (pc := 41) X dX7_linkCall_41 (by decide) (lv' := [(3, .int (-1)), (2, .int r2), (0, .ref (ad 3)), (1, .int x1)]) rfl ?_
    refine iv_aload_n (pc := 42) X dX7_linkCall_42 rfl ?_
    refine gF_X7_21_3 (pc := 43) X dX7_linkCall_43 ?_
    refine gF_X7_209_6 (pc := 46) X dX7_linkCall_46 ?_
    refine iv_iload_n (pc := 49) X dX7_linkCall_49 rfl ?_
    obtain ⟨hg, hm⟩ := gd_some hm
    refine aL_12 (pc := 50) X dX7_linkCall_50 hg (x := (S1.1 12) x1.toNatClampNeg) rfl ?_
    refine iv_istore (pc := 51) X dX7_linkCall_51 (by decide) (lv' := [(4, .int ((S1.1 12) x1.toNatClampNeg)), (3, .int (-1)), (2, .int r2), (0, .ref (ad 3)), (1, .int x1)]) rfl ?_
    refine iv_iload_n (pc := 53) X dX7_linkCall_53 rfl ?_
    refine iv_iconst (pc := 54) X dX7_linkCall_54 ic_m1 ?_
    refine iv_icmp_eq (pc := 55) X dX7_linkCall_55 (tgt := 78) rfl (fun hb19 => ?_) (fun hb19 => ?_)
    · rw [if_pos hb19] at hm
      refine iv_aload_n (pc := 78) X dX7_linkCall_78 rfl ?_
      refine gF_X7_12_3 (pc := 79) X dX7_linkCall_79 ?_
      refine iv_iconst (pc := 82) X dX7_linkCall_82 ic_2 ?_
      refine iv_aload_n (pc := 83) X dX7_linkCall_83 rfl ?_
      refine gF_X7_21_3 (pc := 84) X dX7_linkCall_84 ?_
      refine gF_X7_364_6 (pc := 87) X dX7_linkCall_87 ?_
      refine iv_iload_n (pc := 90) X dX7_linkCall_90 rfl ?_
      obtain ⟨hg, hm⟩ := gd_some hm
      refine aL_19 (pc := 91) X dX7_linkCall_91 hg (x := (S1.1 19) x1.toNatClampNeg) rfl ?_
      obtain ⟨⟨r21, S20⟩, hc22, hm⟩ := bd_some hm
      refine cV_X7_99_5 (pc := 92) X [.int 2, .int ((S1.1 19) x1.toNatClampNeg)] [] 2 rfl (f_X1_note_e l g ad 2 ((S1.1 19) x1.toNatClampNeg) S1 _ _ hc22) (by decide) (by decide) (Nat.le_of_ble_eq_true rfl) rfl dX7_linkCall_92 ?_
      cases hm
      exact is_vret (pc := 95) X dX7_linkCall_95
    · rw [if_neg hb19] at hm
      refine iv_aload_n (pc := 58) X dX7_linkCall_58 rfl ?_
      refine gF_X7_21_3 (pc := 59) X dX7_linkCall_59 ?_
      refine iv_iload_n (pc := 62) X dX7_linkCall_62 rfl ?_
      obtain ⟨⟨r24, S23⟩, hc25, hm⟩ := bd_some hm
      refine cV_X7_249_6 (pc := 63) X [.int (-1)] [] 1 rfl (f_X3_chainLength_e l g ad fu (-1) S1 _ _ hc25) (by decide) (by decide) (Nat.le_of_ble_eq_true rfl) rfl dX7_linkCall_63 ?_
      refine iv_aload_n (pc := 66) X dX7_linkCall_66 rfl ?_
      refine gF_X7_21_3 (pc := 67) X dX7_linkCall_67 ?_
      refine iv_iload (pc := 70) X dX7_linkCall_70 rfl ?_
      obtain ⟨⟨r27, S26⟩, hc28, hm⟩ := bd_some hm
      refine cV_X7_249_6 (pc := 72) X [.int ((S1.1 12) x1.toNatClampNeg)] [.int r24] 1 rfl (f_X3_chainLength_e l g ad fu ((S1.1 12) x1.toNatClampNeg) S23 _ _ hc28) (by decide) (by decide) (Nat.le_of_ble_eq_true rfl) rfl dX7_linkCall_72 ?_
      refine iv_icmp_eq (pc := 75) X dX7_linkCall_75 (tgt := 96) rfl (fun hb29 => ?_) (fun hb29 => ?_)
      · rw [if_pos hb29] at hm
        refine iv_aload_n (pc := 96) X dX7_linkCall_96 rfl ?_
        refine gF_X7_21_3 (pc := 97) X dX7_linkCall_97 ?_
        refine gF_X7_229_6 (pc := 100) X dX7_linkCall_100 ?_
        refine iv_iload_n (pc := 103) X dX7_linkCall_103 rfl ?_
        refine iv_iload_n (pc := 104) X dX7_linkCall_104 rfl ?_
        obtain ⟨hg, hm⟩ := gd_some hm
        refine aS_13 (pc := 105) X dX7_linkCall_105 hg ?_
        refine iv_iconst (pc := 106) X dX7_linkCall_106 ic_0 ?_
        refine iv_istore (pc := 107) X dX7_linkCall_107 (by decide) (lv' := [(5, .int 0), (4, .int ((S1.1 12) x1.toNatClampNeg)), (3, .int (-1)), (2, .int r2), (0, .ref (ad 3)), (1, .int x1)]) rfl ?_
        refine iv_sub [4, 5, 3, 2, 1, 0] (lv2 := [(0, .ref (ad 3)), (1, .int x1), (2, .int r2), (3, .int (-1)), (4, .int ((S1.1 12) x1.toNatClampNeg)), (5, .int 0)]) rfl ?_
        exact f_X7_linkCall_L109_w (fu := fu) l g ad X fu x1 r2 (-1) ((S1.1 12) x1.toNatClampNeg) 0 (uI S26 13 x1.toNatClampNeg r2) _ _ hm
      · rw [if_neg hb29] at hm
        refine iv_aload_n (pc := 78) X dX7_linkCall_78 rfl ?_
        refine gF_X7_12_3 (pc := 79) X dX7_linkCall_79 ?_
        refine iv_iconst (pc := 82) X dX7_linkCall_82 ic_2 ?_
        refine iv_aload_n (pc := 83) X dX7_linkCall_83 rfl ?_
        refine gF_X7_21_3 (pc := 84) X dX7_linkCall_84 ?_
        refine gF_X7_364_6 (pc := 87) X dX7_linkCall_87 ?_
        refine iv_iload_n (pc := 90) X dX7_linkCall_90 rfl ?_
        obtain ⟨hg, hm⟩ := gd_some hm
        refine aL_19 (pc := 91) X dX7_linkCall_91 hg (x := (S26.1 19) x1.toNatClampNeg) rfl ?_
        obtain ⟨⟨r31, S30⟩, hc32, hm⟩ := bd_some hm
        refine cV_X7_99_5 (pc := 92) X [.int 2, .int ((S26.1 19) x1.toNatClampNeg)] [] 2 rfl (f_X1_note_e l g ad 2 ((S26.1 19) x1.toNatClampNeg) S26 _ _ hc32) (by decide) (by decide) (Nat.le_of_ble_eq_true rfl) rfl dX7_linkCall_92 ?_
        cases hm
        exact is_vret (pc := 95) X dX7_linkCall_95
def f_X7_addHere (x1 : Int32) (x2 : Int32) (x3 : Int64) (S : im_S) : Option (Int32 × im_S) := (f_X7_placeHere S).bind (fun qS1 => (f_X6_topRegion qS1.2).bind (fun qS4 => (f_X3_add x1 x2 qS1.1 x3 qS4.1 qS4.2).bind (fun qS7 => some (qS7.1, (uI qS7.2 3 6 ((qS7.2.1 3 6) + 1))))))
set_option maxHeartbeats 4000000 in
set_option maxRecDepth 100000 in
theorem f_X7_addHere_e (l : Launch) (g : im_G) (ad : Nat → Nat) (x1 : Int32) (x2 : Int32) (x3 : Int64) (S : im_S) (r : Int32) (S' : im_S) (hm : f_X7_addHere x1 x2 x3 S = some (r, S')) : im_E l g ad 2 yX7_addHere cX7_addHere 6 (some Jvm.ClassFile.FieldType.int) [.ref (ad 3), .int x1, .int x2, .long x3] S (some (.int r)) S' := by
  unfold f_X7_addHere at hm
  refine is_met (own := RX7) (by decide +kernel) rfl (Nat.le_of_ble_eq_true rfl) (fun p e s m below meth c X => ?_)
  refine iv_aload_n (pc := 0) X dX7_addHere_0 rfl ?_
  refine gF_X7_21_3 (pc := 1) X dX7_addHere_1 ?_
  refine iv_iload_n (pc := 4) X dX7_addHere_4 rfl ?_
  refine iv_iload_n (pc := 5) X dX7_addHere_5 rfl ?_
  refine iv_aload_n (pc := 6) X dX7_addHere_6 rfl ?_
  obtain ⟨⟨r2, S1⟩, hc3, hm⟩ := bd_some hm
  refine cV_X7_96_3 (pc := 7) X [] [.int x2, .int x1, .ref (ad 6)] 0 rfl (f_X7_placeHere_e l g ad  S _ _ hc3) (by decide) (by decide) (Nat.le_of_ble_eq_true rfl) rfl dX7_addHere_7 ?_
  refine iv_lload_n (pc := 10) X dX7_addHere_10 rfl ?_
  refine iv_aload_n (pc := 11) X dX7_addHere_11 rfl ?_
  refine gF_X7_35_3 (pc := 12) X dX7_addHere_12 ?_
  obtain ⟨⟨r5, S4⟩, hc6, hm⟩ := bd_some hm
  refine cV_X7_186_34 (pc := 15) X [] [.long x3, .int r2, .int x2, .int x1, .ref (ad 6)] 0 rfl (f_X6_topRegion_e l g ad  S1 _ _ hc6) (by decide) (by decide) (Nat.le_of_ble_eq_true rfl) rfl dX7_addHere_15 ?_
  obtain ⟨⟨r8, S7⟩, hc9, hm⟩ := bd_some hm
  refine cV_X7_189_6 (pc := 18) X [.int x1, .int x2, .int r2, .long x3, .int r5] [] 5 rfl (f_X3_add_e l g ad x1 x2 r2 x3 r5 S4 _ _ hc9) (by decide) (by decide) (Nat.le_of_ble_eq_true rfl) rfl dX7_addHere_18 ?_
  refine iv_istore (pc := 21) X dX7_addHere_21 (by decide) (lv' := [(5, .int r8), (0, .ref (ad 3)), (1, .int x1), (2, .int x2), (3, .long x3)]) rfl ?_
  refine iv_aload_n (pc := 23) X dX7_addHere_23 rfl ?_
  refine iv_dup (pc := 24) X dX7_addHere_24 rfl ?_
  refine gF_X7_51_3 (pc := 25) X dX7_addHere_25 (x := S7.1 3 6) rfl ?_
  refine iv_iconst (pc := 28) X dX7_addHere_28 ic_1 ?_
  refine iv_iadd (pc := 29) X dX7_addHere_29 ?_
  refine pF_X7_51_3 (pc := 30) X dX7_addHere_30 ?_
  refine iv_iload (pc := 33) X dX7_addHere_33 rfl ?_
  cases hm
  exact is_iret (pc := 35) X dX7_addHere_35
def f_X7_constant (x1 : Int32) (x2 : Int64) (S : im_S) : Option (Int32 × im_S) := (f_X7_addHere 1 x1 x2 S).bind (fun qS1 => (f_X7_endOperand qS1.1 qS1.2).bind (fun qS4 => gd (z_b qS4.1) (some (qS4.1, qS4.2))))
set_option maxHeartbeats 4000000 in
set_option maxRecDepth 100000 in
theorem f_X7_constant_e (l : Launch) (g : im_G) (ad : Nat → Nat) (x1 : Int32) (x2 : Int64) (S : im_S) (r : Int32) (S' : im_S) (hm : f_X7_constant x1 x2 S = some (r, S')) : im_E l g ad 3 yX7_constant cX7_constant 4 (some Jvm.ClassFile.FieldType.boolean) [.ref (ad 3), .int x1, .long x2] S (some (.int r)) S' := by
  unfold f_X7_constant at hm
  refine is_met (own := RX7) (by decide +kernel) rfl (Nat.le_of_ble_eq_true rfl) (fun p e s m below meth c X => ?_)
  refine iv_aload_n (pc := 0) X dX7_constant_0 rfl ?_
  refine iv_aload_n (pc := 1) X dX7_constant_1 rfl ?_
  refine iv_iconst (pc := 2) X dX7_constant_2 ic_1 ?_
  refine iv_iload_n (pc := 3) X dX7_constant_3 rfl ?_
  refine iv_lload_n (pc := 4) X dX7_constant_4 rfl ?_
  obtain ⟨⟨r2, S1⟩, hc3, hm⟩ := bd_some hm
  refine cV_X7_196_3 (pc := 5) X [.int 1, .int x1, .long x2] [.ref (ad 3)] 3 rfl (f_X7_addHere_e l g ad 1 x1 x2 S _ _ hc3) (by decide) (by decide) (Nat.le_of_ble_eq_true rfl) rfl dX7_constant_5 ?_
  obtain ⟨⟨r5, S4⟩, hc6, hm⟩ := bd_some hm
  refine cV_X7_200_3 (pc := 8) X [.int r2] [] 1 rfl (f_X7_endOperand_e l g ad r2 S1 _ _ hc6) (by decide) (by decide) (Nat.le_of_ble_eq_true rfl) rfl dX7_constant_8 ?_
  obtain ⟨hg, hm⟩ := gd_some hm
  cases hm
  exact is_zret (pc := 11) X dX7_constant_11 (z_b_n hg)
def f_X7_use (fu : Nat) (S : im_S) : Option (Int32 × im_S) := gd (in_b (S.1 3 6) 501) ((f_X7_findKnown fu ((S.2.1 33) ((S.1 3 6).toNatClampNeg)) S).bind (fun qS1 => if (qS1.1 : Int32) ≠ (-1) then ((f_X7_typeOf fu ((S.2.1 33) ((S.1 3 6).toNatClampNeg)) qS1.2).bind (fun qS5 => (f_X7_addHere 2 qS5.1 ((S.2.1 33) ((S.1 3 6).toNatClampNeg)) qS5.2).bind (fun qS8 => gd (in_b qS8.1 512) ((f_X7_endOperand qS8.1 (uI qS8.2 12 qS8.1.toNatClampNeg qS1.1)).bind (fun qS11 => gd (z_b qS11.1) (some (qS11.1, qS11.2))))))) else ((f_X7_placeHere qS1.2).bind (fun qS14 => (f_X1_note 2 qS14.1 qS14.2).bind (fun qS17 => (f_X7_typeOf fu ((S.2.1 33) ((S.1 3 6).toNatClampNeg)) qS17.2).bind (fun qS20 => (f_X7_addHere 2 qS20.1 ((S.2.1 33) ((S.1 3 6).toNatClampNeg)) qS20.2).bind (fun qS23 => gd (in_b qS23.1 512) ((f_X7_endOperand qS23.1 (uI qS23.2 12 qS23.1.toNatClampNeg qS1.1)).bind (fun qS26 => gd (z_b qS26.1) (some (qS26.1, qS26.2)))))))))))
set_option maxHeartbeats 4000000 in
set_option maxRecDepth 100000 in
theorem f_X7_use_e (l : Launch) (g : im_G) (ad : Nat → Nat) (fu : Nat) (S : im_S) (r : Int32) (S' : im_S) (hm : f_X7_use fu  S = some (r, S')) : im_E l g ad 3 yX7_use cX7_use 5 (some Jvm.ClassFile.FieldType.boolean) [.ref (ad 3)] S (some (.int r)) S' := by
  unfold f_X7_use at hm
  refine is_met (own := RX7) (by decide +kernel) rfl (Nat.le_of_ble_eq_true rfl) (fun p e s m below meth c X => ?_)
  refine iv_aload_n (pc := 0) X dX7_use_0 rfl ?_
  refine gF_X7_28_3 (pc := 1) X dX7_use_1 ?_
  refine gF_X7_82_30 (pc := 4) X dX7_use_4 ?_
  refine iv_aload_n (pc := 7) X dX7_use_7 rfl ?_
  refine gF_X7_51_3 (pc := 8) X dX7_use_8 (x := S.1 3 6) rfl ?_
  obtain ⟨hg, hm⟩ := gd_some hm
  refine aL_33 (pc := 11) X dX7_use_11 hg (x := (S.2.1 33) ((S.1 3 6).toNatClampNeg)) rfl ?_
  refine iv_lstore_n (pc := 12) X dX7_use_12 (by decide) (lv' := [(1, .long ((S.2.1 33) ((S.1 3 6).toNatClampNeg))), (0, .ref (ad 3))]) rfl ?_
  refine iv_aload_n (pc := 13) X dX7_use_13 rfl ?_
  refine iv_lload_n (pc := 14) X dX7_use_14 rfl ?_
  obtain ⟨⟨r2, S1⟩, hc3, hm⟩ := bd_some hm
  refine cV_X7_203_3 (pc := 15) X [.long ((S.2.1 33) ((S.1 3 6).toNatClampNeg))] [] 1 rfl (f_X7_findKnown_e l g ad fu ((S.2.1 33) ((S.1 3 6).toNatClampNeg)) S _ _ hc3) (by decide) (by decide) (Nat.le_of_ble_eq_true rfl) rfl dX7_use_15 ?_
  refine iv_istore_n (pc := 18) X dX7_use_18 (by decide) (lv' := [(3, .int r2), (1, .long ((S.2.1 33) ((S.1 3 6).toNatClampNeg))), (0, .ref (ad 3))]) rfl ?_
  refine iv_iload_n (pc := 19) X dX7_use_19 rfl ?_
  refine iv_iconst (pc := 20) X dX7_use_20 ic_m1 ?_
  refine iv_icmp_ne (pc := 21) X dX7_use_21 (tgt := 36) rfl (fun hb4 => ?_) (fun hb4 => ?_)
  · rw [if_pos hb4] at hm
    refine iv_aload_n (pc := 36) X dX7_use_36 rfl ?_
    refine iv_iconst (pc := 37) X dX7_use_37 ic_2 ?_
    refine iv_lload_n (pc := 38) X dX7_use_38 rfl ?_
    obtain ⟨⟨r6, S5⟩, hc7, hm⟩ := bd_some hm
    refine cS_X7_206 (pc := 39) X [.long ((S.2.1 33) ((S.1 3 6).toNatClampNeg))] [.int 2, .ref (ad 3)] 1 rfl (f_X7_typeOf_e l g ad fu ((S.2.1 33) ((S.1 3 6).toNatClampNeg)) S1 _ _ hc7) (by decide) (by decide) (Nat.le_of_ble_eq_true rfl) rfl dX7_use_39 ?_
    refine iv_lload_n (pc := 42) X dX7_use_42 rfl ?_
    obtain ⟨⟨r9, S8⟩, hc10, hm⟩ := bd_some hm
    refine cV_X7_196_3 (pc := 43) X [.int 2, .int r6, .long ((S.2.1 33) ((S.1 3 6).toNatClampNeg))] [] 3 rfl (f_X7_addHere_e l g ad 2 r6 ((S.2.1 33) ((S.1 3 6).toNatClampNeg)) S5 _ _ hc10) (by decide) (by decide) (Nat.le_of_ble_eq_true rfl) rfl dX7_use_43 ?_
    refine iv_istore (pc := 46) X dX7_use_46 (by decide) (lv' := [(4, .int r9), (3, .int r2), (1, .long ((S.2.1 33) ((S.1 3 6).toNatClampNeg))), (0, .ref (ad 3))]) rfl ?_
    refine iv_aload_n (pc := 48) X dX7_use_48 rfl ?_
    refine gF_X7_21_3 (pc := 49) X dX7_use_49 ?_
    refine gF_X7_209_6 (pc := 52) X dX7_use_52 ?_
    refine iv_iload (pc := 55) X dX7_use_55 rfl ?_
    refine iv_iload_n (pc := 57) X dX7_use_57 rfl ?_
    obtain ⟨hg, hm⟩ := gd_some hm
    refine aS_12 (pc := 58) X dX7_use_58 hg ?_
    refine iv_aload_n (pc := 59) X dX7_use_59 rfl ?_
    refine iv_iload (pc := 60) X dX7_use_60 rfl ?_
    obtain ⟨⟨r12, S11⟩, hc13, hm⟩ := bd_some hm
    refine cV_X7_200_3 (pc := 62) X [.int r9] [] 1 rfl (f_X7_endOperand_e l g ad r9 (uI S8 12 r9.toNatClampNeg r2) _ _ hc13) (by decide) (by decide) (Nat.le_of_ble_eq_true rfl) rfl dX7_use_62 ?_
    obtain ⟨hg, hm⟩ := gd_some hm
    cases hm
    exact is_zret (pc := 65) X dX7_use_65 (z_b_n hg)
  · rw [if_neg hb4] at hm
    refine iv_aload_n (pc := 24) X dX7_use_24 rfl ?_
    refine gF_X7_12_3 (pc := 25) X dX7_use_25 ?_
    refine iv_iconst (pc := 28) X dX7_use_28 ic_2 ?_
    refine iv_aload_n (pc := 29) X dX7_use_29 rfl ?_
    obtain ⟨⟨r15, S14⟩, hc16, hm⟩ := bd_some hm
    refine cV_X7_96_3 (pc := 30) X [] [.int 2, .ref (ad 5)] 0 rfl (f_X7_placeHere_e l g ad  S1 _ _ hc16) (by decide) (by decide) (Nat.le_of_ble_eq_true rfl) rfl dX7_use_30 ?_
    obtain ⟨⟨r18, S17⟩, hc19, hm⟩ := bd_some hm
    refine cV_X7_99_5 (pc := 33) X [.int 2, .int r15] [] 2 rfl (f_X1_note_e l g ad 2 r15 S14 _ _ hc19) (by decide) (by decide) (Nat.le_of_ble_eq_true rfl) rfl dX7_use_33 ?_
    refine iv_aload_n (pc := 36) X dX7_use_36 rfl ?_
    refine iv_iconst (pc := 37) X dX7_use_37 ic_2 ?_
    refine iv_lload_n (pc := 38) X dX7_use_38 rfl ?_
    obtain ⟨⟨r21, S20⟩, hc22, hm⟩ := bd_some hm
    refine cS_X7_206 (pc := 39) X [.long ((S.2.1 33) ((S.1 3 6).toNatClampNeg))] [.int 2, .ref (ad 3)] 1 rfl (f_X7_typeOf_e l g ad fu ((S.2.1 33) ((S.1 3 6).toNatClampNeg)) S17 _ _ hc22) (by decide) (by decide) (Nat.le_of_ble_eq_true rfl) rfl dX7_use_39 ?_
    refine iv_lload_n (pc := 42) X dX7_use_42 rfl ?_
    obtain ⟨⟨r24, S23⟩, hc25, hm⟩ := bd_some hm
    refine cV_X7_196_3 (pc := 43) X [.int 2, .int r21, .long ((S.2.1 33) ((S.1 3 6).toNatClampNeg))] [] 3 rfl (f_X7_addHere_e l g ad 2 r21 ((S.2.1 33) ((S.1 3 6).toNatClampNeg)) S20 _ _ hc25) (by decide) (by decide) (Nat.le_of_ble_eq_true rfl) rfl dX7_use_43 ?_
    refine iv_istore (pc := 46) X dX7_use_46 (by decide) (lv' := [(4, .int r24), (3, .int r2), (1, .long ((S.2.1 33) ((S.1 3 6).toNatClampNeg))), (0, .ref (ad 3))]) rfl ?_
    refine iv_aload_n (pc := 48) X dX7_use_48 rfl ?_
    refine gF_X7_21_3 (pc := 49) X dX7_use_49 ?_
    refine gF_X7_209_6 (pc := 52) X dX7_use_52 ?_
    refine iv_iload (pc := 55) X dX7_use_55 rfl ?_
    refine iv_iload_n (pc := 57) X dX7_use_57 rfl ?_
    obtain ⟨hg, hm⟩ := gd_some hm
    refine aS_12 (pc := 58) X dX7_use_58 hg ?_
    refine iv_aload_n (pc := 59) X dX7_use_59 rfl ?_
    refine iv_iload (pc := 60) X dX7_use_60 rfl ?_
    obtain ⟨⟨r27, S26⟩, hc28, hm⟩ := bd_some hm
    refine cV_X7_200_3 (pc := 62) X [.int r24] [] 1 rfl (f_X7_endOperand_e l g ad r24 (uI S23 12 r24.toNatClampNeg r2) _ _ hc28) (by decide) (by decide) (Nat.le_of_ble_eq_true rfl) rfl dX7_use_62 ?_
    obtain ⟨hg, hm⟩ := gd_some hm
    cases hm
    exact is_zret (pc := 65) X dX7_use_65 (z_b_n hg)
def f_X7_openCall (fu : Nat) (S : im_S) : Option (Int32 × im_S) := gd (in_b (S.1 3 6) 501) ((f_X7_typeOf fu ((S.2.1 33) ((S.1 3 6).toNatClampNeg)) S).bind (fun qS1 => (f_X7_addHere 8 qS1.1 ((S.2.1 33) ((S.1 3 6).toNatClampNeg)) qS1.2).bind (fun qS4 => (f_X7_kindHere (uI qS4.2 3 6 ((qS4.2.1 3 6) + 1))).bind (fun qS7 => if (qS7.1 : Int32) ≠ 41 then ((f_X6_topRegion (uI qS7.2 3 9 ((qS7.2.1 3 9) + 1))).bind (fun qS11 => (f_X7_open 13 qS4.1 qS11.1 qS11.2).bind (fun qS14 => gd (z_b qS14.1) (some (qS14.1, qS14.2))))) else ((f_X7_endOperand qS4.1 (uI qS7.2 3 6 ((qS7.2.1 3 6) + 1))).bind (fun qS17 => gd (z_b qS17.1) (some (qS17.1, qS17.2))))))))
set_option maxHeartbeats 4000000 in
set_option maxRecDepth 100000 in
theorem f_X7_openCall_e (l : Launch) (g : im_G) (ad : Nat → Nat) (fu : Nat) (S : im_S) (r : Int32) (S' : im_S) (hm : f_X7_openCall fu  S = some (r, S')) : im_E l g ad 3 yX7_openCall cX7_openCall 4 (some Jvm.ClassFile.FieldType.boolean) [.ref (ad 3)] S (some (.int r)) S' := by
  unfold f_X7_openCall at hm
  refine is_met (own := RX7) (by decide +kernel) rfl (Nat.le_of_ble_eq_true rfl) (fun p e s m below meth c X => ?_)
  refine iv_aload_n (pc := 0) X dX7_openCall_0 rfl ?_
  refine gF_X7_28_3 (pc := 1) X dX7_openCall_1 ?_
  refine gF_X7_82_30 (pc := 4) X dX7_openCall_4 ?_
  refine iv_aload_n (pc := 7) X dX7_openCall_7 rfl ?_
  refine gF_X7_51_3 (pc := 8) X dX7_openCall_8 (x := S.1 3 6) rfl ?_
  obtain ⟨hg, hm⟩ := gd_some hm
  refine aL_33 (pc := 11) X dX7_openCall_11 hg (x := (S.2.1 33) ((S.1 3 6).toNatClampNeg)) rfl ?_
  refine iv_lstore_n (pc := 12) X dX7_openCall_12 (by decide) (lv' := [(1, .long ((S.2.1 33) ((S.1 3 6).toNatClampNeg))), (0, .ref (ad 3))]) rfl ?_
  refine iv_aload_n (pc := 13) X dX7_openCall_13 rfl ?_
  refine iv_bipush (pc := 14) X dX7_openCall_14 bc_8 ?_
  refine iv_lload_n (pc := 16) X dX7_openCall_16 rfl ?_
  obtain ⟨⟨r2, S1⟩, hc3, hm⟩ := bd_some hm
  refine cS_X7_206 (pc := 17) X [.long ((S.2.1 33) ((S.1 3 6).toNatClampNeg))] [.int 8, .ref (ad 3)] 1 rfl (f_X7_typeOf_e l g ad fu ((S.2.1 33) ((S.1 3 6).toNatClampNeg)) S _ _ hc3) (by decide) (by decide) (Nat.le_of_ble_eq_true rfl) rfl dX7_openCall_17 ?_
  refine iv_lload_n (pc := 20) X dX7_openCall_20 rfl ?_
  obtain ⟨⟨r5, S4⟩, hc6, hm⟩ := bd_some hm
  refine cV_X7_196_3 (pc := 21) X [.int 8, .int r2, .long ((S.2.1 33) ((S.1 3 6).toNatClampNeg))] [] 3 rfl (f_X7_addHere_e l g ad 8 r2 ((S.2.1 33) ((S.1 3 6).toNatClampNeg)) S1 _ _ hc6) (by decide) (by decide) (Nat.le_of_ble_eq_true rfl) rfl dX7_openCall_21 ?_
  refine iv_istore_n (pc := 24) X dX7_openCall_24 (by decide) (lv' := [(3, .int r5), (1, .long ((S.2.1 33) ((S.1 3 6).toNatClampNeg))), (0, .ref (ad 3))]) rfl ?_
  refine iv_aload_n (pc := 25) X dX7_openCall_25 rfl ?_
  refine iv_dup (pc := 26) X dX7_openCall_26 rfl ?_
  refine gF_X7_51_3 (pc := 27) X dX7_openCall_27 (x := S4.1 3 6) rfl ?_
  refine iv_iconst (pc := 30) X dX7_openCall_30 ic_1 ?_
  refine iv_iadd (pc := 31) X dX7_openCall_31 ?_
  refine pF_X7_51_3 (pc := 32) X dX7_openCall_32 ?_
  refine iv_aload_n (pc := 35) X dX7_openCall_35 rfl ?_
  obtain ⟨⟨r8, S7⟩, hc9, hm⟩ := bd_some hm
  refine cV_X7_62_3 (pc := 36) X [] [] 0 rfl (f_X7_kindHere_e l g ad  (uI S4 3 6 ((S4.1 3 6) + 1)) _ _ hc9) (by decide) (by decide) (Nat.le_of_ble_eq_true rfl) rfl dX7_openCall_36 ?_
  refine iv_bipush (pc := 39) X dX7_openCall_39 bc_41 ?_
  refine iv_icmp_ne (pc := 41) X dX7_openCall_41 (tgt := 60) rfl (fun hb10 => ?_) (fun hb10 => ?_)
  · rw [if_pos hb10] at hm
    refine iv_aload_n (pc := 60) X dX7_openCall_60 rfl ?_
    refine iv_dup (pc := 61) X dX7_openCall_61 rfl ?_
    refine gF_X7_109_3 (pc := 62) X dX7_openCall_62 (x := S7.1 3 9) rfl ?_
    refine iv_iconst (pc := 65) X dX7_openCall_65 ic_1 ?_
    refine iv_iadd (pc := 66) X dX7_openCall_66 ?_
    refine pF_X7_109_3 (pc := 67) X dX7_openCall_67 ?_
    refine iv_aload_n (pc := 70) X dX7_openCall_70 rfl ?_
    refine iv_bipush (pc := 71) X dX7_openCall_71 bc_13 ?_
    refine iv_iload_n (pc := 73) X dX7_openCall_73 rfl ?_
    refine iv_aload_n (pc := 74) X dX7_openCall_74 rfl ?_
    refine gF_X7_35_3 (pc := 75) X dX7_openCall_75 ?_
    obtain ⟨⟨r12, S11⟩, hc13, hm⟩ := bd_some hm
    refine cV_X7_186_34 (pc := 78) X [] [.int r5, .int 13, .ref (ad 3)] 0 rfl (f_X6_topRegion_e l g ad  (uI S7 3 9 ((S7.1 3 9) + 1)) _ _ hc13) (by decide) (by decide) (Nat.le_of_ble_eq_true rfl) rfl dX7_openCall_78 ?_
    obtain ⟨⟨r15, S14⟩, hc16, hm⟩ := bd_some hm
    refine cV_X7_212_3 (pc := 81) X [.int 13, .int r5, .int r12] [] 3 rfl (f_X7_open_e l g ad 13 r5 r12 S11 _ _ hc16) (by decide) (by decide) (Nat.le_of_ble_eq_true rfl) rfl dX7_openCall_81 ?_
    obtain ⟨hg, hm⟩ := gd_some hm
    cases hm
    exact is_zret (pc := 84) X dX7_openCall_84 (z_b_n hg)
  · rw [if_neg hb10] at hm
    refine iv_aload_n (pc := 44) X dX7_openCall_44 rfl ?_
    refine iv_dup (pc := 45) X dX7_openCall_45 rfl ?_
    refine gF_X7_51_3 (pc := 46) X dX7_openCall_46 (x := S7.1 3 6) rfl ?_
    refine iv_iconst (pc := 49) X dX7_openCall_49 ic_1 ?_
    refine iv_iadd (pc := 50) X dX7_openCall_50 ?_
    refine pF_X7_51_3 (pc := 51) X dX7_openCall_51 ?_
    refine iv_aload_n (pc := 54) X dX7_openCall_54 rfl ?_
    refine iv_iload_n (pc := 55) X dX7_openCall_55 rfl ?_
    obtain ⟨⟨r18, S17⟩, hc19, hm⟩ := bd_some hm
    refine cV_X7_200_3 (pc := 56) X [.int r5] [] 1 rfl (f_X7_endOperand_e l g ad r5 (uI S7 3 6 ((S7.1 3 6) + 1)) _ _ hc19) (by decide) (by decide) (Nat.le_of_ble_eq_true rfl) rfl dX7_openCall_56 ?_
    obtain ⟨hg, hm⟩ := gd_some hm
    cases hm
    exact is_zret (pc := 59) X dX7_openCall_59 (z_b_n hg)
def f_X7_openAhead (x1 : Int32) (S : im_S) : Option (Int32 × im_S) := (f_X7_kindHere S).bind (fun qS1 => (f_X7_addHere 4 x1 qS1.1.toInt64 qS1.2).bind (fun qS4 => (f_X6_topRegion qS4.2).bind (fun qS7 => (f_X6_push 6 qS4.1 qS7.1 qS7.2).bind (fun qS10 => some (1, (uI qS10.2 3 7 1))))))
set_option maxHeartbeats 4000000 in
set_option maxRecDepth 100000 in
theorem f_X7_openAhead_e (l : Launch) (g : im_G) (ad : Nat → Nat) (x1 : Int32) (S : im_S) (r : Int32) (S' : im_S) (hm : f_X7_openAhead x1 S = some (r, S')) : im_E l g ad 3 yX7_openAhead cX7_openAhead 3 (some Jvm.ClassFile.FieldType.boolean) [.ref (ad 3), .int x1] S (some (.int r)) S' := by
  unfold f_X7_openAhead at hm
  refine is_met (own := RX7) (by decide +kernel) rfl (Nat.le_of_ble_eq_true rfl) (fun p e s m below meth c X => ?_)
  refine iv_aload_n (pc := 0) X dX7_openAhead_0 rfl ?_
  refine iv_iconst (pc := 1) X dX7_openAhead_1 ic_4 ?_
  refine iv_iload_n (pc := 2) X dX7_openAhead_2 rfl ?_
  refine iv_aload_n (pc := 3) X dX7_openAhead_3 rfl ?_
  obtain ⟨⟨r2, S1⟩, hc3, hm⟩ := bd_some hm
  refine cV_X7_62_3 (pc := 4) X [] [.int x1, .int 4, .ref (ad 3)] 0 rfl (f_X7_kindHere_e l g ad  S _ _ hc3) (by decide) (by decide) (Nat.le_of_ble_eq_true rfl) rfl dX7_openAhead_4 ?_
  refine iv_i2l (pc := 7) X dX7_openAhead_7 rfl ?_
  obtain ⟨⟨r5, S4⟩, hc6, hm⟩ := bd_some hm
  refine cV_X7_196_3 (pc := 8) X [.int 4, .int x1, .long r2.toInt64] [] 3 rfl (f_X7_addHere_e l g ad 4 x1 r2.toInt64 S1 _ _ hc6) (by decide) (by decide) (Nat.le_of_ble_eq_true rfl) rfl dX7_openAhead_8 ?_
  refine iv_istore_n (pc := 11) X dX7_openAhead_11 (by decide) (lv' := [(2, .int r5), (0, .ref (ad 3)), (1, .int x1)]) rfl ?_
  refine iv_aload_n (pc := 12) X dX7_openAhead_12 rfl ?_
  refine gF_X7_35_3 (pc := 13) X dX7_openAhead_13 ?_
  refine iv_bipush (pc := 16) X dX7_openAhead_16 bc_6 ?_
  refine iv_iload_n (pc := 18) X dX7_openAhead_18 rfl ?_
  refine iv_aload_n (pc := 19) X dX7_openAhead_19 rfl ?_
  refine gF_X7_35_3 (pc := 20) X dX7_openAhead_20 ?_
  obtain ⟨⟨r8, S7⟩, hc9, hm⟩ := bd_some hm
  refine cV_X7_186_34 (pc := 23) X [] [.int r5, .int 6, .ref (ad 34)] 0 rfl (f_X6_topRegion_e l g ad  S4 _ _ hc9) (by decide) (by decide) (Nat.le_of_ble_eq_true rfl) rfl dX7_openAhead_23 ?_
  obtain ⟨⟨r11, S10⟩, hc12, hm⟩ := bd_some hm
  refine cV_X7_118_34 (pc := 26) X [.int 6, .int r5, .int r8] [] 3 rfl (f_X6_push_e l g ad 6 r5 r8 S7 _ _ hc12) (by decide) (by decide) (Nat.le_of_ble_eq_true rfl) rfl dX7_openAhead_26 ?_
  refine iv_aload_n (pc := 29) X dX7_openAhead_29 rfl ?_
  refine iv_iconst (pc := 30) X dX7_openAhead_30 ic_1 ?_
  refine pF_X7_122_3 (pc := 31) X dX7_openAhead_31 ?_
  refine iv_iconst (pc := 34) X dX7_openAhead_34 ic_1 ?_
  cases hm
  exact is_zret (pc := 35) X dX7_openAhead_35 rfl
def f_X7_openChoice (S : im_S) : Option (Int32 × im_S) := (f_X7_addHere 7 0 0 S).bind (fun qS1 => gd (in_b qS1.1 512) ((f_X4_addRegion ((qS1.2.1 17) qS1.1.toNatClampNeg) qS1.2).bind (fun qS4 => gd (in_b qS1.1 512) ((f_X4_addRegion ((qS1.2.1 17) qS1.1.toNatClampNeg) (uI qS4.2 15 qS1.1.toNatClampNeg qS4.1)).bind (fun qS7 => (f_X6_topRegion qS7.2).bind (fun qS10 => (f_X7_open 16 qS1.1 qS10.1 qS10.2).bind (fun qS13 => gd (z_b qS13.1) (some (qS13.1, qS13.2)))))))))
set_option maxHeartbeats 4000000 in
set_option maxRecDepth 100000 in
theorem f_X7_openChoice_e (l : Launch) (g : im_G) (ad : Nat → Nat) (S : im_S) (r : Int32) (S' : im_S) (hm : f_X7_openChoice  S = some (r, S')) : im_E l g ad 3 yX7_openChoice cX7_openChoice 3 (some Jvm.ClassFile.FieldType.boolean) [.ref (ad 3)] S (some (.int r)) S' := by
  unfold f_X7_openChoice at hm
  refine is_met (own := RX7) (by decide +kernel) rfl (Nat.le_of_ble_eq_true rfl) (fun p e s m below meth c X => ?_)
  refine iv_aload_n (pc := 0) X dX7_openChoice_0 rfl ?_
  refine iv_bipush (pc := 1) X dX7_openChoice_1 bc_7 ?_
  refine iv_iconst (pc := 3) X dX7_openChoice_3 ic_0 ?_
  refine iv_lconst (pc := 4) X dX7_openChoice_4 lc_0 ?_
  obtain ⟨⟨r2, S1⟩, hc3, hm⟩ := bd_some hm
  refine cV_X7_196_3 (pc := 5) X [.int 7, .int 0, .long 0] [] 3 rfl (f_X7_addHere_e l g ad 7 0 0 S _ _ hc3) (by decide) (by decide) (Nat.le_of_ble_eq_true rfl) rfl dX7_openChoice_5 ?_
  refine iv_istore_n (pc := 8) X dX7_openChoice_8 (by decide) (lv' := [(1, .int r2), (0, .ref (ad 3))]) rfl ?_
  refine iv_aload_n (pc := 9) X dX7_openChoice_9 rfl ?_
  refine gF_X7_21_3 (pc := 10) X dX7_openChoice_10 ?_
  refine gF_X7_245_6 (pc := 13) X dX7_openChoice_13 ?_
  refine iv_iload_n (pc := 16) X dX7_openChoice_16 rfl ?_
  obtain ⟨hg, hm⟩ := gd_some hm
  refine aL_17 (pc := 17) X dX7_openChoice_17 hg (x := (S1.1 17) r2.toNatClampNeg) rfl ?_
  refine iv_istore_n (pc := 18) X dX7_openChoice_18 (by decide) (lv' := [(2, .int ((S1.1 17) r2.toNatClampNeg)), (1, .int r2), (0, .ref (ad 3))]) rfl ?_
  refine iv_aload_n (pc := 19) X dX7_openChoice_19 rfl ?_
  refine gF_X7_21_3 (pc := 20) X dX7_openChoice_20 ?_
  refine gF_X7_223_6 (pc := 23) X dX7_openChoice_23 ?_
  refine iv_iload_n (pc := 26) X dX7_openChoice_26 rfl ?_
  refine iv_aload_n (pc := 27) X dX7_openChoice_27 rfl ?_
  refine gF_X7_21_3 (pc := 28) X dX7_openChoice_28 ?_
  refine gF_X7_86_6 (pc := 31) X dX7_openChoice_31 ?_
  refine iv_iload_n (pc := 34) X dX7_openChoice_34 rfl ?_
  obtain ⟨⟨r5, S4⟩, hc6, hm⟩ := bd_some hm
  refine cV_X7_220_22 (pc := 35) X [.int ((S1.1 17) r2.toNatClampNeg)] [.int r2, .ref (ad 15)] 1 rfl (f_X4_addRegion_e l g ad ((S1.1 17) r2.toNatClampNeg) S1 _ _ hc6) (by decide) (by decide) (Nat.le_of_ble_eq_true rfl) rfl dX7_openChoice_35 ?_
  obtain ⟨hg, hm⟩ := gd_some hm
  refine aS_15 (pc := 38) X dX7_openChoice_38 hg ?_
  refine iv_aload_n (pc := 39) X dX7_openChoice_39 rfl ?_
  refine gF_X7_21_3 (pc := 40) X dX7_openChoice_40 ?_
  refine gF_X7_86_6 (pc := 43) X dX7_openChoice_43 ?_
  refine iv_iload_n (pc := 46) X dX7_openChoice_46 rfl ?_
  obtain ⟨⟨r8, S7⟩, hc9, hm⟩ := bd_some hm
  refine cV_X7_220_22 (pc := 47) X [.int ((S1.1 17) r2.toNatClampNeg)] [] 1 rfl (f_X4_addRegion_e l g ad ((S1.1 17) r2.toNatClampNeg) (uI S4 15 r2.toNatClampNeg r5) _ _ hc9) (by decide) (by decide) (Nat.le_of_ble_eq_true rfl) rfl dX7_openChoice_47 ?_
  refine iv_pop (pc := 50) X dX7_openChoice_50 rfl ?_
  refine iv_aload_n (pc := 51) X dX7_openChoice_51 rfl ?_
  refine iv_bipush (pc := 52) X dX7_openChoice_52 bc_16 ?_
  refine iv_iload_n (pc := 54) X dX7_openChoice_54 rfl ?_
  refine iv_aload_n (pc := 55) X dX7_openChoice_55 rfl ?_
  refine gF_X7_35_3 (pc := 56) X dX7_openChoice_56 ?_
  obtain ⟨⟨r11, S10⟩, hc12, hm⟩ := bd_some hm
  refine cV_X7_186_34 (pc := 59) X [] [.int r2, .int 16, .ref (ad 3)] 0 rfl (f_X6_topRegion_e l g ad  S7 _ _ hc12) (by decide) (by decide) (Nat.le_of_ble_eq_true rfl) rfl dX7_openChoice_59 ?_
  obtain ⟨⟨r14, S13⟩, hc15, hm⟩ := bd_some hm
  refine cV_X7_212_3 (pc := 62) X [.int 16, .int r2, .int r11] [] 3 rfl (f_X7_open_e l g ad 16 r2 r11 S10 _ _ hc15) (by decide) (by decide) (Nat.le_of_ble_eq_true rfl) rfl dX7_openChoice_62 ?_
  obtain ⟨hg, hm⟩ := gd_some hm
  cases hm
  exact is_zret (pc := 65) X dX7_openChoice_65 (z_b_n hg)
def f_X7_openLoop (S : im_S) : Option (Int32 × im_S) := (f_X7_addHere 9 0 0 S).bind (fun qS1 => (f_X3_addInnerTemplate qS1.1 (uI qS1.2 3 10 qS1.1)).bind (fun qS4 => (f_X4_addRegion qS4.1 qS4.2).bind (fun qS7 => gd (in_b (qS4.2.1 3 10) 512) ((f_X4_addRegion qS4.1 (uI qS7.2 15 ((qS4.2.1 3 10).toNatClampNeg) qS7.1)).bind (fun qS10 => (f_X4_addRegion qS4.1 qS10.2).bind (fun qS13 => some (1, (uI qS13.2 3 7 3))))))))
set_option maxHeartbeats 4000000 in
set_option maxRecDepth 100000 in
theorem f_X7_openLoop_e (l : Launch) (g : im_G) (ad : Nat → Nat) (S : im_S) (r : Int32) (S' : im_S) (hm : f_X7_openLoop  S = some (r, S')) : im_E l g ad 3 yX7_openLoop cX7_openLoop 2 (some Jvm.ClassFile.FieldType.boolean) [.ref (ad 3)] S (some (.int r)) S' := by
  unfold f_X7_openLoop at hm
  refine is_met (own := RX7) (by decide +kernel) rfl (Nat.le_of_ble_eq_true rfl) (fun p e s m below meth c X => ?_)
  refine iv_aload_n (pc := 0) X dX7_openLoop_0 rfl ?_
  refine iv_aload_n (pc := 1) X dX7_openLoop_1 rfl ?_
  refine iv_bipush (pc := 2) X dX7_openLoop_2 bc_9 ?_
  refine iv_iconst (pc := 4) X dX7_openLoop_4 ic_0 ?_
  refine iv_lconst (pc := 5) X dX7_openLoop_5 lc_0 ?_
  obtain ⟨⟨r2, S1⟩, hc3, hm⟩ := bd_some hm
  refine cV_X7_196_3 (pc := 6) X [.int 9, .int 0, .long 0] [.ref (ad 3)] 3 rfl (f_X7_addHere_e l g ad 9 0 0 S _ _ hc3) (by decide) (by decide) (Nat.le_of_ble_eq_true rfl) rfl dX7_openLoop_6 ?_
  refine pF_X7_246_3 (pc := 9) X dX7_openLoop_9 ?_
  refine iv_aload_n (pc := 12) X dX7_openLoop_12 rfl ?_
  refine gF_X7_21_3 (pc := 13) X dX7_openLoop_13 ?_
  refine iv_aload_n (pc := 16) X dX7_openLoop_16 rfl ?_
  refine gF_X7_246_3 (pc := 17) X dX7_openLoop_17 (x := r2) rfl ?_
  obtain ⟨⟨r5, S4⟩, hc6, hm⟩ := bd_some hm
  refine cV_X7_216_6 (pc := 20) X [.int r2] [] 1 rfl (f_X3_addInnerTemplate_e l g ad r2 (uI S1 3 10 r2) _ _ hc6) (by decide) (by decide) (Nat.le_of_ble_eq_true rfl) rfl dX7_openLoop_20 ?_
  refine iv_istore_n (pc := 23) X dX7_openLoop_23 (by decide) (lv' := [(1, .int r5), (0, .ref (ad 3))]) rfl ?_
  refine iv_aload_n (pc := 24) X dX7_openLoop_24 rfl ?_
  refine gF_X7_21_3 (pc := 25) X dX7_openLoop_25 ?_
  refine gF_X7_223_6 (pc := 28) X dX7_openLoop_28 ?_
  refine iv_aload_n (pc := 31) X dX7_openLoop_31 rfl ?_
  refine gF_X7_246_3 (pc := 32) X dX7_openLoop_32 (x := S4.1 3 10) rfl ?_
  refine iv_aload_n (pc := 35) X dX7_openLoop_35 rfl ?_
  refine gF_X7_21_3 (pc := 36) X dX7_openLoop_36 ?_
  refine gF_X7_86_6 (pc := 39) X dX7_openLoop_39 ?_
  refine iv_iload_n (pc := 42) X dX7_openLoop_42 rfl ?_
  obtain ⟨⟨r8, S7⟩, hc9, hm⟩ := bd_some hm
  refine cV_X7_220_22 (pc := 43) X [.int r5] [.int (S4.1 3 10), .ref (ad 15)] 1 rfl (f_X4_addRegion_e l g ad r5 S4 _ _ hc9) (by decide) (by decide) (Nat.le_of_ble_eq_true rfl) rfl dX7_openLoop_43 ?_
  obtain ⟨hg, hm⟩ := gd_some hm
  refine aS_15 (pc := 46) X dX7_openLoop_46 hg ?_
  refine iv_aload_n (pc := 47) X dX7_openLoop_47 rfl ?_
  refine gF_X7_21_3 (pc := 48) X dX7_openLoop_48 ?_
  refine gF_X7_86_6 (pc := 51) X dX7_openLoop_51 ?_
  refine iv_iload_n (pc := 54) X dX7_openLoop_54 rfl ?_
  obtain ⟨⟨r11, S10⟩, hc12, hm⟩ := bd_some hm
  refine cV_X7_220_22 (pc := 55) X [.int r5] [] 1 rfl (f_X4_addRegion_e l g ad r5 (uI S7 15 ((S4.1 3 10).toNatClampNeg) r8) _ _ hc12) (by decide) (by decide) (Nat.le_of_ble_eq_true rfl) rfl dX7_openLoop_55 ?_
  refine iv_pop (pc := 58) X dX7_openLoop_58 rfl ?_
  refine iv_aload_n (pc := 59) X dX7_openLoop_59 rfl ?_
  refine gF_X7_21_3 (pc := 60) X dX7_openLoop_60 ?_
  refine gF_X7_86_6 (pc := 63) X dX7_openLoop_63 ?_
  refine iv_iload_n (pc := 66) X dX7_openLoop_66 rfl ?_
  obtain ⟨⟨r14, S13⟩, hc15, hm⟩ := bd_some hm
  refine cV_X7_220_22 (pc := 67) X [.int r5] [] 1 rfl (f_X4_addRegion_e l g ad r5 S10 _ _ hc15) (by decide) (by decide) (Nat.le_of_ble_eq_true rfl) rfl dX7_openLoop_67 ?_
  refine iv_pop (pc := 70) X dX7_openLoop_70 rfl ?_
  refine iv_aload_n (pc := 71) X dX7_openLoop_71 rfl ?_
  refine iv_iconst (pc := 72) X dX7_openLoop_72 ic_3 ?_
  refine pF_X7_122_3 (pc := 73) X dX7_openLoop_73 ?_
  refine iv_iconst (pc := 76) X dX7_openLoop_76 ic_1 ?_
  cases hm
  exact is_zret (pc := 77) X dX7_openLoop_77 rfl
def f_X7_openNextValue (fu : Nat) (S : im_S) : Option (Int32 × im_S) := (f_X7_kindHere S).bind (fun qS1 => if (qS1.1 : Int32) = 1 then (gd (in_b (qS1.2.1 3 6) 501) (gd (in_b (qS1.2.1 3 10) 512) ((f_X3_findInChain fu ((qS1.2.1 12) ((qS1.2.1 3 10).toNatClampNeg)) ((qS1.2.2.1 33) ((qS1.2.1 3 6).toNatClampNeg)) qS1.2).bind (fun qS5 => if (qS5.1 : Int32) = (-1) then ((f_X7_placeHere qS5.2).bind (fun qS9 => (f_X1_note 2 qS9.1 qS9.2).bind (fun qS12 => (f_X7_typeOf fu ((qS1.2.2.1 33) ((qS1.2.1 3 6).toNatClampNeg)) qS12.2).bind (fun qS15 => (f_X7_placeHere qS15.2).bind (fun qS18 => (f_X6_topRegion qS18.2).bind (fun qS21 => (f_X3_add 3 qS15.1 qS18.1 ((qS1.2.2.1 33) ((qS1.2.1 3 6).toNatClampNeg)) qS21.1 qS21.2).bind (fun qS24 => gd (in_b qS24.1 512) (gd (in_b qS24.1 512) ((f_X7_take 61 (uI (uI (uI qS24.2 10 qS24.1.toNatClampNeg (qS24.2.1 3 10)) 13 qS24.1.toNatClampNeg (qS24.2.1 3 10)) 3 6 ((qS24.2.1 3 6) + 1))).bind (fun qS27 => if (qS27.1 : Int32) = 0 then (some (0, qS27.2)) else (gd (in_b (qS27.2.1 3 10) 512) ((f_X7_open 21 qS24.1 (((qS27.2.1 15) ((qS27.2.1 3 10).toNatClampNeg)) + 1) qS27.2).bind (fun qS31 => if (qS31.1 : Int32) = 0 then (some (0, qS31.2)) else (some (1, qS31.2))))))))))))))) else (gd (in_b qS5.1 512) (if ((qS5.2.1 13) qS5.1.toNatClampNeg : Int32) = (-1) then (gd (in_b qS5.1 512) ((f_X7_take 61 (uI (uI qS5.2 13 qS5.1.toNatClampNeg (qS5.2.1 3 10)) 3 6 ((qS5.2.1 3 6) + 1))).bind (fun qS36 => if (qS36.1 : Int32) = 0 then (some (0, qS36.2)) else (gd (in_b (qS36.2.1 3 10) 512) ((f_X7_open 21 qS5.1 (((qS36.2.1 15) ((qS36.2.1 3 10).toNatClampNeg)) + 1) qS36.2).bind (fun qS40 => if (qS40.1 : Int32) = 0 then (some (0, qS40.2)) else (some (1, qS40.2)))))))) else ((f_X7_placeHere qS5.2).bind (fun qS44 => (f_X1_note 2 qS44.1 qS44.2).bind (fun qS47 => (f_X7_typeOf fu ((qS1.2.2.1 33) ((qS1.2.1 3 6).toNatClampNeg)) qS47.2).bind (fun qS50 => (f_X7_placeHere qS50.2).bind (fun qS53 => (f_X6_topRegion qS53.2).bind (fun qS56 => (f_X3_add 3 qS50.1 qS53.1 ((qS1.2.2.1 33) ((qS1.2.1 3 6).toNatClampNeg)) qS56.1 qS56.2).bind (fun qS59 => gd (in_b qS59.1 512) (gd (in_b qS59.1 512) ((f_X7_take 61 (uI (uI (uI qS59.2 10 qS59.1.toNatClampNeg (qS59.2.1 3 10)) 13 qS59.1.toNatClampNeg (qS59.2.1 3 10)) 3 6 ((qS59.2.1 3 6) + 1))).bind (fun qS62 => if (qS62.1 : Int32) = 0 then (some (0, qS62.2)) else (gd (in_b (qS62.2.1 3 10) 512) ((f_X7_open 21 qS59.1 (((qS62.2.1 15) ((qS62.2.1 3 10).toNatClampNeg)) + 1) qS62.2).bind (fun qS66 => if (qS66.1 : Int32) = 0 then (some (0, qS66.2)) else (some (1, qS66.2))))))))))))))))))))) else ((f_X7_refuse qS1.2).bind (fun qS70 => gd (z_b qS70.1) (some (qS70.1, qS70.2)))))
set_option maxHeartbeats 4000000 in
set_option maxRecDepth 100000 in
theorem f_X7_openNextValue_e (l : Launch) (g : im_G) (ad : Nat → Nat) (fu : Nat) (S : im_S) (r : Int32) (S' : im_S) (hm : f_X7_openNextValue fu  S = some (r, S')) : im_E l g ad 2 yX7_openNextValue cX7_openNextValue 4 (some Jvm.ClassFile.FieldType.boolean) [.ref (ad 3)] S (some (.int r)) S' := by
  unfold f_X7_openNextValue at hm
  refine is_met (own := RX7) (by decide +kernel) rfl (Nat.le_of_ble_eq_true rfl) (fun p e s m below meth c X => ?_)
  refine iv_aload_n (pc := 0) X dX7_openNextValue_0 rfl ?_
  obtain ⟨⟨r2, S1⟩, hc3, hm⟩ := bd_some hm
  refine cV_X7_62_3 (pc := 1) X [] [] 0 rfl (f_X7_kindHere_e l g ad  S _ _ hc3) (by decide) (by decide) (Nat.le_of_ble_eq_true rfl) rfl dX7_openNextValue_1 ?_
  refine iv_iconst (pc := 4) X dX7_openNextValue_4 ic_1 ?_
  refine iv_icmp_eq (pc := 5) X dX7_openNextValue_5 (tgt := 13) rfl (fun hb4 => ?_) (fun hb4 => ?_)
  · rw [if_pos hb4] at hm
    refine iv_aload_n (pc := 13) X dX7_openNextValue_13 rfl ?_
    refine gF_X7_28_3 (pc := 14) X dX7_openNextValue_14 ?_
    refine gF_X7_82_30 (pc := 17) X dX7_openNextValue_17 ?_
    refine iv_aload_n (pc := 20) X dX7_openNextValue_20 rfl ?_
    refine gF_X7_51_3 (pc := 21) X dX7_openNextValue_21 (x := S1.1 3 6) rfl ?_
    obtain ⟨hg, hm⟩ := gd_some hm
    refine aL_33 (pc := 24) X dX7_openNextValue_24 hg (x := (S1.2.1 33) ((S1.1 3 6).toNatClampNeg)) rfl ?_
    refine iv_lstore_n (pc := 25) X dX7_openNextValue_25 (by decide) (lv' := [(1, .long ((S1.2.1 33) ((S1.1 3 6).toNatClampNeg))), (0, .ref (ad 3))]) rfl ?_
    refine iv_aload_n (pc := 26) X dX7_openNextValue_26 rfl ?_
    refine gF_X7_21_3 (pc := 27) X dX7_openNextValue_27 ?_
    refine iv_aload_n (pc := 30) X dX7_openNextValue_30 rfl ?_
    refine gF_X7_21_3 (pc := 31) X dX7_openNextValue_31 ?_
    refine gF_X7_209_6 (pc := 34) X dX7_openNextValue_34 ?_
    refine iv_aload_n (pc := 37) X dX7_openNextValue_37 rfl ?_
    refine gF_X7_246_3 (pc := 38) X dX7_openNextValue_38 (x := S1.1 3 10) rfl ?_
    obtain ⟨hg, hm⟩ := gd_some hm
    refine aL_12 (pc := 41) X dX7_openNextValue_41 hg (x := (S1.1 12) ((S1.1 3 10).toNatClampNeg)) rfl ?_
    refine iv_lload_n (pc := 42) X dX7_openNextValue_42 rfl ?_
    obtain ⟨⟨r6, S5⟩, hc7, hm⟩ := bd_some hm
    refine cV_X7_252_6 (pc := 43) X [.int ((S1.1 12) ((S1.1 3 10).toNatClampNeg)), .long ((S1.2.1 33) ((S1.1 3 6).toNatClampNeg))] [] 2 rfl (f_X3_findInChain_e l g ad fu ((S1.1 12) ((S1.1 3 10).toNatClampNeg)) ((S1.2.1 33) ((S1.1 3 6).toNatClampNeg)) S1 _ _ hc7) (by decide) (by decide) (Nat.le_of_ble_eq_true rfl) rfl dX7_openNextValue_43 ?_
    refine iv_istore_n (pc := 46) X dX7_openNextValue_46 (by decide) (lv' := [(3, .int r6), (1, .long ((S1.2.1 33) ((S1.1 3 6).toNatClampNeg))), (0, .ref (ad 3))]) rfl ?_
    refine iv_iload_n (pc := 47) X dX7_openNextValue_47 rfl ?_
    refine iv_iconst (pc := 48) X dX7_openNextValue_48 ic_m1 ?_
    refine iv_icmp_eq (pc := 49) X dX7_openNextValue_49 (tgt := 65) rfl (fun hb8 => ?_) (fun hb8 => ?_)
    · rw [if_pos hb8] at hm
      refine iv_aload_n (pc := 65) X dX7_openNextValue_65 rfl ?_
      refine gF_X7_12_3 (pc := 66) X dX7_openNextValue_66 ?_
      refine iv_iconst (pc := 69) X dX7_openNextValue_69 ic_2 ?_
      refine iv_aload_n (pc := 70) X dX7_openNextValue_70 rfl ?_
      obtain ⟨⟨r10, S9⟩, hc11, hm⟩ := bd_some hm
      refine cV_X7_96_3 (pc := 71) X [] [.int 2, .ref (ad 5)] 0 rfl (f_X7_placeHere_e l g ad  S5 _ _ hc11) (by decide) (by decide) (Nat.le_of_ble_eq_true rfl) rfl dX7_openNextValue_71 ?_
      obtain ⟨⟨r13, S12⟩, hc14, hm⟩ := bd_some hm
      refine cV_X7_99_5 (pc := 74) X [.int 2, .int r10] [] 2 rfl (f_X1_note_e l g ad 2 r10 S9 _ _ hc14) (by decide) (by decide) (Nat.le_of_ble_eq_true rfl) rfl dX7_openNextValue_74 ?_
      refine iv_aload_n (pc := 77) X dX7_openNextValue_77 rfl ?_
      refine gF_X7_21_3 (pc := 78) X dX7_openNextValue_78 ?_
      refine iv_iconst (pc := 81) X dX7_openNextValue_81 ic_3 ?_
      refine iv_lload_n (pc := 82) X dX7_openNextValue_82 rfl ?_
      obtain ⟨⟨r16, S15⟩, hc17, hm⟩ := bd_some hm
      refine cS_X7_206 (pc := 83) X [.long ((S1.2.1 33) ((S1.1 3 6).toNatClampNeg))] [.int 3, .ref (ad 6)] 1 rfl (f_X7_typeOf_e l g ad fu ((S1.2.1 33) ((S1.1 3 6).toNatClampNeg)) S12 _ _ hc17) (by decide) (by decide) (Nat.le_of_ble_eq_true rfl) rfl dX7_openNextValue_83 ?_
      refine iv_aload_n (pc := 86) X dX7_openNextValue_86 rfl ?_
      obtain ⟨⟨r19, S18⟩, hc20, hm⟩ := bd_some hm
      refine cV_X7_96_3 (pc := 87) X [] [.int r16, .int 3, .ref (ad 6)] 0 rfl (f_X7_placeHere_e l g ad  S15 _ _ hc20) (by decide) (by decide) (Nat.le_of_ble_eq_true rfl) rfl dX7_openNextValue_87 ?_
      refine iv_lload_n (pc := 90) X dX7_openNextValue_90 rfl ?_
      refine iv_aload_n (pc := 91) X dX7_openNextValue_91 rfl ?_
      refine gF_X7_35_3 (pc := 92) X dX7_openNextValue_92 ?_
      obtain ⟨⟨r22, S21⟩, hc23, hm⟩ := bd_some hm
      refine cV_X7_186_34 (pc := 95) X [] [.long ((S1.2.1 33) ((S1.1 3 6).toNatClampNeg)), .int r19, .int r16, .int 3, .ref (ad 6)] 0 rfl (f_X6_topRegion_e l g ad  S18 _ _ hc23) (by decide) (by decide) (Nat.le_of_ble_eq_true rfl) rfl dX7_openNextValue_95 ?_
      obtain ⟨⟨r25, S24⟩, hc26, hm⟩ := bd_some hm
      refine cV_X7_189_6 (pc := 98) X [.int 3, .int r16, .int r19, .long ((S1.2.1 33) ((S1.1 3 6).toNatClampNeg)), .int r22] [] 5 rfl (f_X3_add_e l g ad 3 r16 r19 ((S1.2.1 33) ((S1.1 3 6).toNatClampNeg)) r22 S21 _ _ hc26) (by decide) (by decide) (Nat.le_of_ble_eq_true rfl) rfl dX7_openNextValue_98 ?_
      refine iv_istore_n (pc := 101) X dX7_openNextValue_101 (by decide) (lv' := [(3, .int r25), (1, .long ((S1.2.1 33) ((S1.1 3 6).toNatClampNeg))), (0, .ref (ad 3))]) rfl ?_
      refine iv_aload_n (pc := 102) X dX7_openNextValue_102 rfl ?_
      refine gF_X7_21_3 (pc := 103) X dX7_openNextValue_103 ?_
      refine gF_X7_236_6 (pc := 106) X dX7_openNextValue_106 ?_
      refine iv_iload_n (pc := 109) X dX7_openNextValue_109 rfl ?_
      refine iv_aload_n (pc := 110) X dX7_openNextValue_110 rfl ?_
      refine gF_X7_246_3 (pc := 111) X dX7_openNextValue_111 (x := S24.1 3 10) rfl ?_
      obtain ⟨hg, hm⟩ := gd_some hm
      refine aS_10 (pc := 114) X dX7_openNextValue_114 hg ?_
      refine iv_aload_n (pc := 115) X dX7_openNextValue_115 rfl ?_
      refine gF_X7_21_3 (pc := 116) X dX7_openNextValue_116 ?_
      refine gF_X7_229_6 (pc := 119) X dX7_openNextValue_119 ?_
      refine iv_iload_n (pc := 122) X dX7_openNextValue_122 rfl ?_
      refine iv_aload_n (pc := 123) X dX7_openNextValue_123 rfl ?_
      refine gF_X7_246_3 (pc := 124) X dX7_openNextValue_124 (x := S24.1 3 10) rfl ?_
      obtain ⟨hg, hm⟩ := gd_some hm
      refine aS_13 (pc := 127) X dX7_openNextValue_127 hg ?_
      refine iv_aload_n (pc := 128) X dX7_openNextValue_128 rfl ?_
      refine iv_dup (pc := 129) X dX7_openNextValue_129 rfl ?_
      refine gF_X7_51_3 (pc := 130) X dX7_openNextValue_130 (x := S24.1 3 6) rfl ?_
      refine iv_iconst (pc := 133) X dX7_openNextValue_133 ic_1 ?_
      refine iv_iadd (pc := 134) X dX7_openNextValue_134 ?_
      refine pF_X7_51_3 (pc := 135) X dX7_openNextValue_135 ?_
      refine iv_aload_n (pc := 138) X dX7_openNextValue_138 rfl ?_
      refine iv_bipush (pc := 139) X dX7_openNextValue_139 bc_61 ?_
      obtain ⟨⟨r28, S27⟩, hc29, hm⟩ := bd_some hm
      refine cV_X7_125_3 (pc := 141) X [.int 61] [] 1 rfl (f_X7_take_e l g ad 61 (uI (uI (uI S24 10 r25.toNatClampNeg (S24.1 3 10)) 13 r25.toNatClampNeg (S24.1 3 10)) 3 6 ((S24.1 3 6) + 1)) _ _ hc29) (by decide) (by decide) (Nat.le_of_ble_eq_true rfl) rfl dX7_openNextValue_141 ?_
      refine iv_if_eq (pc := 144) X dX7_openNextValue_144 (tgt := 175) rfl (fun hb30 => ?_) (fun hb30 => ?_)
      · rw [if_pos hb30] at hm
        refine iv_iconst (pc := 175) X dX7_openNextValue_175 ic_0 ?_
        cases hm
        exact is_zret (pc := 176) X dX7_openNextValue_176 rfl
      · rw [if_neg hb30] at hm
        refine iv_aload_n (pc := 147) X dX7_openNextValue_147 rfl ?_
        refine iv_bipush (pc := 148) X dX7_openNextValue_148 bc_21 ?_
        refine iv_iload_n (pc := 150) X dX7_openNextValue_150 rfl ?_
        refine iv_aload_n (pc := 151) X dX7_openNextValue_151 rfl ?_
        refine gF_X7_21_3 (pc := 152) X dX7_openNextValue_152 ?_
        refine gF_X7_223_6 (pc := 155) X dX7_openNextValue_155 ?_
        refine iv_aload_n (pc := 158) X dX7_openNextValue_158 rfl ?_
        refine gF_X7_246_3 (pc := 159) X dX7_openNextValue_159 (x := S27.1 3 10) rfl ?_
        obtain ⟨hg, hm⟩ := gd_some hm
        refine aL_15 (pc := 162) X dX7_openNextValue_162 hg (x := (S27.1 15) ((S27.1 3 10).toNatClampNeg)) rfl ?_
        refine iv_iconst (pc := 163) X dX7_openNextValue_163 ic_1 ?_
        refine iv_iadd (pc := 164) X dX7_openNextValue_164 ?_
        obtain ⟨⟨r32, S31⟩, hc33, hm⟩ := bd_some hm
        refine cV_X7_212_3 (pc := 165) X [.int 21, .int r25, .int (((S27.1 15) ((S27.1 3 10).toNatClampNeg)) + 1)] [] 3 rfl (f_X7_open_e l g ad 21 r25 (((S27.1 15) ((S27.1 3 10).toNatClampNeg)) + 1) S27 _ _ hc33) (by decide) (by decide) (Nat.le_of_ble_eq_true rfl) rfl dX7_openNextValue_165 ?_
        refine iv_if_eq (pc := 168) X dX7_openNextValue_168 (tgt := 175) rfl (fun hb34 => ?_) (fun hb34 => ?_)
        · rw [if_pos hb34] at hm
          refine iv_iconst (pc := 175) X dX7_openNextValue_175 ic_0 ?_
          cases hm
          exact is_zret (pc := 176) X dX7_openNextValue_176 rfl
        · rw [if_neg hb34] at hm
          refine iv_iconst (pc := 171) X dX7_openNextValue_171 ic_1 ?_
          refine iv_goto (pc := 172) X dX7_openNextValue_172 (tgt := 176) rfl ?_
          cases hm
          exact is_zret (pc := 176) X dX7_openNextValue_176 rfl
    · rw [if_neg hb8] at hm
      refine iv_aload_n (pc := 52) X dX7_openNextValue_52 rfl ?_
      refine gF_X7_21_3 (pc := 53) X dX7_openNextValue_53 ?_
      refine gF_X7_229_6 (pc := 56) X dX7_openNextValue_56 ?_
      refine iv_iload_n (pc := 59) X dX7_openNextValue_59 rfl ?_
      obtain ⟨hg, hm⟩ := gd_some hm
      refine aL_13 (pc := 60) X dX7_openNextValue_60 hg (x := (S5.1 13) r6.toNatClampNeg) rfl ?_
      refine iv_iconst (pc := 61) X dX7_openNextValue_61 ic_m1 ?_
      refine iv_icmp_eq (pc := 62) X dX7_openNextValue_62 (tgt := 115) rfl (fun hb35 => ?_) (fun hb35 => ?_)
      · rw [if_pos hb35] at hm
        refine iv_aload_n (pc := 115) X dX7_openNextValue_115 rfl ?_
        refine gF_X7_21_3 (pc := 116) X dX7_openNextValue_116 ?_
        refine gF_X7_229_6 (pc := 119) X dX7_openNextValue_119 ?_
        refine iv_iload_n (pc := 122) X dX7_openNextValue_122 rfl ?_
        refine iv_aload_n (pc := 123) X dX7_openNextValue_123 rfl ?_
        refine gF_X7_246_3 (pc := 124) X dX7_openNextValue_124 (x := S5.1 3 10) rfl ?_
        obtain ⟨hg, hm⟩ := gd_some hm
        refine aS_13 (pc := 127) X dX7_openNextValue_127 hg ?_
        refine iv_aload_n (pc := 128) X dX7_openNextValue_128 rfl ?_
        refine iv_dup (pc := 129) X dX7_openNextValue_129 rfl ?_
        refine gF_X7_51_3 (pc := 130) X dX7_openNextValue_130 (x := S5.1 3 6) rfl ?_
        refine iv_iconst (pc := 133) X dX7_openNextValue_133 ic_1 ?_
        refine iv_iadd (pc := 134) X dX7_openNextValue_134 ?_
        refine pF_X7_51_3 (pc := 135) X dX7_openNextValue_135 ?_
        refine iv_aload_n (pc := 138) X dX7_openNextValue_138 rfl ?_
        refine iv_bipush (pc := 139) X dX7_openNextValue_139 bc_61 ?_
        obtain ⟨⟨r37, S36⟩, hc38, hm⟩ := bd_some hm
        refine cV_X7_125_3 (pc := 141) X [.int 61] [] 1 rfl (f_X7_take_e l g ad 61 (uI (uI S5 13 r6.toNatClampNeg (S5.1 3 10)) 3 6 ((S5.1 3 6) + 1)) _ _ hc38) (by decide) (by decide) (Nat.le_of_ble_eq_true rfl) rfl dX7_openNextValue_141 ?_
        refine iv_if_eq (pc := 144) X dX7_openNextValue_144 (tgt := 175) rfl (fun hb39 => ?_) (fun hb39 => ?_)
        · rw [if_pos hb39] at hm
          refine iv_iconst (pc := 175) X dX7_openNextValue_175 ic_0 ?_
          cases hm
          exact is_zret (pc := 176) X dX7_openNextValue_176 rfl
        · rw [if_neg hb39] at hm
          refine iv_aload_n (pc := 147) X dX7_openNextValue_147 rfl ?_
          refine iv_bipush (pc := 148) X dX7_openNextValue_148 bc_21 ?_
          refine iv_iload_n (pc := 150) X dX7_openNextValue_150 rfl ?_
          refine iv_aload_n (pc := 151) X dX7_openNextValue_151 rfl ?_
          refine gF_X7_21_3 (pc := 152) X dX7_openNextValue_152 ?_
          refine gF_X7_223_6 (pc := 155) X dX7_openNextValue_155 ?_
          refine iv_aload_n (pc := 158) X dX7_openNextValue_158 rfl ?_
          refine gF_X7_246_3 (pc := 159) X dX7_openNextValue_159 (x := S36.1 3 10) rfl ?_
          obtain ⟨hg, hm⟩ := gd_some hm
          refine aL_15 (pc := 162) X dX7_openNextValue_162 hg (x := (S36.1 15) ((S36.1 3 10).toNatClampNeg)) rfl ?_
          refine iv_iconst (pc := 163) X dX7_openNextValue_163 ic_1 ?_
          refine iv_iadd (pc := 164) X dX7_openNextValue_164 ?_
          obtain ⟨⟨r41, S40⟩, hc42, hm⟩ := bd_some hm
          refine cV_X7_212_3 (pc := 165) X [.int 21, .int r6, .int (((S36.1 15) ((S36.1 3 10).toNatClampNeg)) + 1)] [] 3 rfl (f_X7_open_e l g ad 21 r6 (((S36.1 15) ((S36.1 3 10).toNatClampNeg)) + 1) S36 _ _ hc42) (by decide) (by decide) (Nat.le_of_ble_eq_true rfl) rfl dX7_openNextValue_165 ?_
          refine iv_if_eq (pc := 168) X dX7_openNextValue_168 (tgt := 175) rfl (fun hb43 => ?_) (fun hb43 => ?_)
          · rw [if_pos hb43] at hm
            refine iv_iconst (pc := 175) X dX7_openNextValue_175 ic_0 ?_
            cases hm
            exact is_zret (pc := 176) X dX7_openNextValue_176 rfl
          · rw [if_neg hb43] at hm
            refine iv_iconst (pc := 171) X dX7_openNextValue_171 ic_1 ?_
            refine iv_goto (pc := 172) X dX7_openNextValue_172 (tgt := 176) rfl ?_
            cases hm
            exact is_zret (pc := 176) X dX7_openNextValue_176 rfl
      · rw [if_neg hb35] at hm
        refine iv_aload_n (pc := 65) X dX7_openNextValue_65 rfl ?_
        refine gF_X7_12_3 (pc := 66) X dX7_openNextValue_66 ?_
        refine iv_iconst (pc := 69) X dX7_openNextValue_69 ic_2 ?_
        refine iv_aload_n (pc := 70) X dX7_openNextValue_70 rfl ?_
        obtain ⟨⟨r45, S44⟩, hc46, hm⟩ := bd_some hm
        refine cV_X7_96_3 (pc := 71) X [] [.int 2, .ref (ad 5)] 0 rfl (f_X7_placeHere_e l g ad  S5 _ _ hc46) (by decide) (by decide) (Nat.le_of_ble_eq_true rfl) rfl dX7_openNextValue_71 ?_
        obtain ⟨⟨r48, S47⟩, hc49, hm⟩ := bd_some hm
        refine cV_X7_99_5 (pc := 74) X [.int 2, .int r45] [] 2 rfl (f_X1_note_e l g ad 2 r45 S44 _ _ hc49) (by decide) (by decide) (Nat.le_of_ble_eq_true rfl) rfl dX7_openNextValue_74 ?_
        refine iv_aload_n (pc := 77) X dX7_openNextValue_77 rfl ?_
        refine gF_X7_21_3 (pc := 78) X dX7_openNextValue_78 ?_
        refine iv_iconst (pc := 81) X dX7_openNextValue_81 ic_3 ?_
        refine iv_lload_n (pc := 82) X dX7_openNextValue_82 rfl ?_
        obtain ⟨⟨r51, S50⟩, hc52, hm⟩ := bd_some hm
        refine cS_X7_206 (pc := 83) X [.long ((S1.2.1 33) ((S1.1 3 6).toNatClampNeg))] [.int 3, .ref (ad 6)] 1 rfl (f_X7_typeOf_e l g ad fu ((S1.2.1 33) ((S1.1 3 6).toNatClampNeg)) S47 _ _ hc52) (by decide) (by decide) (Nat.le_of_ble_eq_true rfl) rfl dX7_openNextValue_83 ?_
        refine iv_aload_n (pc := 86) X dX7_openNextValue_86 rfl ?_
        obtain ⟨⟨r54, S53⟩, hc55, hm⟩ := bd_some hm
        refine cV_X7_96_3 (pc := 87) X [] [.int r51, .int 3, .ref (ad 6)] 0 rfl (f_X7_placeHere_e l g ad  S50 _ _ hc55) (by decide) (by decide) (Nat.le_of_ble_eq_true rfl) rfl dX7_openNextValue_87 ?_
        refine iv_lload_n (pc := 90) X dX7_openNextValue_90 rfl ?_
        refine iv_aload_n (pc := 91) X dX7_openNextValue_91 rfl ?_
        refine gF_X7_35_3 (pc := 92) X dX7_openNextValue_92 ?_
        obtain ⟨⟨r57, S56⟩, hc58, hm⟩ := bd_some hm
        refine cV_X7_186_34 (pc := 95) X [] [.long ((S1.2.1 33) ((S1.1 3 6).toNatClampNeg)), .int r54, .int r51, .int 3, .ref (ad 6)] 0 rfl (f_X6_topRegion_e l g ad  S53 _ _ hc58) (by decide) (by decide) (Nat.le_of_ble_eq_true rfl) rfl dX7_openNextValue_95 ?_
        obtain ⟨⟨r60, S59⟩, hc61, hm⟩ := bd_some hm
        refine cV_X7_189_6 (pc := 98) X [.int 3, .int r51, .int r54, .long ((S1.2.1 33) ((S1.1 3 6).toNatClampNeg)), .int r57] [] 5 rfl (f_X3_add_e l g ad 3 r51 r54 ((S1.2.1 33) ((S1.1 3 6).toNatClampNeg)) r57 S56 _ _ hc61) (by decide) (by decide) (Nat.le_of_ble_eq_true rfl) rfl dX7_openNextValue_98 ?_
        refine iv_istore_n (pc := 101) X dX7_openNextValue_101 (by decide) (lv' := [(3, .int r60), (1, .long ((S1.2.1 33) ((S1.1 3 6).toNatClampNeg))), (0, .ref (ad 3))]) rfl ?_
        refine iv_aload_n (pc := 102) X dX7_openNextValue_102 rfl ?_
        refine gF_X7_21_3 (pc := 103) X dX7_openNextValue_103 ?_
        refine gF_X7_236_6 (pc := 106) X dX7_openNextValue_106 ?_
        refine iv_iload_n (pc := 109) X dX7_openNextValue_109 rfl ?_
        refine iv_aload_n (pc := 110) X dX7_openNextValue_110 rfl ?_
        refine gF_X7_246_3 (pc := 111) X dX7_openNextValue_111 (x := S59.1 3 10) rfl ?_
        obtain ⟨hg, hm⟩ := gd_some hm
        refine aS_10 (pc := 114) X dX7_openNextValue_114 hg ?_
        refine iv_aload_n (pc := 115) X dX7_openNextValue_115 rfl ?_
        refine gF_X7_21_3 (pc := 116) X dX7_openNextValue_116 ?_
        refine gF_X7_229_6 (pc := 119) X dX7_openNextValue_119 ?_
        refine iv_iload_n (pc := 122) X dX7_openNextValue_122 rfl ?_
        refine iv_aload_n (pc := 123) X dX7_openNextValue_123 rfl ?_
        refine gF_X7_246_3 (pc := 124) X dX7_openNextValue_124 (x := S59.1 3 10) rfl ?_
        obtain ⟨hg, hm⟩ := gd_some hm
        refine aS_13 (pc := 127) X dX7_openNextValue_127 hg ?_
        refine iv_aload_n (pc := 128) X dX7_openNextValue_128 rfl ?_
        refine iv_dup (pc := 129) X dX7_openNextValue_129 rfl ?_
        refine gF_X7_51_3 (pc := 130) X dX7_openNextValue_130 (x := S59.1 3 6) rfl ?_
        refine iv_iconst (pc := 133) X dX7_openNextValue_133 ic_1 ?_
        refine iv_iadd (pc := 134) X dX7_openNextValue_134 ?_
        refine pF_X7_51_3 (pc := 135) X dX7_openNextValue_135 ?_
        refine iv_aload_n (pc := 138) X dX7_openNextValue_138 rfl ?_
        refine iv_bipush (pc := 139) X dX7_openNextValue_139 bc_61 ?_
        obtain ⟨⟨r63, S62⟩, hc64, hm⟩ := bd_some hm
        refine cV_X7_125_3 (pc := 141) X [.int 61] [] 1 rfl (f_X7_take_e l g ad 61 (uI (uI (uI S59 10 r60.toNatClampNeg (S59.1 3 10)) 13 r60.toNatClampNeg (S59.1 3 10)) 3 6 ((S59.1 3 6) + 1)) _ _ hc64) (by decide) (by decide) (Nat.le_of_ble_eq_true rfl) rfl dX7_openNextValue_141 ?_
        refine iv_if_eq (pc := 144) X dX7_openNextValue_144 (tgt := 175) rfl (fun hb65 => ?_) (fun hb65 => ?_)
        · rw [if_pos hb65] at hm
          refine iv_iconst (pc := 175) X dX7_openNextValue_175 ic_0 ?_
          cases hm
          exact is_zret (pc := 176) X dX7_openNextValue_176 rfl
        · rw [if_neg hb65] at hm
          refine iv_aload_n (pc := 147) X dX7_openNextValue_147 rfl ?_
          refine iv_bipush (pc := 148) X dX7_openNextValue_148 bc_21 ?_
          refine iv_iload_n (pc := 150) X dX7_openNextValue_150 rfl ?_
          refine iv_aload_n (pc := 151) X dX7_openNextValue_151 rfl ?_
          refine gF_X7_21_3 (pc := 152) X dX7_openNextValue_152 ?_
          refine gF_X7_223_6 (pc := 155) X dX7_openNextValue_155 ?_
          refine iv_aload_n (pc := 158) X dX7_openNextValue_158 rfl ?_
          refine gF_X7_246_3 (pc := 159) X dX7_openNextValue_159 (x := S62.1 3 10) rfl ?_
          obtain ⟨hg, hm⟩ := gd_some hm
          refine aL_15 (pc := 162) X dX7_openNextValue_162 hg (x := (S62.1 15) ((S62.1 3 10).toNatClampNeg)) rfl ?_
          refine iv_iconst (pc := 163) X dX7_openNextValue_163 ic_1 ?_
          refine iv_iadd (pc := 164) X dX7_openNextValue_164 ?_
          obtain ⟨⟨r67, S66⟩, hc68, hm⟩ := bd_some hm
          refine cV_X7_212_3 (pc := 165) X [.int 21, .int r60, .int (((S62.1 15) ((S62.1 3 10).toNatClampNeg)) + 1)] [] 3 rfl (f_X7_open_e l g ad 21 r60 (((S62.1 15) ((S62.1 3 10).toNatClampNeg)) + 1) S62 _ _ hc68) (by decide) (by decide) (Nat.le_of_ble_eq_true rfl) rfl dX7_openNextValue_165 ?_
          refine iv_if_eq (pc := 168) X dX7_openNextValue_168 (tgt := 175) rfl (fun hb69 => ?_) (fun hb69 => ?_)
          · rw [if_pos hb69] at hm
            refine iv_iconst (pc := 175) X dX7_openNextValue_175 ic_0 ?_
            cases hm
            exact is_zret (pc := 176) X dX7_openNextValue_176 rfl
          · rw [if_neg hb69] at hm
            refine iv_iconst (pc := 171) X dX7_openNextValue_171 ic_1 ?_
            refine iv_goto (pc := 172) X dX7_openNextValue_172 (tgt := 176) rfl ?_
            cases hm
            exact is_zret (pc := 176) X dX7_openNextValue_176 rfl
  · rw [if_neg hb4] at hm
    refine iv_aload_n (pc := 8) X dX7_openNextValue_8 rfl ?_
    obtain ⟨⟨r71, S70⟩, hc72, hm⟩ := bd_some hm
    refine cV_X7_66_3 (pc := 9) X [] [] 0 rfl (f_X7_refuse_e l g ad  S1 _ _ hc72) (by decide) (by decide) (Nat.le_of_ble_eq_true rfl) rfl dX7_openNextValue_9 ?_
    obtain ⟨hg, hm⟩ := gd_some hm
    cases hm
    exact is_zret (pc := 12) X dX7_openNextValue_12 (z_b_n hg)
def f_X7_bindHere (fu : Nat) (S : im_S) : Option (Int32 × im_S) := gd (in_b (S.1 3 6) 501) ((f_X7_placeHere S).bind (fun qS1 => (f_X7_findKnown fu ((S.2.1 33) ((S.1 3 6).toNatClampNeg)) qS1.2).bind (fun qS4 => if (qS4.1 : Int32) = (-1) then ((f_X7_typeOf fu ((S.2.1 33) ((S.1 3 6).toNatClampNeg)) (uI qS4.2 3 6 ((qS4.2.1 3 6) + 1))).bind (fun qS8 => (f_X6_topRegion qS8.2).bind (fun qS11 => (f_X3_add 3 qS8.1 qS1.1 ((S.2.1 33) ((S.1 3 6).toNatClampNeg)) qS11.1 qS11.2).bind (fun qS14 => some (qS14.1, qS14.2))))) else ((f_X1_note 2 qS1.1 qS4.2).bind (fun qS17 => (f_X7_typeOf fu ((S.2.1 33) ((S.1 3 6).toNatClampNeg)) (uI qS17.2 3 6 ((qS17.2.1 3 6) + 1))).bind (fun qS20 => (f_X6_topRegion qS20.2).bind (fun qS23 => (f_X3_add 3 qS20.1 qS1.1 ((S.2.1 33) ((S.1 3 6).toNatClampNeg)) qS23.1 qS23.2).bind (fun qS26 => some (qS26.1, qS26.2)))))))))
set_option maxHeartbeats 4000000 in
set_option maxRecDepth 100000 in
theorem f_X7_bindHere_e (l : Launch) (g : im_G) (ad : Nat → Nat) (fu : Nat) (S : im_S) (r : Int32) (S' : im_S) (hm : f_X7_bindHere fu  S = some (r, S')) : im_E l g ad 2 yX7_bindHere cX7_bindHere 4 (some Jvm.ClassFile.FieldType.int) [.ref (ad 3)] S (some (.int r)) S' := by
  unfold f_X7_bindHere at hm
  refine is_met (own := RX7) (by decide +kernel) rfl (Nat.le_of_ble_eq_true rfl) (fun p e s m below meth c X => ?_)
  refine iv_aload_n (pc := 0) X dX7_bindHere_0 rfl ?_
  refine gF_X7_28_3 (pc := 1) X dX7_bindHere_1 ?_
  refine gF_X7_82_30 (pc := 4) X dX7_bindHere_4 ?_
  refine iv_aload_n (pc := 7) X dX7_bindHere_7 rfl ?_
  refine gF_X7_51_3 (pc := 8) X dX7_bindHere_8 (x := S.1 3 6) rfl ?_
  obtain ⟨hg, hm⟩ := gd_some hm
  refine aL_33 (pc := 11) X dX7_bindHere_11 hg (x := (S.2.1 33) ((S.1 3 6).toNatClampNeg)) rfl ?_
  refine iv_lstore_n (pc := 12) X dX7_bindHere_12 (by decide) (lv' := [(1, .long ((S.2.1 33) ((S.1 3 6).toNatClampNeg))), (0, .ref (ad 3))]) rfl ?_
  refine iv_aload_n (pc := 13) X dX7_bindHere_13 rfl ?_
  obtain ⟨⟨r2, S1⟩, hc3, hm⟩ := bd_some hm
  refine cV_X7_96_3 (pc := 14) X [] [] 0 rfl (f_X7_placeHere_e l g ad  S _ _ hc3) (by decide) (by decide) (Nat.le_of_ble_eq_true rfl) rfl dX7_bindHere_14 ?_
  refine iv_istore_n (pc := 17) X dX7_bindHere_17 (by decide) (lv' := [(3, .int r2), (1, .long ((S.2.1 33) ((S.1 3 6).toNatClampNeg))), (0, .ref (ad 3))]) rfl ?_
  refine iv_aload_n (pc := 18) X dX7_bindHere_18 rfl ?_
  refine iv_lload_n (pc := 19) X dX7_bindHere_19 rfl ?_
  obtain ⟨⟨r5, S4⟩, hc6, hm⟩ := bd_some hm
  refine cV_X7_203_3 (pc := 20) X [.long ((S.2.1 33) ((S.1 3 6).toNatClampNeg))] [] 1 rfl (f_X7_findKnown_e l g ad fu ((S.2.1 33) ((S.1 3 6).toNatClampNeg)) S1 _ _ hc6) (by decide) (by decide) (Nat.le_of_ble_eq_true rfl) rfl dX7_bindHere_20 ?_
  refine iv_iconst (pc := 23) X dX7_bindHere_23 ic_m1 ?_
  refine iv_icmp_eq (pc := 24) X dX7_bindHere_24 (tgt := 36) rfl (fun hb7 => ?_) (fun hb7 => ?_)
  · rw [if_pos hb7] at hm
    refine iv_aload_n (pc := 36) X dX7_bindHere_36 rfl ?_
    refine iv_dup (pc := 37) X dX7_bindHere_37 rfl ?_
    refine gF_X7_51_3 (pc := 38) X dX7_bindHere_38 (x := S4.1 3 6) rfl ?_
    refine iv_iconst (pc := 41) X dX7_bindHere_41 ic_1 ?_
    refine iv_iadd (pc := 42) X dX7_bindHere_42 ?_
    refine pF_X7_51_3 (pc := 43) X dX7_bindHere_43 ?_
    refine iv_aload_n (pc := 46) X dX7_bindHere_46 rfl ?_
    refine gF_X7_21_3 (pc := 47) X dX7_bindHere_47 ?_
    refine iv_iconst (pc := 50) X dX7_bindHere_50 ic_3 ?_
    refine iv_lload_n (pc := 51) X dX7_bindHere_51 rfl ?_
    obtain ⟨⟨r9, S8⟩, hc10, hm⟩ := bd_some hm
    refine cS_X7_206 (pc := 52) X [.long ((S.2.1 33) ((S.1 3 6).toNatClampNeg))] [.int 3, .ref (ad 6)] 1 rfl (f_X7_typeOf_e l g ad fu ((S.2.1 33) ((S.1 3 6).toNatClampNeg)) (uI S4 3 6 ((S4.1 3 6) + 1)) _ _ hc10) (by decide) (by decide) (Nat.le_of_ble_eq_true rfl) rfl dX7_bindHere_52 ?_
    refine iv_iload_n (pc := 55) X dX7_bindHere_55 rfl ?_
    refine iv_lload_n (pc := 56) X dX7_bindHere_56 rfl ?_
    refine iv_aload_n (pc := 57) X dX7_bindHere_57 rfl ?_
    refine gF_X7_35_3 (pc := 58) X dX7_bindHere_58 ?_
    obtain ⟨⟨r12, S11⟩, hc13, hm⟩ := bd_some hm
    refine cV_X7_186_34 (pc := 61) X [] [.long ((S.2.1 33) ((S.1 3 6).toNatClampNeg)), .int r2, .int r9, .int 3, .ref (ad 6)] 0 rfl (f_X6_topRegion_e l g ad  S8 _ _ hc13) (by decide) (by decide) (Nat.le_of_ble_eq_true rfl) rfl dX7_bindHere_61 ?_
    obtain ⟨⟨r15, S14⟩, hc16, hm⟩ := bd_some hm
    refine cV_X7_189_6 (pc := 64) X [.int 3, .int r9, .int r2, .long ((S.2.1 33) ((S.1 3 6).toNatClampNeg)), .int r12] [] 5 rfl (f_X3_add_e l g ad 3 r9 r2 ((S.2.1 33) ((S.1 3 6).toNatClampNeg)) r12 S11 _ _ hc16) (by decide) (by decide) (Nat.le_of_ble_eq_true rfl) rfl dX7_bindHere_64 ?_
    cases hm
    exact is_iret (pc := 67) X dX7_bindHere_67
  · rw [if_neg hb7] at hm
    refine iv_aload_n (pc := 27) X dX7_bindHere_27 rfl ?_
    refine gF_X7_12_3 (pc := 28) X dX7_bindHere_28 ?_
    refine iv_iconst (pc := 31) X dX7_bindHere_31 ic_2 ?_
    refine iv_iload_n (pc := 32) X dX7_bindHere_32 rfl ?_
    obtain ⟨⟨r18, S17⟩, hc19, hm⟩ := bd_some hm
    refine cV_X7_99_5 (pc := 33) X [.int 2, .int r2] [] 2 rfl (f_X1_note_e l g ad 2 r2 S4 _ _ hc19) (by decide) (by decide) (Nat.le_of_ble_eq_true rfl) rfl dX7_bindHere_33 ?_
    refine iv_aload_n (pc := 36) X dX7_bindHere_36 rfl ?_
    refine iv_dup (pc := 37) X dX7_bindHere_37 rfl ?_
    refine gF_X7_51_3 (pc := 38) X dX7_bindHere_38 (x := S17.1 3 6) rfl ?_
    refine iv_iconst (pc := 41) X dX7_bindHere_41 ic_1 ?_
    refine iv_iadd (pc := 42) X dX7_bindHere_42 ?_
    refine pF_X7_51_3 (pc := 43) X dX7_bindHere_43 ?_
    refine iv_aload_n (pc := 46) X dX7_bindHere_46 rfl ?_
    refine gF_X7_21_3 (pc := 47) X dX7_bindHere_47 ?_
    refine iv_iconst (pc := 50) X dX7_bindHere_50 ic_3 ?_
    refine iv_lload_n (pc := 51) X dX7_bindHere_51 rfl ?_
    obtain ⟨⟨r21, S20⟩, hc22, hm⟩ := bd_some hm
    refine cS_X7_206 (pc := 52) X [.long ((S.2.1 33) ((S.1 3 6).toNatClampNeg))] [.int 3, .ref (ad 6)] 1 rfl (f_X7_typeOf_e l g ad fu ((S.2.1 33) ((S.1 3 6).toNatClampNeg)) (uI S17 3 6 ((S17.1 3 6) + 1)) _ _ hc22) (by decide) (by decide) (Nat.le_of_ble_eq_true rfl) rfl dX7_bindHere_52 ?_
    refine iv_iload_n (pc := 55) X dX7_bindHere_55 rfl ?_
    refine iv_lload_n (pc := 56) X dX7_bindHere_56 rfl ?_
    refine iv_aload_n (pc := 57) X dX7_bindHere_57 rfl ?_
    refine gF_X7_35_3 (pc := 58) X dX7_bindHere_58 ?_
    obtain ⟨⟨r24, S23⟩, hc25, hm⟩ := bd_some hm
    refine cV_X7_186_34 (pc := 61) X [] [.long ((S.2.1 33) ((S.1 3 6).toNatClampNeg)), .int r2, .int r21, .int 3, .ref (ad 6)] 0 rfl (f_X6_topRegion_e l g ad  S20 _ _ hc25) (by decide) (by decide) (Nat.le_of_ble_eq_true rfl) rfl dX7_bindHere_61 ?_
    obtain ⟨⟨r27, S26⟩, hc28, hm⟩ := bd_some hm
    refine cV_X7_189_6 (pc := 64) X [.int 3, .int r21, .int r2, .long ((S.2.1 33) ((S.1 3 6).toNatClampNeg)), .int r24] [] 5 rfl (f_X3_add_e l g ad 3 r21 r2 ((S.2.1 33) ((S.1 3 6).toNatClampNeg)) r24 S23 _ _ hc28) (by decide) (by decide) (Nat.le_of_ble_eq_true rfl) rfl dX7_bindHere_64 ?_
    cases hm
    exact is_iret (pc := 67) X dX7_bindHere_67
def f_X7_openElement (S : im_S) : Option (Int32 × im_S) := (f_X7_addHere 6 1 0 S).bind (fun qS1 => gd (in_b qS1.1 512) (gd (in_b (qS1.2.1 3 8) 512) (gd (in_b qS1.1 512) ((f_X3_connect (qS1.2.1 3 8) 2 qS1.1 (-1) (uI (uI qS1.2 12 qS1.1.toNatClampNeg (qS1.2.1 3 8)) 20 qS1.1.toNatClampNeg ((qS1.2.1 20) ((qS1.2.1 3 8).toNatClampNeg)))).bind (fun qS4 => (f_X7_checkType (qS4.2.1 3 8) 3 qS4.2).bind (fun qS7 => (f_X6_topRegion (uI qS7.2 3 9 ((qS7.2.1 3 9) + 1))).bind (fun qS10 => (f_X7_open 12 qS1.1 qS10.1 qS10.2).bind (fun qS13 => gd (z_b qS13.1) (some (qS13.1, qS13.2))))))))))
set_option maxHeartbeats 4000000 in
set_option maxRecDepth 100000 in
theorem f_X7_openElement_e (l : Launch) (g : im_G) (ad : Nat → Nat) (S : im_S) (r : Int32) (S' : im_S) (hm : f_X7_openElement  S = some (r, S')) : im_E l g ad 3 yX7_openElement cX7_openElement 2 (some Jvm.ClassFile.FieldType.boolean) [.ref (ad 3)] S (some (.int r)) S' := by
  unfold f_X7_openElement at hm
  refine is_met (own := RX7) (by decide +kernel) rfl (Nat.le_of_ble_eq_true rfl) (fun p e s m below meth c X => ?_)
  refine iv_aload_n (pc := 0) X dX7_openElement_0 rfl ?_
  refine iv_bipush (pc := 1) X dX7_openElement_1 bc_6 ?_
  refine iv_iconst (pc := 3) X dX7_openElement_3 ic_1 ?_
  refine iv_lconst (pc := 4) X dX7_openElement_4 lc_0 ?_
  obtain ⟨⟨r2, S1⟩, hc3, hm⟩ := bd_some hm
  refine cV_X7_196_3 (pc := 5) X [.int 6, .int 1, .long 0] [] 3 rfl (f_X7_addHere_e l g ad 6 1 0 S _ _ hc3) (by decide) (by decide) (Nat.le_of_ble_eq_true rfl) rfl dX7_openElement_5 ?_
  refine iv_istore_n (pc := 8) X dX7_openElement_8 (by decide) (lv' := [(1, .int r2), (0, .ref (ad 3))]) rfl ?_
  refine iv_aload_n (pc := 9) X dX7_openElement_9 rfl ?_
  refine gF_X7_21_3 (pc := 10) X dX7_openElement_10 ?_
  refine gF_X7_209_6 (pc := 13) X dX7_openElement_13 ?_
  refine iv_iload_n (pc := 16) X dX7_openElement_16 rfl ?_
  refine iv_aload_n (pc := 17) X dX7_openElement_17 rfl ?_
  refine gF_X7_193_3 (pc := 18) X dX7_openElement_18 (x := S1.1 3 8) rfl ?_
  obtain ⟨hg, hm⟩ := gd_some hm
  refine aS_12 (pc := 21) X dX7_openElement_21 hg ?_
  refine iv_aload_n (pc := 22) X dX7_openElement_22 rfl ?_
  refine gF_X7_21_3 (pc := 23) X dX7_openElement_23 ?_
  refine gF_X7_265_6 (pc := 26) X dX7_openElement_26 ?_
  refine iv_iload_n (pc := 29) X dX7_openElement_29 rfl ?_
  refine iv_aload_n (pc := 30) X dX7_openElement_30 rfl ?_
  refine gF_X7_21_3 (pc := 31) X dX7_openElement_31 ?_
  refine gF_X7_265_6 (pc := 34) X dX7_openElement_34 ?_
  refine iv_aload_n (pc := 37) X dX7_openElement_37 rfl ?_
  refine gF_X7_193_3 (pc := 38) X dX7_openElement_38 (x := S1.1 3 8) rfl ?_
  obtain ⟨hg, hm⟩ := gd_some hm
  refine aL_20 (pc := 41) X dX7_openElement_41 hg (x := (S1.1 20) ((S1.1 3 8).toNatClampNeg)) rfl ?_
  obtain ⟨hg, hm⟩ := gd_some hm
  refine aS_20 (pc := 42) X dX7_openElement_42 hg ?_
  refine iv_aload_n (pc := 43) X dX7_openElement_43 rfl ?_
  refine gF_X7_21_3 (pc := 44) X dX7_openElement_44 ?_
  refine iv_aload_n (pc := 47) X dX7_openElement_47 rfl ?_
  refine gF_X7_193_3 (pc := 48) X dX7_openElement_48 (x := S1.1 3 8) rfl ?_
  refine iv_iconst (pc := 51) X dX7_openElement_51 ic_2 ?_
  refine iv_iload_n (pc := 52) X dX7_openElement_52 rfl ?_
  refine iv_iconst (pc := 53) X dX7_openElement_53 ic_m1 ?_
  obtain ⟨⟨r5, S4⟩, hc6, hm⟩ := bd_some hm
  refine cV_X7_296_6 (pc := 54) X [.int (S1.1 3 8), .int 2, .int r2, .int (-1)] [] 4 rfl (f_X3_connect_e l g ad (S1.1 3 8) 2 r2 (-1) (uI (uI S1 12 r2.toNatClampNeg (S1.1 3 8)) 20 r2.toNatClampNeg ((S1.1 20) ((S1.1 3 8).toNatClampNeg))) _ _ hc6) (by decide) (by decide) (Nat.le_of_ble_eq_true rfl) rfl dX7_openElement_54 ?_
  refine iv_aload_n (pc := 57) X dX7_openElement_57 rfl ?_
  refine iv_aload_n (pc := 58) X dX7_openElement_58 rfl ?_
  refine gF_X7_193_3 (pc := 59) X dX7_openElement_59 (x := S4.1 3 8) rfl ?_
  refine iv_iconst (pc := 62) X dX7_openElement_62 ic_3 ?_
  obtain ⟨⟨r8, S7⟩, hc9, hm⟩ := bd_some hm
  refine cV_X7_226_3 (pc := 63) X [.int (S4.1 3 8), .int 3] [] 2 rfl (f_X7_checkType_e l g ad (S4.1 3 8) 3 S4 _ _ hc9) (by decide) (by decide) (Nat.le_of_ble_eq_true rfl) rfl dX7_openElement_63 ?_
  refine iv_aload_n (pc := 66) X dX7_openElement_66 rfl ?_
  refine iv_dup (pc := 67) X dX7_openElement_67 rfl ?_
  refine gF_X7_109_3 (pc := 68) X dX7_openElement_68 (x := S7.1 3 9) rfl ?_
  refine iv_iconst (pc := 71) X dX7_openElement_71 ic_1 ?_
  refine iv_iadd (pc := 72) X dX7_openElement_72 ?_
  refine pF_X7_109_3 (pc := 73) X dX7_openElement_73 ?_
  refine iv_aload_n (pc := 76) X dX7_openElement_76 rfl ?_
  refine iv_bipush (pc := 77) X dX7_openElement_77 bc_12 ?_
  refine iv_iload_n (pc := 79) X dX7_openElement_79 rfl ?_
  refine iv_aload_n (pc := 80) X dX7_openElement_80 rfl ?_
  refine gF_X7_35_3 (pc := 81) X dX7_openElement_81 ?_
  obtain ⟨⟨r11, S10⟩, hc12, hm⟩ := bd_some hm
  refine cV_X7_186_34 (pc := 84) X [] [.int r2, .int 12, .ref (ad 3)] 0 rfl (f_X6_topRegion_e l g ad  (uI S7 3 9 ((S7.1 3 9) + 1)) _ _ hc12) (by decide) (by decide) (Nat.le_of_ble_eq_true rfl) rfl dX7_openElement_84 ?_
  obtain ⟨⟨r14, S13⟩, hc15, hm⟩ := bd_some hm
  refine cV_X7_212_3 (pc := 87) X [.int 12, .int r2, .int r11] [] 3 rfl (f_X7_open_e l g ad 12 r2 r11 S10 _ _ hc15) (by decide) (by decide) (Nat.le_of_ble_eq_true rfl) rfl dX7_openElement_87 ?_
  obtain ⟨hg, hm⟩ := gd_some hm
  cases hm
  exact is_zret (pc := 90) X dX7_openElement_90 (z_b_n hg)
def f_X7_openBinary (x1 : Int32) (x2 : Int32) (S : im_S) : Option (Int32 × im_S) := if (x2 : Int32) < 4 then ((f_X7_addHere 5 2 x1.toInt64 S).bind (fun qS2 => gd (in_b qS2.1 512) (gd (in_b (qS2.2.1 3 8) 512) (gd (in_b qS2.1 512) ((f_X3_connect (qS2.2.1 3 8) 2 qS2.1 (-1) (uI (uI qS2.2 12 qS2.1.toNatClampNeg (qS2.2.1 3 8)) 20 qS2.1.toNatClampNeg ((qS2.2.1 20) ((qS2.2.1 3 8).toNatClampNeg)))).bind (fun qS5 => if (x2 : Int32) < 3 then ((f_X7_checkType (qS5.2.1 3 8) 2 qS5.2).bind (fun qS9 => (f_X6_topRegion qS9.2).bind (fun qS12 => (f_X6_push x2 qS2.1 qS12.1 qS12.2).bind (fun qS15 => some (1, (uI qS15.2 3 7 1)))))) else ((f_X7_checkType (qS5.2.1 3 8) 1 qS5.2).bind (fun qS18 => (f_X6_topRegion qS18.2).bind (fun qS21 => (f_X6_push x2 qS2.1 qS21.1 qS21.2).bind (fun qS24 => some (1, (uI qS24.2 3 7 1)))))))))))) else ((f_X7_addHere 5 1 x1.toInt64 S).bind (fun qS27 => gd (in_b qS27.1 512) (gd (in_b (qS27.2.1 3 8) 512) (gd (in_b qS27.1 512) ((f_X3_connect (qS27.2.1 3 8) 2 qS27.1 (-1) (uI (uI qS27.2 12 qS27.1.toNatClampNeg (qS27.2.1 3 8)) 20 qS27.1.toNatClampNeg ((qS27.2.1 20) ((qS27.2.1 3 8).toNatClampNeg)))).bind (fun qS30 => if (x2 : Int32) < 3 then ((f_X7_checkType (qS30.2.1 3 8) 2 qS30.2).bind (fun qS34 => (f_X6_topRegion qS34.2).bind (fun qS37 => (f_X6_push x2 qS27.1 qS37.1 qS37.2).bind (fun qS40 => some (1, (uI qS40.2 3 7 1)))))) else ((f_X7_checkType (qS30.2.1 3 8) 1 qS30.2).bind (fun qS43 => (f_X6_topRegion qS43.2).bind (fun qS46 => (f_X6_push x2 qS27.1 qS46.1 qS46.2).bind (fun qS49 => some (1, (uI qS49.2 3 7 1))))))))))))
set_option maxHeartbeats 4000000 in
set_option maxRecDepth 100000 in
theorem f_X7_openBinary_e (l : Launch) (g : im_G) (ad : Nat → Nat) (x1 : Int32) (x2 : Int32) (S : im_S) (r : Int32) (S' : im_S) (hm : f_X7_openBinary x1 x2 S = some (r, S')) : im_E l g ad 3 yX7_openBinary cX7_openBinary 4 (some Jvm.ClassFile.FieldType.boolean) [.ref (ad 3), .int x1, .int x2] S (some (.int r)) S' := by
  unfold f_X7_openBinary at hm
  refine is_met (own := RX7) (by decide +kernel) rfl (Nat.le_of_ble_eq_true rfl) (fun p e s m below meth c X => ?_)
  refine iv_aload_n (pc := 0) X dX7_openBinary_0 rfl ?_
  refine iv_iconst (pc := 1) X dX7_openBinary_1 ic_5 ?_
  refine iv_iload_n (pc := 2) X dX7_openBinary_2 rfl ?_
  refine iv_iconst (pc := 3) X dX7_openBinary_3 ic_4 ?_
  refine iv_icmp_lt (pc := 4) X dX7_openBinary_4 (tgt := 11) rfl (fun hb1 => ?_) (fun hb1 => ?_)
  · rw [if_pos hb1] at hm
    refine iv_iconst (pc := 11) X dX7_openBinary_11 ic_2 ?_
    refine iv_iload_n (pc := 12) X dX7_openBinary_12 rfl ?_
    refine iv_i2l (pc := 13) X dX7_openBinary_13 rfl ?_
    obtain ⟨⟨r3, S2⟩, hc4, hm⟩ := bd_some hm
    refine cV_X7_196_3 (pc := 14) X [.int 5, .int 2, .long x1.toInt64] [] 3 rfl (f_X7_addHere_e l g ad 5 2 x1.toInt64 S _ _ hc4) (by decide) (by decide) (Nat.le_of_ble_eq_true rfl) rfl dX7_openBinary_14 ?_
    refine iv_istore_n (pc := 17) X dX7_openBinary_17 (by decide) (lv' := [(3, .int r3), (0, .ref (ad 3)), (1, .int x1), (2, .int x2)]) rfl ?_
    refine iv_aload_n (pc := 18) X dX7_openBinary_18 rfl ?_
    refine gF_X7_21_3 (pc := 19) X dX7_openBinary_19 ?_
    refine gF_X7_209_6 (pc := 22) X dX7_openBinary_22 ?_
    refine iv_iload_n (pc := 25) X dX7_openBinary_25 rfl ?_
    refine iv_aload_n (pc := 26) X dX7_openBinary_26 rfl ?_
    refine gF_X7_193_3 (pc := 27) X dX7_openBinary_27 (x := S2.1 3 8) rfl ?_
    obtain ⟨hg, hm⟩ := gd_some hm
    refine aS_12 (pc := 30) X dX7_openBinary_30 hg ?_
    refine iv_aload_n (pc := 31) X dX7_openBinary_31 rfl ?_
    refine gF_X7_21_3 (pc := 32) X dX7_openBinary_32 ?_
    refine gF_X7_265_6 (pc := 35) X dX7_openBinary_35 ?_
    refine iv_iload_n (pc := 38) X dX7_openBinary_38 rfl ?_
    refine iv_aload_n (pc := 39) X dX7_openBinary_39 rfl ?_
    refine gF_X7_21_3 (pc := 40) X dX7_openBinary_40 ?_
    refine gF_X7_265_6 (pc := 43) X dX7_openBinary_43 ?_
    refine iv_aload_n (pc := 46) X dX7_openBinary_46 rfl ?_
    refine gF_X7_193_3 (pc := 47) X dX7_openBinary_47 (x := S2.1 3 8) rfl ?_
    obtain ⟨hg, hm⟩ := gd_some hm
    refine aL_20 (pc := 50) X dX7_openBinary_50 hg (x := (S2.1 20) ((S2.1 3 8).toNatClampNeg)) rfl ?_
    obtain ⟨hg, hm⟩ := gd_some hm
    refine aS_20 (pc := 51) X dX7_openBinary_51 hg ?_
    refine iv_aload_n (pc := 52) X dX7_openBinary_52 rfl ?_
    refine gF_X7_21_3 (pc := 53) X dX7_openBinary_53 ?_
    refine iv_aload_n (pc := 56) X dX7_openBinary_56 rfl ?_
    refine gF_X7_193_3 (pc := 57) X dX7_openBinary_57 (x := S2.1 3 8) rfl ?_
    refine iv_iconst (pc := 60) X dX7_openBinary_60 ic_2 ?_
    refine iv_iload_n (pc := 61) X dX7_openBinary_61 rfl ?_
    refine iv_iconst (pc := 62) X dX7_openBinary_62 ic_m1 ?_
    obtain ⟨⟨r6, S5⟩, hc7, hm⟩ := bd_some hm
    refine cV_X7_296_6 (pc := 63) X [.int (S2.1 3 8), .int 2, .int r3, .int (-1)] [] 4 rfl (f_X3_connect_e l g ad (S2.1 3 8) 2 r3 (-1) (uI (uI S2 12 r3.toNatClampNeg (S2.1 3 8)) 20 r3.toNatClampNeg ((S2.1 20) ((S2.1 3 8).toNatClampNeg))) _ _ hc7) (by decide) (by decide) (Nat.le_of_ble_eq_true rfl) rfl dX7_openBinary_63 ?_
    refine iv_aload_n (pc := 66) X dX7_openBinary_66 rfl ?_
    refine iv_aload_n (pc := 67) X dX7_openBinary_67 rfl ?_
    refine gF_X7_193_3 (pc := 68) X dX7_openBinary_68 (x := S5.1 3 8) rfl ?_
    refine iv_iload_n (pc := 71) X dX7_openBinary_71 rfl ?_
    refine iv_iconst (pc := 72) X dX7_openBinary_72 ic_3 ?_
    refine iv_icmp_lt (pc := 73) X dX7_openBinary_73 (tgt := 80) rfl (fun hb8 => ?_) (fun hb8 => ?_)
    · rw [if_pos hb8] at hm
      refine iv_iconst (pc := 80) X dX7_openBinary_80 ic_2 ?_
      obtain ⟨⟨r10, S9⟩, hc11, hm⟩ := bd_some hm
      refine cV_X7_226_3 (pc := 81) X [.int (S5.1 3 8), .int 2] [] 2 rfl (f_X7_checkType_e l g ad (S5.1 3 8) 2 S5 _ _ hc11) (by decide) (by decide) (Nat.le_of_ble_eq_true rfl) rfl dX7_openBinary_81 ?_
      refine iv_aload_n (pc := 84) X dX7_openBinary_84 rfl ?_
      refine gF_X7_35_3 (pc := 85) X dX7_openBinary_85 ?_
      refine iv_iload_n (pc := 88) X dX7_openBinary_88 rfl ?_
      refine iv_iload_n (pc := 89) X dX7_openBinary_89 rfl ?_
      refine iv_aload_n (pc := 90) X dX7_openBinary_90 rfl ?_
      refine gF_X7_35_3 (pc := 91) X dX7_openBinary_91 ?_
      obtain ⟨⟨r13, S12⟩, hc14, hm⟩ := bd_some hm
      refine cV_X7_186_34 (pc := 94) X [] [.int r3, .int x2, .ref (ad 34)] 0 rfl (f_X6_topRegion_e l g ad  S9 _ _ hc14) (by decide) (by decide) (Nat.le_of_ble_eq_true rfl) rfl dX7_openBinary_94 ?_
      obtain ⟨⟨r16, S15⟩, hc17, hm⟩ := bd_some hm
      refine cV_X7_118_34 (pc := 97) X [.int x2, .int r3, .int r13] [] 3 rfl (f_X6_push_e l g ad x2 r3 r13 S12 _ _ hc17) (by decide) (by decide) (Nat.le_of_ble_eq_true rfl) rfl dX7_openBinary_97 ?_
      refine iv_aload_n (pc := 100) X dX7_openBinary_100 rfl ?_
      refine iv_iconst (pc := 101) X dX7_openBinary_101 ic_1 ?_
      refine pF_X7_122_3 (pc := 102) X dX7_openBinary_102 ?_
      refine iv_iconst (pc := 105) X dX7_openBinary_105 ic_1 ?_
      cases hm
      exact is_zret (pc := 106) X dX7_openBinary_106 rfl
    · rw [if_neg hb8] at hm
      refine iv_iconst (pc := 76) X dX7_openBinary_76 ic_1 ?_
      refine iv_goto (pc := 77) X dX7_openBinary_77 (tgt := 81) rfl ?_
      obtain ⟨⟨r19, S18⟩, hc20, hm⟩ := bd_some hm
      refine cV_X7_226_3 (pc := 81) X [.int (S5.1 3 8), .int 1] [] 2 rfl (f_X7_checkType_e l g ad (S5.1 3 8) 1 S5 _ _ hc20) (by decide) (by decide) (Nat.le_of_ble_eq_true rfl) rfl dX7_openBinary_81 ?_
      refine iv_aload_n (pc := 84) X dX7_openBinary_84 rfl ?_
      refine gF_X7_35_3 (pc := 85) X dX7_openBinary_85 ?_
      refine iv_iload_n (pc := 88) X dX7_openBinary_88 rfl ?_
      refine iv_iload_n (pc := 89) X dX7_openBinary_89 rfl ?_
      refine iv_aload_n (pc := 90) X dX7_openBinary_90 rfl ?_
      refine gF_X7_35_3 (pc := 91) X dX7_openBinary_91 ?_
      obtain ⟨⟨r22, S21⟩, hc23, hm⟩ := bd_some hm
      refine cV_X7_186_34 (pc := 94) X [] [.int r3, .int x2, .ref (ad 34)] 0 rfl (f_X6_topRegion_e l g ad  S18 _ _ hc23) (by decide) (by decide) (Nat.le_of_ble_eq_true rfl) rfl dX7_openBinary_94 ?_
      obtain ⟨⟨r25, S24⟩, hc26, hm⟩ := bd_some hm
      refine cV_X7_118_34 (pc := 97) X [.int x2, .int r3, .int r22] [] 3 rfl (f_X6_push_e l g ad x2 r3 r22 S21 _ _ hc26) (by decide) (by decide) (Nat.le_of_ble_eq_true rfl) rfl dX7_openBinary_97 ?_
      refine iv_aload_n (pc := 100) X dX7_openBinary_100 rfl ?_
      refine iv_iconst (pc := 101) X dX7_openBinary_101 ic_1 ?_
      refine pF_X7_122_3 (pc := 102) X dX7_openBinary_102 ?_
      refine iv_iconst (pc := 105) X dX7_openBinary_105 ic_1 ?_
      cases hm
      exact is_zret (pc := 106) X dX7_openBinary_106 rfl
  · rw [if_neg hb1] at hm
    refine iv_iconst (pc := 7) X dX7_openBinary_7 ic_1 ?_
    refine iv_goto (pc := 8) X dX7_openBinary_8 (tgt := 12) rfl ?_
    refine iv_iload_n (pc := 12) X dX7_openBinary_12 rfl ?_
    refine iv_i2l (pc := 13) X dX7_openBinary_13 rfl ?_
    obtain ⟨⟨r28, S27⟩, hc29, hm⟩ := bd_some hm
    refine cV_X7_196_3 (pc := 14) X [.int 5, .int 1, .long x1.toInt64] [] 3 rfl (f_X7_addHere_e l g ad 5 1 x1.toInt64 S _ _ hc29) (by decide) (by decide) (Nat.le_of_ble_eq_true rfl) rfl dX7_openBinary_14 ?_
    refine iv_istore_n (pc := 17) X dX7_openBinary_17 (by decide) (lv' := [(3, .int r28), (0, .ref (ad 3)), (1, .int x1), (2, .int x2)]) rfl ?_
    refine iv_aload_n (pc := 18) X dX7_openBinary_18 rfl ?_
    refine gF_X7_21_3 (pc := 19) X dX7_openBinary_19 ?_
    refine gF_X7_209_6 (pc := 22) X dX7_openBinary_22 ?_
    refine iv_iload_n (pc := 25) X dX7_openBinary_25 rfl ?_
    refine iv_aload_n (pc := 26) X dX7_openBinary_26 rfl ?_
    refine gF_X7_193_3 (pc := 27) X dX7_openBinary_27 (x := S27.1 3 8) rfl ?_
    obtain ⟨hg, hm⟩ := gd_some hm
    refine aS_12 (pc := 30) X dX7_openBinary_30 hg ?_
    refine iv_aload_n (pc := 31) X dX7_openBinary_31 rfl ?_
    refine gF_X7_21_3 (pc := 32) X dX7_openBinary_32 ?_
    refine gF_X7_265_6 (pc := 35) X dX7_openBinary_35 ?_
    refine iv_iload_n (pc := 38) X dX7_openBinary_38 rfl ?_
    refine iv_aload_n (pc := 39) X dX7_openBinary_39 rfl ?_
    refine gF_X7_21_3 (pc := 40) X dX7_openBinary_40 ?_
    refine gF_X7_265_6 (pc := 43) X dX7_openBinary_43 ?_
    refine iv_aload_n (pc := 46) X dX7_openBinary_46 rfl ?_
    refine gF_X7_193_3 (pc := 47) X dX7_openBinary_47 (x := S27.1 3 8) rfl ?_
    obtain ⟨hg, hm⟩ := gd_some hm
    refine aL_20 (pc := 50) X dX7_openBinary_50 hg (x := (S27.1 20) ((S27.1 3 8).toNatClampNeg)) rfl ?_
    obtain ⟨hg, hm⟩ := gd_some hm
    refine aS_20 (pc := 51) X dX7_openBinary_51 hg ?_
    refine iv_aload_n (pc := 52) X dX7_openBinary_52 rfl ?_
    refine gF_X7_21_3 (pc := 53) X dX7_openBinary_53 ?_
    refine iv_aload_n (pc := 56) X dX7_openBinary_56 rfl ?_
    refine gF_X7_193_3 (pc := 57) X dX7_openBinary_57 (x := S27.1 3 8) rfl ?_
    refine iv_iconst (pc := 60) X dX7_openBinary_60 ic_2 ?_
    refine iv_iload_n (pc := 61) X dX7_openBinary_61 rfl ?_
    refine iv_iconst (pc := 62) X dX7_openBinary_62 ic_m1 ?_
    obtain ⟨⟨r31, S30⟩, hc32, hm⟩ := bd_some hm
    refine cV_X7_296_6 (pc := 63) X [.int (S27.1 3 8), .int 2, .int r28, .int (-1)] [] 4 rfl (f_X3_connect_e l g ad (S27.1 3 8) 2 r28 (-1) (uI (uI S27 12 r28.toNatClampNeg (S27.1 3 8)) 20 r28.toNatClampNeg ((S27.1 20) ((S27.1 3 8).toNatClampNeg))) _ _ hc32) (by decide) (by decide) (Nat.le_of_ble_eq_true rfl) rfl dX7_openBinary_63 ?_
    refine iv_aload_n (pc := 66) X dX7_openBinary_66 rfl ?_
    refine iv_aload_n (pc := 67) X dX7_openBinary_67 rfl ?_
    refine gF_X7_193_3 (pc := 68) X dX7_openBinary_68 (x := S30.1 3 8) rfl ?_
    refine iv_iload_n (pc := 71) X dX7_openBinary_71 rfl ?_
    refine iv_iconst (pc := 72) X dX7_openBinary_72 ic_3 ?_
    refine iv_icmp_lt (pc := 73) X dX7_openBinary_73 (tgt := 80) rfl (fun hb33 => ?_) (fun hb33 => ?_)
    · rw [if_pos hb33] at hm
      refine iv_iconst (pc := 80) X dX7_openBinary_80 ic_2 ?_
      obtain ⟨⟨r35, S34⟩, hc36, hm⟩ := bd_some hm
      refine cV_X7_226_3 (pc := 81) X [.int (S30.1 3 8), .int 2] [] 2 rfl (f_X7_checkType_e l g ad (S30.1 3 8) 2 S30 _ _ hc36) (by decide) (by decide) (Nat.le_of_ble_eq_true rfl) rfl dX7_openBinary_81 ?_
      refine iv_aload_n (pc := 84) X dX7_openBinary_84 rfl ?_
      refine gF_X7_35_3 (pc := 85) X dX7_openBinary_85 ?_
      refine iv_iload_n (pc := 88) X dX7_openBinary_88 rfl ?_
      refine iv_iload_n (pc := 89) X dX7_openBinary_89 rfl ?_
      refine iv_aload_n (pc := 90) X dX7_openBinary_90 rfl ?_
      refine gF_X7_35_3 (pc := 91) X dX7_openBinary_91 ?_
      obtain ⟨⟨r38, S37⟩, hc39, hm⟩ := bd_some hm
      refine cV_X7_186_34 (pc := 94) X [] [.int r28, .int x2, .ref (ad 34)] 0 rfl (f_X6_topRegion_e l g ad  S34 _ _ hc39) (by decide) (by decide) (Nat.le_of_ble_eq_true rfl) rfl dX7_openBinary_94 ?_
      obtain ⟨⟨r41, S40⟩, hc42, hm⟩ := bd_some hm
      refine cV_X7_118_34 (pc := 97) X [.int x2, .int r28, .int r38] [] 3 rfl (f_X6_push_e l g ad x2 r28 r38 S37 _ _ hc42) (by decide) (by decide) (Nat.le_of_ble_eq_true rfl) rfl dX7_openBinary_97 ?_
      refine iv_aload_n (pc := 100) X dX7_openBinary_100 rfl ?_
      refine iv_iconst (pc := 101) X dX7_openBinary_101 ic_1 ?_
      refine pF_X7_122_3 (pc := 102) X dX7_openBinary_102 ?_
      refine iv_iconst (pc := 105) X dX7_openBinary_105 ic_1 ?_
      cases hm
      exact is_zret (pc := 106) X dX7_openBinary_106 rfl
    · rw [if_neg hb33] at hm
      refine iv_iconst (pc := 76) X dX7_openBinary_76 ic_1 ?_
      refine iv_goto (pc := 77) X dX7_openBinary_77 (tgt := 81) rfl ?_
      obtain ⟨⟨r44, S43⟩, hc45, hm⟩ := bd_some hm
      refine cV_X7_226_3 (pc := 81) X [.int (S30.1 3 8), .int 1] [] 2 rfl (f_X7_checkType_e l g ad (S30.1 3 8) 1 S30 _ _ hc45) (by decide) (by decide) (Nat.le_of_ble_eq_true rfl) rfl dX7_openBinary_81 ?_
      refine iv_aload_n (pc := 84) X dX7_openBinary_84 rfl ?_
      refine gF_X7_35_3 (pc := 85) X dX7_openBinary_85 ?_
      refine iv_iload_n (pc := 88) X dX7_openBinary_88 rfl ?_
      refine iv_iload_n (pc := 89) X dX7_openBinary_89 rfl ?_
      refine iv_aload_n (pc := 90) X dX7_openBinary_90 rfl ?_
      refine gF_X7_35_3 (pc := 91) X dX7_openBinary_91 ?_
      obtain ⟨⟨r47, S46⟩, hc48, hm⟩ := bd_some hm
      refine cV_X7_186_34 (pc := 94) X [] [.int r28, .int x2, .ref (ad 34)] 0 rfl (f_X6_topRegion_e l g ad  S43 _ _ hc48) (by decide) (by decide) (Nat.le_of_ble_eq_true rfl) rfl dX7_openBinary_94 ?_
      obtain ⟨⟨r50, S49⟩, hc51, hm⟩ := bd_some hm
      refine cV_X7_118_34 (pc := 97) X [.int x2, .int r28, .int r47] [] 3 rfl (f_X6_push_e l g ad x2 r28 r47 S46 _ _ hc51) (by decide) (by decide) (Nat.le_of_ble_eq_true rfl) rfl dX7_openBinary_97 ?_
      refine iv_aload_n (pc := 100) X dX7_openBinary_100 rfl ?_
      refine iv_iconst (pc := 101) X dX7_openBinary_101 ic_1 ?_
      refine pF_X7_122_3 (pc := 102) X dX7_openBinary_102 ?_
      refine iv_iconst (pc := 105) X dX7_openBinary_105 ic_1 ?_
      cases hm
      exact is_zret (pc := 106) X dX7_openBinary_106 rfl
def f_X7_endOperators_L8 (fu : Nat) : Nat → Int32 → Int32 → im_S → Option (Unit × im_S)
  | 0, _, _, _ => none
  | nf + 1, z1, z2, S => if (z2 : Int32) ≤ 0 then (some ((), S)) else ((f_X6_topStrength S).bind (fun qS2 => if (qS2.1 : Int32) ≠ z1 then (if (qS2.1 : Int32) = 0 then (some ((), qS2.2)) else (if (z1 : Int32) < qS2.1 then ((f_X7_endOperator qS2.1 qS2.2).bind (fun qS8 => f_X7_endOperators_L8 fu nf z1 (z2 + (-1)) qS8.2)) else (some ((), qS2.2)))) else (if (qS2.1 : Int32) = 3 then (if (qS2.1 : Int32) = 0 then (some ((), qS2.2)) else (if (z1 : Int32) < qS2.1 then ((f_X7_endOperator qS2.1 qS2.2).bind (fun qS15 => f_X7_endOperators_L8 fu nf z1 (z2 + (-1)) qS15.2)) else (some ((), qS2.2)))) else (if (qS2.1 : Int32) = 0 then (some ((), qS2.2)) else (if (z1 : Int32) < qS2.1 then ((f_X7_endOperator qS2.1 qS2.2).bind (fun qS21 => f_X7_endOperators_L8 fu nf z1 (z2 + (-1)) qS21.2)) else ((f_X7_endOperator qS2.1 qS2.2).bind (fun qS25 => f_X7_endOperators_L8 fu nf z1 (z2 + (-1)) qS25.2)))))))
set_option maxHeartbeats 4000000 in
set_option maxRecDepth 100000 in
theorem f_X7_endOperators_L8_w {fu : Nat} (l : Launch) (g : im_G) (ad : Nat → Nat) {p : Program} {e : Env} {s : State} {m : MethodId} {below : List Frame} {meth : Method} {c : Code} {args : Array Value} (X : im_X p l s m args meth c g cX7_endOperators 5 RX7 none) : ∀ (nf : Nat) (z1 : Int32) (z2 : Int32) (S : im_S) (r : Unit) (S' : im_S), f_X7_endOperators_L8 fu nf z1 z2 S = some (r, S') → im_V p l e (im_R 3 0 0) s m args below meth c g 5 (im_Z below g ad args s none S') ad im_N (im_cn g ad S) 0 0 8 [(0, .ref (ad 3)), (1, .int z1), (2, .int z2)] [] := by
  intro nf
  induction nf with
  | zero =>
    intro z1 z2 S r S' hm
    cases hm
  | succ nf ih =>
    intro z1 z2 S r S' hm
    unfold f_X7_endOperators_L8 at hm
    refine iv_iload_n (pc := 8) X dX7_endOperators_8 rfl ?_
    refine iv_if_le (pc := 9) X dX7_endOperators_9 (tgt := 63) rfl (fun hb1 => ?_) (fun hb1 => ?_)
    · rw [if_pos hb1] at hm
      cases hm
      exact is_vret (pc := 63) X dX7_endOperators_63
    · rw [if_neg hb1] at hm
      refine iv_aload_n (pc := 12) X dX7_endOperators_12 rfl ?_
      refine gF_X7_35_3 (pc := 13) X dX7_endOperators_13 ?_
      obtain ⟨⟨r3, S2⟩, hc4, hm⟩ := bd_some hm
      refine cV_X7_277_34 (pc := 16) X [] [] 0 rfl (f_X6_topStrength_e l g ad  S _ _ hc4) (by decide) (by decide) (Nat.le_of_ble_eq_true rfl) rfl dX7_endOperators_16 ?_
      refine iv_istore_n (pc := 19) X dX7_endOperators_19 (by decide) (lv' := [(3, .int r3), (0, .ref (ad 3)), (1, .int z1), (2, .int z2)]) rfl ?_
      refine iv_iload_n (pc := 20) X dX7_endOperators_20 rfl ?_
      refine iv_iload_n (pc := 21) X dX7_endOperators_21 rfl ?_
      refine iv_icmp_ne (pc := 22) X dX7_endOperators_22 (tgt := 34) rfl (fun hb5 => ?_) (fun hb5 => ?_)
      · rw [if_pos hb5] at hm
        refine iv_iconst (pc := 34) X dX7_endOperators_34 ic_0 ?_
        refine iv_istore (pc := 35) X dX7_endOperators_35 (by decide) (lv' := [(4, .int 0), (3, .int r3), (0, .ref (ad 3)), (1, .int z1), (2, .int z2)]) rfl ?_
        refine iv_iload_n (pc := 37) X dX7_endOperators_37 rfl ?_
        refine iv_if_eq (pc := 38) X dX7_endOperators_38 (tgt := 51) rfl (fun hb6 => ?_) (fun hb6 => ?_)
        · rw [if_pos hb6] at hm
          cases hm
          exact is_vret (pc := 51) X dX7_endOperators_51
        · rw [if_neg hb6] at hm
          refine iv_iload_n (pc := 41) X dX7_endOperators_41 rfl ?_
          refine iv_iload_n (pc := 42) X dX7_endOperators_42 rfl ?_
          refine iv_icmp_gt (pc := 43) X dX7_endOperators_43 (tgt := 52) rfl (fun hb7 => ?_) (fun hb7 => ?_)
          · rw [if_pos hb7] at hm
            refine iv_aload_n (pc := 52) X dX7_endOperators_52 rfl ?_
            refine iv_iload_n (pc := 53) X dX7_endOperators_53 rfl ?_
            obtain ⟨⟨r9, S8⟩, hc10, hm⟩ := bd_some hm
            refine cV_X7_300_3 (pc := 54) X [.int r3] [] 1 rfl (f_X7_endOperator_e l g ad r3 S2 _ _ hc10) (by decide) (by decide) (Nat.le_of_ble_eq_true rfl) rfl dX7_endOperators_54 ?_
            refine iv_iinc (pc := 57) X dX7_endOperators_57 rfl (by decide) (v := z2 + (-1)) rfl (lv' := [(2, .int (z2 + (-1))), (4, .int 0), (3, .int r3), (0, .ref (ad 3)), (1, .int z1)]) rfl ?_
            refine iv_goto (pc := 60) X dX7_endOperators_60 (tgt := 8) rfl ?_
            refine iv_sub [3, 4, 0] (lv2 := [(0, .ref (ad 3)), (1, .int z1), (2, .int (z2 + (-1)))]) rfl ?_
            exact ih z1 (z2 + (-1)) S8 _ _ hm
          · rw [if_neg hb7] at hm
            refine iv_iload (pc := 46) X dX7_endOperators_46 rfl ?_
            refine iv_if_ne (pc := 48) X dX7_endOperators_48 (tgt := 52) rfl (fun hb => absurd hb (by decide)) (fun _ => ?_)
            cases hm
            exact is_vret (pc := 51) X dX7_endOperators_51
      · rw [if_neg hb5] at hm
        refine iv_iload_n (pc := 25) X dX7_endOperators_25 rfl ?_
        refine iv_iconst (pc := 26) X dX7_endOperators_26 ic_3 ?_
        refine iv_icmp_eq (pc := 27) X dX7_endOperators_27 (tgt := 34) rfl (fun hb12 => ?_) (fun hb12 => ?_)
        · rw [if_pos hb12] at hm
          refine iv_iconst (pc := 34) X dX7_endOperators_34 ic_0 ?_
          refine iv_istore (pc := 35) X dX7_endOperators_35 (by decide) (lv' := [(4, .int 0), (3, .int r3), (0, .ref (ad 3)), (1, .int z1), (2, .int z2)]) rfl ?_
          refine iv_iload_n (pc := 37) X dX7_endOperators_37 rfl ?_
          refine iv_if_eq (pc := 38) X dX7_endOperators_38 (tgt := 51) rfl (fun hb13 => ?_) (fun hb13 => ?_)
          · rw [if_pos hb13] at hm
            cases hm
            exact is_vret (pc := 51) X dX7_endOperators_51
          · rw [if_neg hb13] at hm
            refine iv_iload_n (pc := 41) X dX7_endOperators_41 rfl ?_
            refine iv_iload_n (pc := 42) X dX7_endOperators_42 rfl ?_
            refine iv_icmp_gt (pc := 43) X dX7_endOperators_43 (tgt := 52) rfl (fun hb14 => ?_) (fun hb14 => ?_)
            · rw [if_pos hb14] at hm
              refine iv_aload_n (pc := 52) X dX7_endOperators_52 rfl ?_
              refine iv_iload_n (pc := 53) X dX7_endOperators_53 rfl ?_
              obtain ⟨⟨r16, S15⟩, hc17, hm⟩ := bd_some hm
              refine cV_X7_300_3 (pc := 54) X [.int r3] [] 1 rfl (f_X7_endOperator_e l g ad r3 S2 _ _ hc17) (by decide) (by decide) (Nat.le_of_ble_eq_true rfl) rfl dX7_endOperators_54 ?_
              refine iv_iinc (pc := 57) X dX7_endOperators_57 rfl (by decide) (v := z2 + (-1)) rfl (lv' := [(2, .int (z2 + (-1))), (4, .int 0), (3, .int r3), (0, .ref (ad 3)), (1, .int z1)]) rfl ?_
              refine iv_goto (pc := 60) X dX7_endOperators_60 (tgt := 8) rfl ?_
              refine iv_sub [3, 4, 0] (lv2 := [(0, .ref (ad 3)), (1, .int z1), (2, .int (z2 + (-1)))]) rfl ?_
              exact ih z1 (z2 + (-1)) S15 _ _ hm
            · rw [if_neg hb14] at hm
              refine iv_iload (pc := 46) X dX7_endOperators_46 rfl ?_
              refine iv_if_ne (pc := 48) X dX7_endOperators_48 (tgt := 52) rfl (fun hb => absurd hb (by decide)) (fun _ => ?_)
              cases hm
              exact is_vret (pc := 51) X dX7_endOperators_51
        · rw [if_neg hb12] at hm
          refine iv_iconst (pc := 30) X dX7_endOperators_30 ic_1 ?_
          refine iv_goto (pc := 31) X dX7_endOperators_31 (tgt := 35) rfl ?_
          refine iv_istore (pc := 35) X dX7_endOperators_35 (by decide) (lv' := [(4, .int 1), (3, .int r3), (0, .ref (ad 3)), (1, .int z1), (2, .int z2)]) rfl ?_
          refine iv_iload_n (pc := 37) X dX7_endOperators_37 rfl ?_
          refine iv_if_eq (pc := 38) X dX7_endOperators_38 (tgt := 51) rfl (fun hb19 => ?_) (fun hb19 => ?_)
          · rw [if_pos hb19] at hm
            cases hm
            exact is_vret (pc := 51) X dX7_endOperators_51
          · rw [if_neg hb19] at hm
            refine iv_iload_n (pc := 41) X dX7_endOperators_41 rfl ?_
            refine iv_iload_n (pc := 42) X dX7_endOperators_42 rfl ?_
            refine iv_icmp_gt (pc := 43) X dX7_endOperators_43 (tgt := 52) rfl (fun hb20 => ?_) (fun hb20 => ?_)
            · rw [if_pos hb20] at hm
              refine iv_aload_n (pc := 52) X dX7_endOperators_52 rfl ?_
              refine iv_iload_n (pc := 53) X dX7_endOperators_53 rfl ?_
              obtain ⟨⟨r22, S21⟩, hc23, hm⟩ := bd_some hm
              refine cV_X7_300_3 (pc := 54) X [.int r3] [] 1 rfl (f_X7_endOperator_e l g ad r3 S2 _ _ hc23) (by decide) (by decide) (Nat.le_of_ble_eq_true rfl) rfl dX7_endOperators_54 ?_
              refine iv_iinc (pc := 57) X dX7_endOperators_57 rfl (by decide) (v := z2 + (-1)) rfl (lv' := [(2, .int (z2 + (-1))), (4, .int 1), (3, .int r3), (0, .ref (ad 3)), (1, .int z1)]) rfl ?_
              refine iv_goto (pc := 60) X dX7_endOperators_60 (tgt := 8) rfl ?_
              refine iv_sub [3, 4, 0] (lv2 := [(0, .ref (ad 3)), (1, .int z1), (2, .int (z2 + (-1)))]) rfl ?_
              exact ih z1 (z2 + (-1)) S21 _ _ hm
            · rw [if_neg hb20] at hm
              refine iv_iload (pc := 46) X dX7_endOperators_46 rfl ?_
              refine iv_if_ne (pc := 48) X dX7_endOperators_48 (tgt := 52) rfl (fun _ => ?_) (fun hb => absurd (by decide) hb)
              refine iv_aload_n (pc := 52) X dX7_endOperators_52 rfl ?_
              refine iv_iload_n (pc := 53) X dX7_endOperators_53 rfl ?_
              obtain ⟨⟨r26, S25⟩, hc27, hm⟩ := bd_some hm
              refine cV_X7_300_3 (pc := 54) X [.int r3] [] 1 rfl (f_X7_endOperator_e l g ad r3 S2 _ _ hc27) (by decide) (by decide) (Nat.le_of_ble_eq_true rfl) rfl dX7_endOperators_54 ?_
              refine iv_iinc (pc := 57) X dX7_endOperators_57 rfl (by decide) (v := z2 + (-1)) rfl (lv' := [(2, .int (z2 + (-1))), (4, .int 1), (3, .int r3), (0, .ref (ad 3)), (1, .int z1)]) rfl ?_
              refine iv_goto (pc := 60) X dX7_endOperators_60 (tgt := 8) rfl ?_
              refine iv_sub [3, 4, 0] (lv2 := [(0, .ref (ad 3)), (1, .int z1), (2, .int (z2 + (-1)))]) rfl ?_
              exact ih z1 (z2 + (-1)) S25 _ _ hm
def f_X7_endOperators (fu : Nat) (x1 : Int32) (S : im_S) : Option (Unit × im_S) := f_X7_endOperators_L8 fu fu x1 (S.1 34 3) S
set_option maxHeartbeats 4000000 in
set_option maxRecDepth 100000 in
theorem f_X7_endOperators_e (l : Launch) (g : im_G) (ad : Nat → Nat) (fu : Nat) (x1 : Int32) (S : im_S) (r : Unit) (S' : im_S) (hm : f_X7_endOperators fu x1 S = some (r, S')) : im_E l g ad 3 yX7_endOperators cX7_endOperators 5 none [.ref (ad 3), .int x1] S none S' := by
  unfold f_X7_endOperators at hm
  refine is_met (own := RX7) (by decide +kernel) rfl (Nat.le_of_ble_eq_true rfl) (fun p e s m below meth c X => ?_)
  refine iv_aload_n (pc := 0) X dX7_endOperators_0 rfl ?_
  refine gF_X7_35_3 (pc := 1) X dX7_endOperators_1 ?_
  refine gF_X7_112_34 (pc := 4) X dX7_endOperators_4 (x := S.1 34 3) rfl ?_
  refine iv_istore_n (pc := 7) X dX7_endOperators_7 (by decide) (lv' := [(2, .int (S.1 34 3)), (0, .ref (ad 3)), (1, .int x1)]) rfl ?_
  refine iv_sub [1, 2, 0] (lv2 := [(0, .ref (ad 3)), (1, .int x1), (2, .int (S.1 34 3))]) rfl ?_
  exact f_X7_endOperators_L8_w (fu := fu) l g ad X fu x1 (S.1 34 3) S _ _ hm
def f_X7_endFirstValue (fu : Nat) (x1 : Int32) (S : im_S) : Option (Int32 × im_S) := (f_X6_pop S).bind (fun qS1 => gd (in_b qS1.1 512) (gd (in_b qS1.1 512) ((f_X3_connect (qS1.2.1 3 8) 4 ((qS1.2.1 10) qS1.1.toNatClampNeg) qS1.1 (uI (uI qS1.2 3 10 ((qS1.2.1 10) qS1.1.toNatClampNeg)) 12 qS1.1.toNatClampNeg (qS1.2.1 3 8))).bind (fun qS4 => gd (in_b qS1.1 512) ((f_X7_checkType (qS4.2.1 3 8) ((qS4.2.1 8) qS1.1.toNatClampNeg) qS4.2).bind (fun qS7 => if (x1 : Int32) ≠ 44 then ((f_X7_take 10 qS7.2).bind (fun qS11 => if (qS11.1 : Int32) = 0 then (some (0, qS11.2)) else ((f_X7_openWhilePart fu qS11.2).bind (fun qS15 => if (qS15.1 : Int32) = 0 then (some (0, qS15.2)) else (some (1, qS15.2)))))) else (some (1, (uI (uI qS7.2 3 6 ((qS7.2.1 3 6) + 1)) 3 7 3)))))))))
set_option maxHeartbeats 4000000 in
set_option maxRecDepth 100000 in
theorem f_X7_endFirstValue_e (l : Launch) (g : im_G) (ad : Nat → Nat) (fu : Nat) (x1 : Int32) (S : im_S) (r : Int32) (S' : im_S) (hm : f_X7_endFirstValue fu x1 S = some (r, S')) : im_E l g ad 2 yX7_endFirstValue cX7_endFirstValue 3 (some Jvm.ClassFile.FieldType.boolean) [.ref (ad 3), .int x1] S (some (.int r)) S' := by
  unfold f_X7_endFirstValue at hm
  refine is_met (own := RX7) (by decide +kernel) rfl (Nat.le_of_ble_eq_true rfl) (fun p e s m below meth c X => ?_)
  refine iv_aload_n (pc := 0) X dX7_endFirstValue_0 rfl ?_
  refine gF_X7_35_3 (pc := 1) X dX7_endFirstValue_1 ?_
  obtain ⟨⟨r2, S1⟩, hc3, hm⟩ := bd_some hm
  refine cV_X7_303_34 (pc := 4) X [] [] 0 rfl (f_X6_pop_e l g ad  S _ _ hc3) (by decide) (by decide) (Nat.le_of_ble_eq_true rfl) rfl dX7_endFirstValue_4 ?_
  refine iv_istore_n (pc := 7) X dX7_endFirstValue_7 (by decide) (lv' := [(2, .int r2), (0, .ref (ad 3)), (1, .int x1)]) rfl ?_
  refine iv_aload_n (pc := 8) X dX7_endFirstValue_8 rfl ?_
  refine iv_aload_n (pc := 9) X dX7_endFirstValue_9 rfl ?_
  refine gF_X7_21_3 (pc := 10) X dX7_endFirstValue_10 ?_
  refine gF_X7_236_6 (pc := 13) X dX7_endFirstValue_13 ?_
  refine iv_iload_n (pc := 16) X dX7_endFirstValue_16 rfl ?_
  obtain ⟨hg, hm⟩ := gd_some hm
  refine aL_10 (pc := 17) X dX7_endFirstValue_17 hg (x := (S1.1 10) r2.toNatClampNeg) rfl ?_
  refine pF_X7_246_3 (pc := 18) X dX7_endFirstValue_18 ?_
  refine iv_aload_n (pc := 21) X dX7_endFirstValue_21 rfl ?_
  refine gF_X7_21_3 (pc := 22) X dX7_endFirstValue_22 ?_
  refine gF_X7_209_6 (pc := 25) X dX7_endFirstValue_25 ?_
  refine iv_iload_n (pc := 28) X dX7_endFirstValue_28 rfl ?_
  refine iv_aload_n (pc := 29) X dX7_endFirstValue_29 rfl ?_
  refine gF_X7_193_3 (pc := 30) X dX7_endFirstValue_30 (x := S1.1 3 8) rfl ?_
  obtain ⟨hg, hm⟩ := gd_some hm
  refine aS_12 (pc := 33) X dX7_endFirstValue_33 hg ?_
  refine iv_aload_n (pc := 34) X dX7_endFirstValue_34 rfl ?_
  refine gF_X7_21_3 (pc := 35) X dX7_endFirstValue_35 ?_
  refine iv_aload_n (pc := 38) X dX7_endFirstValue_38 rfl ?_
  refine gF_X7_193_3 (pc := 39) X dX7_endFirstValue_39 (x := S1.1 3 8) rfl ?_
  refine iv_iconst (pc := 42) X dX7_endFirstValue_42 ic_4 ?_
  refine iv_aload_n (pc := 43) X dX7_endFirstValue_43 rfl ?_
  refine gF_X7_246_3 (pc := 44) X dX7_endFirstValue_44 (x := (S1.1 10) r2.toNatClampNeg) rfl ?_
  refine iv_iload_n (pc := 47) X dX7_endFirstValue_47 rfl ?_
  obtain ⟨⟨r5, S4⟩, hc6, hm⟩ := bd_some hm
  refine cV_X7_296_6 (pc := 48) X [.int (S1.1 3 8), .int 4, .int ((S1.1 10) r2.toNatClampNeg), .int r2] [] 4 rfl (f_X3_connect_e l g ad (S1.1 3 8) 4 ((S1.1 10) r2.toNatClampNeg) r2 (uI (uI S1 3 10 ((S1.1 10) r2.toNatClampNeg)) 12 r2.toNatClampNeg (S1.1 3 8)) _ _ hc6) (by decide) (by decide) (Nat.le_of_ble_eq_true rfl) rfl dX7_endFirstValue_48 ?_
  refine iv_aload_n (pc := 51) X dX7_endFirstValue_51 rfl ?_
  refine iv_aload_n (pc := 52) X dX7_endFirstValue_52 rfl ?_
  refine gF_X7_193_3 (pc := 53) X dX7_endFirstValue_53 (x := S4.1 3 8) rfl ?_
  refine iv_aload_n (pc := 56) X dX7_endFirstValue_56 rfl ?_
  refine gF_X7_21_3 (pc := 57) X dX7_endFirstValue_57 ?_
  refine gF_X7_262_6 (pc := 60) X dX7_endFirstValue_60 ?_
  refine iv_iload_n (pc := 63) X dX7_endFirstValue_63 rfl ?_
  obtain ⟨hg, hm⟩ := gd_some hm
  refine aL_8 (pc := 64) X dX7_endFirstValue_64 hg (x := (S4.1 8) r2.toNatClampNeg) rfl ?_
  obtain ⟨⟨r8, S7⟩, hc9, hm⟩ := bd_some hm
  refine cV_X7_226_3 (pc := 65) X [.int (S4.1 3 8), .int ((S4.1 8) r2.toNatClampNeg)] [] 2 rfl (f_X7_checkType_e l g ad (S4.1 3 8) ((S4.1 8) r2.toNatClampNeg) S4 _ _ hc9) (by decide) (by decide) (Nat.le_of_ble_eq_true rfl) rfl dX7_endFirstValue_65 ?_
  refine iv_iload_n (pc := 68) X dX7_endFirstValue_68 rfl ?_
  refine iv_bipush (pc := 69) X dX7_endFirstValue_69 bc_44 ?_
  refine iv_icmp_ne (pc := 71) X dX7_endFirstValue_71 (tgt := 91) rfl (fun hb10 => ?_) (fun hb10 => ?_)
  · rw [if_pos hb10] at hm
    refine iv_aload_n (pc := 91) X dX7_endFirstValue_91 rfl ?_
    refine iv_bipush (pc := 92) X dX7_endFirstValue_92 bc_10 ?_
    obtain ⟨⟨r12, S11⟩, hc13, hm⟩ := bd_some hm
    refine cV_X7_125_3 (pc := 94) X [.int 10] [] 1 rfl (f_X7_take_e l g ad 10 S7 _ _ hc13) (by decide) (by decide) (Nat.le_of_ble_eq_true rfl) rfl dX7_endFirstValue_94 ?_
    refine iv_if_eq (pc := 97) X dX7_endFirstValue_97 (tgt := 111) rfl (fun hb14 => ?_) (fun hb14 => ?_)
    · rw [if_pos hb14] at hm
      refine iv_iconst (pc := 111) X dX7_endFirstValue_111 ic_0 ?_
      cases hm
      exact is_zret (pc := 112) X dX7_endFirstValue_112 rfl
    · rw [if_neg hb14] at hm
      refine iv_aload_n (pc := 100) X dX7_endFirstValue_100 rfl ?_
      obtain ⟨⟨r16, S15⟩, hc17, hm⟩ := bd_some hm
      refine cV_X7_348_3 (pc := 101) X [] [] 0 rfl (f_X7_openWhilePart_e l g ad fu  S11 _ _ hc17) (by decide) (by decide) (Nat.le_of_ble_eq_true rfl) rfl dX7_endFirstValue_101 ?_
      refine iv_if_eq (pc := 104) X dX7_endFirstValue_104 (tgt := 111) rfl (fun hb18 => ?_) (fun hb18 => ?_)
      · rw [if_pos hb18] at hm
        refine iv_iconst (pc := 111) X dX7_endFirstValue_111 ic_0 ?_
        cases hm
        exact is_zret (pc := 112) X dX7_endFirstValue_112 rfl
      · rw [if_neg hb18] at hm
        refine iv_iconst (pc := 107) X dX7_endFirstValue_107 ic_1 ?_
        refine iv_goto (pc := 108) X dX7_endFirstValue_108 (tgt := 112) rfl ?_
        cases hm
        exact is_zret (pc := 112) X dX7_endFirstValue_112 rfl
  · rw [if_neg hb10] at hm
    refine iv_aload_n (pc := 74) X dX7_endFirstValue_74 rfl ?_
    refine iv_dup (pc := 75) X dX7_endFirstValue_75 rfl ?_
    refine gF_X7_51_3 (pc := 76) X dX7_endFirstValue_76 (x := S7.1 3 6) rfl ?_
    refine iv_iconst (pc := 79) X dX7_endFirstValue_79 ic_1 ?_
    refine iv_iadd (pc := 80) X dX7_endFirstValue_80 ?_
    refine pF_X7_51_3 (pc := 81) X dX7_endFirstValue_81 ?_
    refine iv_aload_n (pc := 84) X dX7_endFirstValue_84 rfl ?_
    refine iv_iconst (pc := 85) X dX7_endFirstValue_85 ic_3 ?_
    refine pF_X7_122_3 (pc := 86) X dX7_endFirstValue_86 ?_
    refine iv_iconst (pc := 89) X dX7_endFirstValue_89 ic_1 ?_
    cases hm
    exact is_zret (pc := 90) X dX7_endFirstValue_90 rfl
def f_X7_endNextValue (fu : Nat) (x1 : Int32) (S : im_S) : Option (Int32 × im_S) := (f_X6_pop S).bind (fun qS1 => gd (in_b qS1.1 512) ((f_X3_connect (qS1.2.1 3 8) 6 ((qS1.2.1 10) qS1.1.toNatClampNeg) qS1.1 (uI qS1.2 3 10 ((qS1.2.1 10) qS1.1.toNatClampNeg))).bind (fun qS4 => gd (in_b qS1.1 512) ((f_X7_checkType (qS4.2.1 3 8) ((qS4.2.1 8) qS1.1.toNatClampNeg) qS4.2).bind (fun qS7 => if (x1 : Int32) ≠ 44 then ((f_X7_take 12 qS7.2).bind (fun qS11 => if (qS11.1 : Int32) = 0 then (some (0, qS11.2)) else ((f_X7_openGivePart fu qS11.2).bind (fun qS15 => if (qS15.1 : Int32) = 0 then (some (0, qS15.2)) else (some (1, qS15.2)))))) else (some (1, (uI (uI qS7.2 3 6 ((qS7.2.1 3 6) + 1)) 3 7 4))))))))
set_option maxHeartbeats 4000000 in
set_option maxRecDepth 100000 in
theorem f_X7_endNextValue_e (l : Launch) (g : im_G) (ad : Nat → Nat) (fu : Nat) (x1 : Int32) (S : im_S) (r : Int32) (S' : im_S) (hm : f_X7_endNextValue fu x1 S = some (r, S')) : im_E l g ad 2 yX7_endNextValue cX7_endNextValue 3 (some Jvm.ClassFile.FieldType.boolean) [.ref (ad 3), .int x1] S (some (.int r)) S' := by
  unfold f_X7_endNextValue at hm
  refine is_met (own := RX7) (by decide +kernel) rfl (Nat.le_of_ble_eq_true rfl) (fun p e s m below meth c X => ?_)
  refine iv_aload_n (pc := 0) X dX7_endNextValue_0 rfl ?_
  refine gF_X7_35_3 (pc := 1) X dX7_endNextValue_1 ?_
  obtain ⟨⟨r2, S1⟩, hc3, hm⟩ := bd_some hm
  refine cV_X7_303_34 (pc := 4) X [] [] 0 rfl (f_X6_pop_e l g ad  S _ _ hc3) (by decide) (by decide) (Nat.le_of_ble_eq_true rfl) rfl dX7_endNextValue_4 ?_
  refine iv_istore_n (pc := 7) X dX7_endNextValue_7 (by decide) (lv' := [(2, .int r2), (0, .ref (ad 3)), (1, .int x1)]) rfl ?_
  refine iv_aload_n (pc := 8) X dX7_endNextValue_8 rfl ?_
  refine iv_aload_n (pc := 9) X dX7_endNextValue_9 rfl ?_
  refine gF_X7_21_3 (pc := 10) X dX7_endNextValue_10 ?_
  refine gF_X7_236_6 (pc := 13) X dX7_endNextValue_13 ?_
  refine iv_iload_n (pc := 16) X dX7_endNextValue_16 rfl ?_
  obtain ⟨hg, hm⟩ := gd_some hm
  refine aL_10 (pc := 17) X dX7_endNextValue_17 hg (x := (S1.1 10) r2.toNatClampNeg) rfl ?_
  refine pF_X7_246_3 (pc := 18) X dX7_endNextValue_18 ?_
  refine iv_aload_n (pc := 21) X dX7_endNextValue_21 rfl ?_
  refine gF_X7_21_3 (pc := 22) X dX7_endNextValue_22 ?_
  refine iv_aload_n (pc := 25) X dX7_endNextValue_25 rfl ?_
  refine gF_X7_193_3 (pc := 26) X dX7_endNextValue_26 (x := S1.1 3 8) rfl ?_
  refine iv_bipush (pc := 29) X dX7_endNextValue_29 bc_6 ?_
  refine iv_aload_n (pc := 31) X dX7_endNextValue_31 rfl ?_
  refine gF_X7_246_3 (pc := 32) X dX7_endNextValue_32 (x := (S1.1 10) r2.toNatClampNeg) rfl ?_
  refine iv_iload_n (pc := 35) X dX7_endNextValue_35 rfl ?_
  obtain ⟨⟨r5, S4⟩, hc6, hm⟩ := bd_some hm
  refine cV_X7_296_6 (pc := 36) X [.int (S1.1 3 8), .int 6, .int ((S1.1 10) r2.toNatClampNeg), .int r2] [] 4 rfl (f_X3_connect_e l g ad (S1.1 3 8) 6 ((S1.1 10) r2.toNatClampNeg) r2 (uI S1 3 10 ((S1.1 10) r2.toNatClampNeg)) _ _ hc6) (by decide) (by decide) (Nat.le_of_ble_eq_true rfl) rfl dX7_endNextValue_36 ?_
  refine iv_aload_n (pc := 39) X dX7_endNextValue_39 rfl ?_
  refine iv_aload_n (pc := 40) X dX7_endNextValue_40 rfl ?_
  refine gF_X7_193_3 (pc := 41) X dX7_endNextValue_41 (x := S4.1 3 8) rfl ?_
  refine iv_aload_n (pc := 44) X dX7_endNextValue_44 rfl ?_
  refine gF_X7_21_3 (pc := 45) X dX7_endNextValue_45 ?_
  refine gF_X7_262_6 (pc := 48) X dX7_endNextValue_48 ?_
  refine iv_iload_n (pc := 51) X dX7_endNextValue_51 rfl ?_
  obtain ⟨hg, hm⟩ := gd_some hm
  refine aL_8 (pc := 52) X dX7_endNextValue_52 hg (x := (S4.1 8) r2.toNatClampNeg) rfl ?_
  obtain ⟨⟨r8, S7⟩, hc9, hm⟩ := bd_some hm
  refine cV_X7_226_3 (pc := 53) X [.int (S4.1 3 8), .int ((S4.1 8) r2.toNatClampNeg)] [] 2 rfl (f_X7_checkType_e l g ad (S4.1 3 8) ((S4.1 8) r2.toNatClampNeg) S4 _ _ hc9) (by decide) (by decide) (Nat.le_of_ble_eq_true rfl) rfl dX7_endNextValue_53 ?_
  refine iv_iload_n (pc := 56) X dX7_endNextValue_56 rfl ?_
  refine iv_bipush (pc := 57) X dX7_endNextValue_57 bc_44 ?_
  refine iv_icmp_ne (pc := 59) X dX7_endNextValue_59 (tgt := 79) rfl (fun hb10 => ?_) (fun hb10 => ?_)
  · rw [if_pos hb10] at hm
    refine iv_aload_n (pc := 79) X dX7_endNextValue_79 rfl ?_
    refine iv_bipush (pc := 80) X dX7_endNextValue_80 bc_12 ?_
    obtain ⟨⟨r12, S11⟩, hc13, hm⟩ := bd_some hm
    refine cV_X7_125_3 (pc := 82) X [.int 12] [] 1 rfl (f_X7_take_e l g ad 12 S7 _ _ hc13) (by decide) (by decide) (Nat.le_of_ble_eq_true rfl) rfl dX7_endNextValue_82 ?_
    refine iv_if_eq (pc := 85) X dX7_endNextValue_85 (tgt := 99) rfl (fun hb14 => ?_) (fun hb14 => ?_)
    · rw [if_pos hb14] at hm
      refine iv_iconst (pc := 99) X dX7_endNextValue_99 ic_0 ?_
      cases hm
      exact is_zret (pc := 100) X dX7_endNextValue_100 rfl
    · rw [if_neg hb14] at hm
      refine iv_aload_n (pc := 88) X dX7_endNextValue_88 rfl ?_
      obtain ⟨⟨r16, S15⟩, hc17, hm⟩ := bd_some hm
      refine cV_X7_351_3 (pc := 89) X [] [] 0 rfl (f_X7_openGivePart_e l g ad fu  S11 _ _ hc17) (by decide) (by decide) (Nat.le_of_ble_eq_true rfl) rfl dX7_endNextValue_89 ?_
      refine iv_if_eq (pc := 92) X dX7_endNextValue_92 (tgt := 99) rfl (fun hb18 => ?_) (fun hb18 => ?_)
      · rw [if_pos hb18] at hm
        refine iv_iconst (pc := 99) X dX7_endNextValue_99 ic_0 ?_
        cases hm
        exact is_zret (pc := 100) X dX7_endNextValue_100 rfl
      · rw [if_neg hb18] at hm
        refine iv_iconst (pc := 95) X dX7_endNextValue_95 ic_1 ?_
        refine iv_goto (pc := 96) X dX7_endNextValue_96 (tgt := 100) rfl ?_
        cases hm
        exact is_zret (pc := 100) X dX7_endNextValue_100 rfl
  · rw [if_neg hb10] at hm
    refine iv_aload_n (pc := 62) X dX7_endNextValue_62 rfl ?_
    refine iv_dup (pc := 63) X dX7_endNextValue_63 rfl ?_
    refine gF_X7_51_3 (pc := 64) X dX7_endNextValue_64 (x := S7.1 3 6) rfl ?_
    refine iv_iconst (pc := 67) X dX7_endNextValue_67 ic_1 ?_
    refine iv_iadd (pc := 68) X dX7_endNextValue_68 ?_
    refine pF_X7_51_3 (pc := 69) X dX7_endNextValue_69 ?_
    refine iv_aload_n (pc := 72) X dX7_endNextValue_72 rfl ?_
    refine iv_iconst (pc := 73) X dX7_endNextValue_73 ic_4 ?_
    refine pF_X7_122_3 (pc := 74) X dX7_endNextValue_74 ?_
    refine iv_iconst (pc := 77) X dX7_endNextValue_77 ic_1 ?_
    cases hm
    exact is_zret (pc := 78) X dX7_endNextValue_78 rfl
def f_X7_linkCalls_L2 (fu : Nat) : Nat → Int32 → im_S → Option (Unit × im_S)
  | 0, _, _ => none
  | nf + 1, z1, S => if (S.1 6 16 : Int32) ≤ z1 then (some ((), S)) else (gd (in_b z1 512) (if ((S.1 7) z1.toNatClampNeg : Int32) ≠ 8 then (f_X7_linkCalls_L2 fu nf (z1 + 1) S) else ((f_X7_linkCall fu z1 S).bind (fun qS3 => f_X7_linkCalls_L2 fu nf (z1 + 1) qS3.2))))
set_option maxHeartbeats 4000000 in
set_option maxRecDepth 100000 in
theorem f_X7_linkCalls_L2_w {fu : Nat} (l : Launch) (g : im_G) (ad : Nat → Nat) {p : Program} {e : Env} {s : State} {m : MethodId} {below : List Frame} {meth : Method} {c : Code} {args : Array Value} (X : im_X p l s m args meth c g cX7_linkCalls 2 RX7 none) : ∀ (nf : Nat) (z1 : Int32) (S : im_S) (r : Unit) (S' : im_S), f_X7_linkCalls_L2 fu nf z1 S = some (r, S') → im_V p l e (im_R 3 0 0) s m args below meth c g 2 (im_Z below g ad args s none S') ad im_N (im_cn g ad S) 0 0 2 [(0, .ref (ad 3)), (1, .int z1)] [] := by
  intro nf
  induction nf with
  | zero =>
    intro z1 S r S' hm
    cases hm
  | succ nf ih =>
    intro z1 S r S' hm
    unfold f_X7_linkCalls_L2 at hm
    refine iv_iload_n (pc := 2) X dX7_linkCalls_2 rfl ?_
    refine iv_aload_n (pc := 3) X dX7_linkCalls_3 rfl ?_
    refine gF_X7_21_3 (pc := 4) X dX7_linkCalls_4 ?_
    refine gF_X7_357_6 (pc := 7) X dX7_linkCalls_7 (x := S.1 6 16) rfl ?_
    refine iv_icmp_ge (pc := 10) X dX7_linkCalls_10 (tgt := 38) rfl (fun hb1 => ?_) (fun hb1 => ?_)
    · rw [if_pos hb1] at hm
      cases hm
      exact is_vret (pc := 38) X dX7_linkCalls_38
    · rw [if_neg hb1] at hm
      refine iv_aload_n (pc := 13) X dX7_linkCalls_13 rfl ?_
      refine gF_X7_21_3 (pc := 14) X dX7_linkCalls_14 ?_
      refine gF_X7_360_6 (pc := 17) X dX7_linkCalls_17 ?_
      refine iv_iload_n (pc := 20) X dX7_linkCalls_20 rfl ?_
      obtain ⟨hg, hm⟩ := gd_some hm
      refine aL_7 (pc := 21) X dX7_linkCalls_21 hg (x := (S.1 7) z1.toNatClampNeg) rfl ?_
      refine iv_bipush (pc := 22) X dX7_linkCalls_22 bc_8 ?_
      refine iv_icmp_ne (pc := 24) X dX7_linkCalls_24 (tgt := 32) rfl (fun hb2 => ?_) (fun hb2 => ?_)
      · rw [if_pos hb2] at hm
        refine iv_iinc (pc := 32) X dX7_linkCalls_32 rfl (by decide) (v := z1 + 1) rfl (lv' := [(1, .int (z1 + 1)), (0, .ref (ad 3))]) rfl ?_
        refine iv_goto (pc := 35) X dX7_linkCalls_35 (tgt := 2) rfl ?_
        refine iv_sub [1, 0] (lv2 := [(0, .ref (ad 3)), (1, .int (z1 + 1))]) rfl ?_
        exact ih (z1 + 1) S _ _ hm
      · rw [if_neg hb2] at hm
        refine iv_aload_n (pc := 27) X dX7_linkCalls_27 rfl ?_
        refine iv_iload_n (pc := 28) X dX7_linkCalls_28 rfl ?_
        obtain ⟨⟨r4, S3⟩, hc5, hm⟩ := bd_some hm
        refine cV_X7_361_3 (pc := 29) X [.int z1] [] 1 rfl (f_X7_linkCall_e l g ad fu z1 S _ _ hc5) (by decide) (by decide) (Nat.le_of_ble_eq_true rfl) rfl dX7_linkCalls_29 ?_
        refine iv_iinc (pc := 32) X dX7_linkCalls_32 rfl (by decide) (v := z1 + 1) rfl (lv' := [(1, .int (z1 + 1)), (0, .ref (ad 3))]) rfl ?_
        refine iv_goto (pc := 35) X dX7_linkCalls_35 (tgt := 2) rfl ?_
        refine iv_sub [1, 0] (lv2 := [(0, .ref (ad 3)), (1, .int (z1 + 1))]) rfl ?_
        exact ih (z1 + 1) S3 _ _ hm
def f_X7_linkCalls (fu : Nat) (S : im_S) : Option (Unit × im_S) := f_X7_linkCalls_L2 fu fu 0 S
set_option maxHeartbeats 4000000 in
set_option maxRecDepth 100000 in
theorem f_X7_linkCalls_e (l : Launch) (g : im_G) (ad : Nat → Nat) (fu : Nat) (S : im_S) (r : Unit) (S' : im_S) (hm : f_X7_linkCalls fu  S = some (r, S')) : im_E l g ad 3 yX7_linkCalls cX7_linkCalls 2 none [.ref (ad 3)] S none S' := by
  unfold f_X7_linkCalls at hm
  refine is_met (own := RX7) (by decide +kernel) rfl (Nat.le_of_ble_eq_true rfl) (fun p e s m below meth c X => ?_)
  refine iv_iconst (pc := 0) X dX7_linkCalls_0 ic_0 ?_
  refine iv_istore_n (pc := 1) X dX7_linkCalls_1 (by decide) (lv' := [(1, .int 0), (0, .ref (ad 3))]) rfl ?_
  refine iv_sub [1, 0] (lv2 := [(0, .ref (ad 3)), (1, .int 0)]) rfl ?_
  exact f_X7_linkCalls_L2_w (fu := fu) l g ad X fu 0 S _ _ hm
def f_X7_parameters_L17 (fu : Nat) : Nat → Int32 → Int32 → Int32 → im_S → Option (Int32 × im_S)
  | 0, _, _, _, _ => none
  | nf + 1, z1, z2, z3, S => if (4 : Int32) < z3 then (some (1, S)) else (if (z2 : Int32) = 0 then (some (1, S)) else ((f_X7_kindHere S).bind (fun qS3 => if (qS3.1 : Int32) ≠ 1 then ((f_X7_refuse qS3.2).bind (fun qS7 => gd (z_b qS7.1) (some (qS7.1, qS7.2)))) else (if (z3 : Int32) ≠ 4 then ((f_X7_bindHere fu qS3.2).bind (fun qS11 => gd (in_b z1 8) ((f_X3_append fu ((qS11.2.1 25) z1.toNatClampNeg) qS11.1 qS11.2).bind (fun qS14 => gd (in_b z1 8) ((f_X7_know qS11.1 (uI qS14.2 25 z1.toNatClampNeg qS14.1)).bind (fun qS17 => (f_X7_kindHere qS17.2).bind (fun qS20 => if (qS20.1 : Int32) ≠ 44 then (f_X7_parameters_L17 fu nf z1 0 (z3 + 1) qS20.2) else (f_X7_parameters_L17 fu nf z1 1 (z3 + 1) (uI qS20.2 3 6 ((qS20.2.1 3 6) + 1)))))))))) else ((f_X7_refuse qS3.2).bind (fun qS26 => gd (z_b qS26.1) (some (qS26.1, qS26.2))))))))
set_option maxHeartbeats 4000000 in
set_option maxRecDepth 100000 in
theorem f_X7_parameters_L17_w {fu : Nat} (l : Launch) (g : im_G) (ad : Nat → Nat) {p : Program} {e : Env} {s : State} {m : MethodId} {below : List Frame} {meth : Method} {c : Code} {args : Array Value} (X : im_X p l s m args meth c g cX7_parameters 5 RX7 (some Jvm.ClassFile.FieldType.boolean)) : ∀ (nf : Nat) (z1 : Int32) (z2 : Int32) (z3 : Int32) (S : im_S) (r : Int32) (S' : im_S), f_X7_parameters_L17 fu nf z1 z2 z3 S = some (r, S') → im_V p l e (im_R 3 0 0) s m args below meth c g 5 (im_Z below g ad args s (some (.int r)) S') ad im_N (im_cn g ad S) 0 0 17 [(0, .ref (ad 3)), (1, .int z1), (2, .int z2), (3, .int z3)] [] := by
  intro nf
  induction nf with
  | zero =>
    intro z1 z2 z3 S r S' hm
    cases hm
  | succ nf ih =>
    intro z1 z2 z3 S r S' hm
    unfold f_X7_parameters_L17 at hm
    refine iv_iload_n (pc := 17) X dX7_parameters_17 rfl ?_
    refine iv_iconst (pc := 18) X dX7_parameters_18 ic_4 ?_
    refine iv_icmp_gt (pc := 19) X dX7_parameters_19 (tgt := 124) rfl (fun hb1 => ?_) (fun hb1 => ?_)
    · rw [if_pos hb1] at hm
      refine iv_iconst (pc := 124) X dX7_parameters_124 ic_1 ?_
      cases hm
      exact is_zret (pc := 125) X dX7_parameters_125 rfl
    · rw [if_neg hb1] at hm
      refine iv_iload_n (pc := 22) X dX7_parameters_22 rfl ?_
      refine iv_if_eq (pc := 23) X dX7_parameters_23 (tgt := 124) rfl (fun hb2 => ?_) (fun hb2 => ?_)
      · rw [if_pos hb2] at hm
        refine iv_iconst (pc := 124) X dX7_parameters_124 ic_1 ?_
        cases hm
        exact is_zret (pc := 125) X dX7_parameters_125 rfl
      · rw [if_neg hb2] at hm
        refine iv_aload_n (pc := 26) X dX7_parameters_26 rfl ?_
        obtain ⟨⟨r4, S3⟩, hc5, hm⟩ := bd_some hm
        refine cV_X7_62_3 (pc := 27) X [] [] 0 rfl (f_X7_kindHere_e l g ad  S _ _ hc5) (by decide) (by decide) (Nat.le_of_ble_eq_true rfl) rfl dX7_parameters_27 ?_
        refine iv_iconst (pc := 30) X dX7_parameters_30 ic_1 ?_
        refine iv_icmp_ne (pc := 31) X dX7_parameters_31 (tgt := 39) rfl (fun hb6 => ?_) (fun hb6 => ?_)
        · rw [if_pos hb6] at hm
          refine iv_aload_n (pc := 39) X dX7_parameters_39 rfl ?_
          obtain ⟨⟨r8, S7⟩, hc9, hm⟩ := bd_some hm
          refine cV_X7_66_3 (pc := 40) X [] [] 0 rfl (f_X7_refuse_e l g ad  S3 _ _ hc9) (by decide) (by decide) (Nat.le_of_ble_eq_true rfl) rfl dX7_parameters_40 ?_
          obtain ⟨hg, hm⟩ := gd_some hm
          cases hm
          exact is_zret (pc := 43) X dX7_parameters_43 (z_b_n hg)
        · rw [if_neg hb6] at hm
          refine iv_iload_n (pc := 34) X dX7_parameters_34 rfl ?_
          refine iv_iconst (pc := 35) X dX7_parameters_35 ic_4 ?_
          refine iv_icmp_ne (pc := 36) X dX7_parameters_36 (tgt := 44) rfl (fun hb10 => ?_) (fun hb10 => ?_)
          · rw [if_pos hb10] at hm
            refine iv_aload_n (pc := 44) X dX7_parameters_44 rfl ?_
            obtain ⟨⟨r12, S11⟩, hc13, hm⟩ := bd_some hm
            refine cV_X7_132_3 (pc := 45) X [] [] 0 rfl (f_X7_bindHere_e l g ad fu  S3 _ _ hc13) (by decide) (by decide) (Nat.le_of_ble_eq_true rfl) rfl dX7_parameters_45 ?_
            refine iv_istore (pc := 48) X dX7_parameters_48 (by decide) (lv' := [(4, .int r12), (0, .ref (ad 3)), (1, .int z1), (2, .int z2), (3, .int z3)]) rfl ?_
            refine iv_aload_n (pc := 50) X dX7_parameters_50 rfl ?_
            refine gF_X7_21_3 (pc := 51) X dX7_parameters_51 ?_
            refine gF_X7_86_6 (pc := 54) X dX7_parameters_54 ?_
            refine gF_X7_135_22 (pc := 57) X dX7_parameters_57 ?_
            refine iv_iload_n (pc := 60) X dX7_parameters_60 rfl ?_
            refine iv_aload_n (pc := 61) X dX7_parameters_61 rfl ?_
            refine gF_X7_21_3 (pc := 62) X dX7_parameters_62 ?_
            refine iv_aload_n (pc := 65) X dX7_parameters_65 rfl ?_
            refine gF_X7_21_3 (pc := 66) X dX7_parameters_66 ?_
            refine gF_X7_86_6 (pc := 69) X dX7_parameters_69 ?_
            refine gF_X7_135_22 (pc := 72) X dX7_parameters_72 ?_
            refine iv_iload_n (pc := 75) X dX7_parameters_75 rfl ?_
            obtain ⟨hg, hm⟩ := gd_some hm
            refine aL_25 (pc := 76) X dX7_parameters_76 hg (x := (S11.1 25) z1.toNatClampNeg) rfl ?_
            refine iv_iload (pc := 77) X dX7_parameters_77 rfl ?_
            obtain ⟨⟨r15, S14⟩, hc16, hm⟩ := bd_some hm
            refine cV_X7_138_6 (pc := 79) X [.int ((S11.1 25) z1.toNatClampNeg), .int r12] [.int z1, .ref (ad 25)] 2 rfl (f_X3_append_e l g ad fu ((S11.1 25) z1.toNatClampNeg) r12 S11 _ _ hc16) (by decide) (by decide) (Nat.le_of_ble_eq_true rfl) rfl dX7_parameters_79 ?_
            obtain ⟨hg, hm⟩ := gd_some hm
            refine aS_25 (pc := 82) X dX7_parameters_82 hg ?_
            refine iv_aload_n (pc := 83) X dX7_parameters_83 rfl ?_
            refine iv_iload (pc := 84) X dX7_parameters_84 rfl ?_
            obtain ⟨⟨r18, S17⟩, hc19, hm⟩ := bd_some hm
            refine cV_X7_142_3 (pc := 86) X [.int r12] [] 1 rfl (f_X7_know_e l g ad r12 (uI S14 25 z1.toNatClampNeg r15) _ _ hc19) (by decide) (by decide) (Nat.le_of_ble_eq_true rfl) rfl dX7_parameters_86 ?_
            refine iv_aload_n (pc := 89) X dX7_parameters_89 rfl ?_
            obtain ⟨⟨r21, S20⟩, hc22, hm⟩ := bd_some hm
            refine cV_X7_62_3 (pc := 90) X [] [] 0 rfl (f_X7_kindHere_e l g ad  S17 _ _ hc22) (by decide) (by decide) (Nat.le_of_ble_eq_true rfl) rfl dX7_parameters_90 ?_
            refine iv_bipush (pc := 93) X dX7_parameters_93 bc_44 ?_
            refine iv_icmp_ne (pc := 95) X dX7_parameters_95 (tgt := 102) rfl (fun hb23 => ?_) (fun hb23 => ?_)
            · rw [if_pos hb23] at hm
              refine iv_iconst (pc := 102) X dX7_parameters_102 ic_0 ?_
              refine iv_istore_n (pc := 103) X dX7_parameters_103 (by decide) (lv' := [(2, .int 0), (4, .int r12), (0, .ref (ad 3)), (1, .int z1), (3, .int z3)]) rfl ?_
              refine iv_iload_n (pc := 104) X dX7_parameters_104 rfl ?_
              refine iv_if_eq (pc := 105) X dX7_parameters_105 (tgt := 118) rfl (fun _ => ?_) (fun hb => absurd (by decide) hb)
              refine iv_iinc (pc := 118) X dX7_parameters_118 rfl (by decide) (v := z3 + 1) rfl (lv' := [(3, .int (z3 + 1)), (2, .int 0), (4, .int r12), (0, .ref (ad 3)), (1, .int z1)]) rfl ?_
              refine iv_goto (pc := 121) X dX7_parameters_121 (tgt := 17) rfl ?_
              refine iv_sub [3, 4, 1, 0] (lv2 := [(0, .ref (ad 3)), (1, .int z1), (2, .int 0), (3, .int (z3 + 1))]) rfl ?_
              exact ih z1 0 (z3 + 1) S20 _ _ hm
            · rw [if_neg hb23] at hm
              refine iv_iconst (pc := 98) X dX7_parameters_98 ic_1 ?_
              refine iv_goto (pc := 99) X dX7_parameters_99 (tgt := 103) rfl ?_
              refine iv_istore_n (pc := 103) X dX7_parameters_103 (by decide) (lv' := [(2, .int 1), (4, .int r12), (0, .ref (ad 3)), (1, .int z1), (3, .int z3)]) rfl ?_
              refine iv_iload_n (pc := 104) X dX7_parameters_104 rfl ?_
              refine iv_if_eq (pc := 105) X dX7_parameters_105 (tgt := 118) rfl (fun hb => absurd hb (by decide)) (fun _ => ?_)
              refine iv_aload_n (pc := 108) X dX7_parameters_108 rfl ?_
              refine iv_dup (pc := 109) X dX7_parameters_109 rfl ?_
              refine gF_X7_51_3 (pc := 110) X dX7_parameters_110 (x := S20.1 3 6) rfl ?_
              refine iv_iconst (pc := 113) X dX7_parameters_113 ic_1 ?_
              refine iv_iadd (pc := 114) X dX7_parameters_114 ?_
              refine pF_X7_51_3 (pc := 115) X dX7_parameters_115 ?_
              refine iv_iinc (pc := 118) X dX7_parameters_118 rfl (by decide) (v := z3 + 1) rfl (lv' := [(3, .int (z3 + 1)), (2, .int 1), (4, .int r12), (0, .ref (ad 3)), (1, .int z1)]) rfl ?_
              refine iv_goto (pc := 121) X dX7_parameters_121 (tgt := 17) rfl ?_
              refine iv_sub [3, 4, 1, 0] (lv2 := [(0, .ref (ad 3)), (1, .int z1), (2, .int 1), (3, .int (z3 + 1))]) rfl ?_
              exact ih z1 1 (z3 + 1) (uI S20 3 6 ((S20.1 3 6) + 1)) _ _ hm
          · rw [if_neg hb10] at hm
            refine iv_aload_n (pc := 39) X dX7_parameters_39 rfl ?_
            obtain ⟨⟨r27, S26⟩, hc28, hm⟩ := bd_some hm
            refine cV_X7_66_3 (pc := 40) X [] [] 0 rfl (f_X7_refuse_e l g ad  S3 _ _ hc28) (by decide) (by decide) (Nat.le_of_ble_eq_true rfl) rfl dX7_parameters_40 ?_
            obtain ⟨hg, hm⟩ := gd_some hm
            cases hm
            exact is_zret (pc := 43) X dX7_parameters_43 (z_b_n hg)
def f_X7_parameters (fu : Nat) (x1 : Int32) (S : im_S) : Option (Int32 × im_S) := (f_X7_kindHere S).bind (fun qS1 => if (qS1.1 : Int32) = 41 then (f_X7_parameters_L17 fu fu x1 0 0 qS1.2) else (f_X7_parameters_L17 fu fu x1 1 0 qS1.2))
set_option maxHeartbeats 4000000 in
set_option maxRecDepth 100000 in
theorem f_X7_parameters_e (l : Launch) (g : im_G) (ad : Nat → Nat) (fu : Nat) (x1 : Int32) (S : im_S) (r : Int32) (S' : im_S) (hm : f_X7_parameters fu x1 S = some (r, S')) : im_E l g ad 3 yX7_parameters cX7_parameters 5 (some Jvm.ClassFile.FieldType.boolean) [.ref (ad 3), .int x1] S (some (.int r)) S' := by
  unfold f_X7_parameters at hm
  refine is_met (own := RX7) (by decide +kernel) rfl (Nat.le_of_ble_eq_true rfl) (fun p e s m below meth c X => ?_)
  refine iv_aload_n (pc := 0) X dX7_parameters_0 rfl ?_
  obtain ⟨⟨r2, S1⟩, hc3, hm⟩ := bd_some hm
  refine cV_X7_62_3 (pc := 1) X [] [] 0 rfl (f_X7_kindHere_e l g ad  S _ _ hc3) (by decide) (by decide) (Nat.le_of_ble_eq_true rfl) rfl dX7_parameters_1 ?_
  refine iv_bipush (pc := 4) X dX7_parameters_4 bc_41 ?_
  refine iv_icmp_eq (pc := 6) X dX7_parameters_6 (tgt := 13) rfl (fun hb4 => ?_) (fun hb4 => ?_)
  · rw [if_pos hb4] at hm
    refine iv_iconst (pc := 13) X dX7_parameters_13 ic_0 ?_
    refine iv_istore_n (pc := 14) X dX7_parameters_14 (by decide) (lv' := [(2, .int 0), (0, .ref (ad 3)), (1, .int x1)]) rfl ?_
    refine iv_iconst (pc := 15) X dX7_parameters_15 ic_0 ?_
    refine iv_istore_n (pc := 16) X dX7_parameters_16 (by decide) (lv' := [(3, .int 0), (2, .int 0), (0, .ref (ad 3)), (1, .int x1)]) rfl ?_
    refine iv_sub [2, 3, 1, 0] (lv2 := [(0, .ref (ad 3)), (1, .int x1), (2, .int 0), (3, .int 0)]) rfl ?_
    exact f_X7_parameters_L17_w (fu := fu) l g ad X fu x1 0 0 S1 _ _ hm
  · rw [if_neg hb4] at hm
    refine iv_iconst (pc := 9) X dX7_parameters_9 ic_1 ?_
    refine iv_goto (pc := 10) X dX7_parameters_10 (tgt := 14) rfl ?_
    refine iv_istore_n (pc := 14) X dX7_parameters_14 (by decide) (lv' := [(2, .int 1), (0, .ref (ad 3)), (1, .int x1)]) rfl ?_
    refine iv_iconst (pc := 15) X dX7_parameters_15 ic_0 ?_
    refine iv_istore_n (pc := 16) X dX7_parameters_16 (by decide) (lv' := [(3, .int 0), (2, .int 1), (0, .ref (ad 3)), (1, .int x1)]) rfl ?_
    refine iv_sub [2, 3, 1, 0] (lv2 := [(0, .ref (ad 3)), (1, .int x1), (2, .int 1), (3, .int 0)]) rfl ?_
    exact f_X7_parameters_L17_w (fu := fu) l g ad X fu x1 1 0 S1 _ _ hm
def f_X7_openTab (fu : Nat) (S : im_S) : Option (Int32 × im_S) := (f_X7_addHere 10 3 0 S).bind (fun qS1 => (f_X3_addInnerTemplate qS1.1 qS1.2).bind (fun qS4 => (f_X4_addRegion qS4.1 qS4.2).bind (fun qS7 => gd (in_b qS1.1 512) ((f_X7_kindHere (uI qS7.2 15 qS1.1.toNatClampNeg qS7.1)).bind (fun qS10 => if (qS10.1 : Int32) = 1 then ((f_X7_bindHere fu qS10.2).bind (fun qS14 => (f_X7_checkType qS14.1 3 qS14.2).bind (fun qS17 => gd (in_b qS1.1 512) ((f_X7_take 91 (uI qS17.2 13 qS1.1.toNatClampNeg qS14.1)).bind (fun qS20 => if (qS20.1 : Int32) = 0 then ((f_X7_refuse qS20.2).bind (fun qS24 => gd (z_b qS24.1) (some (qS24.1, qS24.2)))) else ((f_X7_kindHere qS20.2).bind (fun qS27 => if (qS27.1 : Int32) = 1 then (gd (in_b (qS27.2.1 3 6) 501) (gd (in_b qS14.1 512) (if (lg_cmp ((qS27.2.2.1 33) ((qS27.2.1 3 6).toNatClampNeg)) ((qS27.2.2.1 21) qS14.1.toNatClampNeg) : Int32) ≠ 0 then ((f_X7_bindHere fu qS27.2).bind (fun qS32 => (f_X7_checkType qS32.1 1 qS32.2).bind (fun qS35 => gd (in_b qS14.1 512) (gd (in_b qS32.1 512) (gd (in_b qS7.1 512) ((f_X3_moveTo qS14.1 ((qS35.2.1 27) qS7.1.toNatClampNeg) (uI (uI qS35.2 14 qS14.1.toNatClampNeg qS32.1) 10 qS32.1.toNatClampNeg qS1.1)).bind (fun qS38 => gd (in_b qS7.1 512) ((f_X3_moveTo qS32.1 ((qS38.2.1 27) qS7.1.toNatClampNeg) qS38.2).bind (fun qS41 => (f_X7_take 60 (uI qS41.2 3 9 ((qS41.2.1 3 9) + 1))).bind (fun qS44 => if (qS44.1 : Int32) = 0 then (some (0, qS44.2)) else ((f_X6_topRegion qS44.2).bind (fun qS48 => (f_X7_open 23 qS1.1 qS48.1 qS48.2).bind (fun qS51 => if (qS51.1 : Int32) = 0 then (some (0, qS51.2)) else (some (1, qS51.2))))))))))))))) else ((f_X7_placeHere qS27.2).bind (fun qS55 => (f_X1_note 2 qS55.1 qS55.2).bind (fun qS58 => (f_X7_bindHere fu qS58.2).bind (fun qS61 => (f_X7_checkType qS61.1 1 qS61.2).bind (fun qS64 => gd (in_b qS14.1 512) (gd (in_b qS61.1 512) (gd (in_b qS7.1 512) ((f_X3_moveTo qS14.1 ((qS64.2.1 27) qS7.1.toNatClampNeg) (uI (uI qS64.2 14 qS14.1.toNatClampNeg qS61.1) 10 qS61.1.toNatClampNeg qS1.1)).bind (fun qS67 => gd (in_b qS7.1 512) ((f_X3_moveTo qS61.1 ((qS67.2.1 27) qS7.1.toNatClampNeg) qS67.2).bind (fun qS70 => (f_X7_take 60 (uI qS70.2 3 9 ((qS70.2.1 3 9) + 1))).bind (fun qS73 => if (qS73.1 : Int32) = 0 then (some (0, qS73.2)) else ((f_X6_topRegion qS73.2).bind (fun qS77 => (f_X7_open 23 qS1.1 qS77.1 qS77.2).bind (fun qS80 => if (qS80.1 : Int32) = 0 then (some (0, qS80.2)) else (some (1, qS80.2)))))))))))))))))))) else ((f_X7_refuse qS27.2).bind (fun qS84 => gd (z_b qS84.1) (some (qS84.1, qS84.2))))))))))) else ((f_X7_refuse qS10.2).bind (fun qS87 => gd (z_b qS87.1) (some (qS87.1, qS87.2)))))))))
set_option maxHeartbeats 4000000 in
set_option maxRecDepth 100000 in
theorem f_X7_openTab_e (l : Launch) (g : im_G) (ad : Nat → Nat) (fu : Nat) (S : im_S) (r : Int32) (S' : im_S) (hm : f_X7_openTab fu  S = some (r, S')) : im_E l g ad 3 yX7_openTab cX7_openTab 5 (some Jvm.ClassFile.FieldType.boolean) [.ref (ad 3)] S (some (.int r)) S' := by
  unfold f_X7_openTab at hm
  refine is_met (own := RX7) (by decide +kernel) rfl (Nat.le_of_ble_eq_true rfl) (fun p e s m below meth c X => ?_)
  refine iv_aload_n (pc := 0) X dX7_openTab_0 rfl ?_
  refine iv_bipush (pc := 1) X dX7_openTab_1 bc_10 ?_
  refine iv_iconst (pc := 3) X dX7_openTab_3 ic_3 ?_
  refine iv_lconst (pc := 4) X dX7_openTab_4 lc_0 ?_
  obtain ⟨⟨r2, S1⟩, hc3, hm⟩ := bd_some hm
  refine cV_X7_196_3 (pc := 5) X [.int 10, .int 3, .long 0] [] 3 rfl (f_X7_addHere_e l g ad 10 3 0 S _ _ hc3) (by decide) (by decide) (Nat.le_of_ble_eq_true rfl) rfl dX7_openTab_5 ?_
  refine iv_istore_n (pc := 8) X dX7_openTab_8 (by decide) (lv' := [(1, .int r2), (0, .ref (ad 3))]) rfl ?_
  refine iv_aload_n (pc := 9) X dX7_openTab_9 rfl ?_
  refine gF_X7_21_3 (pc := 10) X dX7_openTab_10 ?_
  refine gF_X7_86_6 (pc := 13) X dX7_openTab_13 ?_
  refine iv_aload_n (pc := 16) X dX7_openTab_16 rfl ?_
  refine gF_X7_21_3 (pc := 17) X dX7_openTab_17 ?_
  refine iv_iload_n (pc := 20) X dX7_openTab_20 rfl ?_
  obtain ⟨⟨r5, S4⟩, hc6, hm⟩ := bd_some hm
  refine cV_X7_216_6 (pc := 21) X [.int r2] [.ref (ad 22)] 1 rfl (f_X3_addInnerTemplate_e l g ad r2 S1 _ _ hc6) (by decide) (by decide) (Nat.le_of_ble_eq_true rfl) rfl dX7_openTab_21 ?_
  obtain ⟨⟨r8, S7⟩, hc9, hm⟩ := bd_some hm
  refine cV_X7_220_22 (pc := 24) X [.int r5] [] 1 rfl (f_X4_addRegion_e l g ad r5 S4 _ _ hc9) (by decide) (by decide) (Nat.le_of_ble_eq_true rfl) rfl dX7_openTab_24 ?_
  refine iv_istore_n (pc := 27) X dX7_openTab_27 (by decide) (lv' := [(2, .int r8), (1, .int r2), (0, .ref (ad 3))]) rfl ?_
  refine iv_aload_n (pc := 28) X dX7_openTab_28 rfl ?_
  refine gF_X7_21_3 (pc := 29) X dX7_openTab_29 ?_
  refine gF_X7_223_6 (pc := 32) X dX7_openTab_32 ?_
  refine iv_iload_n (pc := 35) X dX7_openTab_35 rfl ?_
  refine iv_iload_n (pc := 36) X dX7_openTab_36 rfl ?_
  obtain ⟨hg, hm⟩ := gd_some hm
  refine aS_15 (pc := 37) X dX7_openTab_37 hg ?_
  refine iv_aload_n (pc := 38) X dX7_openTab_38 rfl ?_
  obtain ⟨⟨r11, S10⟩, hc12, hm⟩ := bd_some hm
  refine cV_X7_62_3 (pc := 39) X [] [] 0 rfl (f_X7_kindHere_e l g ad  (uI S7 15 r2.toNatClampNeg r8) _ _ hc12) (by decide) (by decide) (Nat.le_of_ble_eq_true rfl) rfl dX7_openTab_39 ?_
  refine iv_iconst (pc := 42) X dX7_openTab_42 ic_1 ?_
  refine iv_icmp_eq (pc := 43) X dX7_openTab_43 (tgt := 51) rfl (fun hb13 => ?_) (fun hb13 => ?_)
  · rw [if_pos hb13] at hm
    refine iv_aload_n (pc := 51) X dX7_openTab_51 rfl ?_
    obtain ⟨⟨r15, S14⟩, hc16, hm⟩ := bd_some hm
    refine cV_X7_132_3 (pc := 52) X [] [] 0 rfl (f_X7_bindHere_e l g ad fu  S10 _ _ hc16) (by decide) (by decide) (Nat.le_of_ble_eq_true rfl) rfl dX7_openTab_52 ?_
    refine iv_istore_n (pc := 55) X dX7_openTab_55 (by decide) (lv' := [(3, .int r15), (2, .int r8), (1, .int r2), (0, .ref (ad 3))]) rfl ?_
    refine iv_aload_n (pc := 56) X dX7_openTab_56 rfl ?_
    refine iv_iload_n (pc := 57) X dX7_openTab_57 rfl ?_
    refine iv_iconst (pc := 58) X dX7_openTab_58 ic_3 ?_
    obtain ⟨⟨r18, S17⟩, hc19, hm⟩ := bd_some hm
    refine cV_X7_226_3 (pc := 59) X [.int r15, .int 3] [] 2 rfl (f_X7_checkType_e l g ad r15 3 S14 _ _ hc19) (by decide) (by decide) (Nat.le_of_ble_eq_true rfl) rfl dX7_openTab_59 ?_
    refine iv_aload_n (pc := 62) X dX7_openTab_62 rfl ?_
    refine gF_X7_21_3 (pc := 63) X dX7_openTab_63 ?_
    refine gF_X7_229_6 (pc := 66) X dX7_openTab_66 ?_
    refine iv_iload_n (pc := 69) X dX7_openTab_69 rfl ?_
    refine iv_iload_n (pc := 70) X dX7_openTab_70 rfl ?_
    obtain ⟨hg, hm⟩ := gd_some hm
    refine aS_13 (pc := 71) X dX7_openTab_71 hg ?_
    refine iv_aload_n (pc := 72) X dX7_openTab_72 rfl ?_
    refine iv_bipush (pc := 73) X dX7_openTab_73 bc_91 ?_
    obtain ⟨⟨r21, S20⟩, hc22, hm⟩ := bd_some hm
    refine cV_X7_125_3 (pc := 75) X [.int 91] [] 1 rfl (f_X7_take_e l g ad 91 (uI S17 13 r2.toNatClampNeg r15) _ _ hc22) (by decide) (by decide) (Nat.le_of_ble_eq_true rfl) rfl dX7_openTab_75 ?_
    refine iv_if_eq (pc := 78) X dX7_openTab_78 (tgt := 89) rfl (fun hb23 => ?_) (fun hb23 => ?_)
    · rw [if_pos hb23] at hm
      refine iv_aload_n (pc := 89) X dX7_openTab_89 rfl ?_
      obtain ⟨⟨r25, S24⟩, hc26, hm⟩ := bd_some hm
      refine cV_X7_66_3 (pc := 90) X [] [] 0 rfl (f_X7_refuse_e l g ad  S20 _ _ hc26) (by decide) (by decide) (Nat.le_of_ble_eq_true rfl) rfl dX7_openTab_90 ?_
      obtain ⟨hg, hm⟩ := gd_some hm
      cases hm
      exact is_zret (pc := 93) X dX7_openTab_93 (z_b_n hg)
    · rw [if_neg hb23] at hm
      refine iv_aload_n (pc := 81) X dX7_openTab_81 rfl ?_
      obtain ⟨⟨r28, S27⟩, hc29, hm⟩ := bd_some hm
      refine cV_X7_62_3 (pc := 82) X [] [] 0 rfl (f_X7_kindHere_e l g ad  S20 _ _ hc29) (by decide) (by decide) (Nat.le_of_ble_eq_true rfl) rfl dX7_openTab_82 ?_
      refine iv_iconst (pc := 85) X dX7_openTab_85 ic_1 ?_
      refine iv_icmp_eq (pc := 86) X dX7_openTab_86 (tgt := 94) rfl (fun hb30 => ?_) (fun hb30 => ?_)
      · rw [if_pos hb30] at hm
        refine iv_aload_n (pc := 94) X dX7_openTab_94 rfl ?_
        refine gF_X7_28_3 (pc := 95) X dX7_openTab_95 ?_
        refine gF_X7_82_30 (pc := 98) X dX7_openTab_98 ?_
        refine iv_aload_n (pc := 101) X dX7_openTab_101 rfl ?_
        refine gF_X7_51_3 (pc := 102) X dX7_openTab_102 (x := S27.1 3 6) rfl ?_
        obtain ⟨hg, hm⟩ := gd_some hm
        refine aL_33 (pc := 105) X dX7_openTab_105 hg (x := (S27.2.1 33) ((S27.1 3 6).toNatClampNeg)) rfl ?_
        refine iv_aload_n (pc := 106) X dX7_openTab_106 rfl ?_
        refine gF_X7_21_3 (pc := 107) X dX7_openTab_107 ?_
        refine gF_X7_232_6 (pc := 110) X dX7_openTab_110 ?_
        refine iv_iload_n (pc := 113) X dX7_openTab_113 rfl ?_
        obtain ⟨hg, hm⟩ := gd_some hm
        refine aL_21 (pc := 114) X dX7_openTab_114 hg (x := (S27.2.1 21) r15.toNatClampNeg) rfl ?_
        refine iv_lcmp (pc := 115) X dX7_openTab_115 ?_
        refine iv_if_ne (pc := 116) X dX7_openTab_116 (tgt := 131) rfl (fun hb31 => ?_) (fun hb31 => ?_)
        · rw [if_pos hb31] at hm
          refine iv_aload_n (pc := 131) X dX7_openTab_131 rfl ?_
          obtain ⟨⟨r33, S32⟩, hc34, hm⟩ := bd_some hm
          refine cV_X7_132_3 (pc := 132) X [] [] 0 rfl (f_X7_bindHere_e l g ad fu  S27 _ _ hc34) (by decide) (by decide) (Nat.le_of_ble_eq_true rfl) rfl dX7_openTab_132 ?_
          refine iv_istore (pc := 135) X dX7_openTab_135 (by decide) (lv' := [(4, .int r33), (3, .int r15), (2, .int r8), (1, .int r2), (0, .ref (ad 3))]) rfl ?_
          refine iv_aload_n (pc := 137) X dX7_openTab_137 rfl ?_
          refine iv_iload (pc := 138) X dX7_openTab_138 rfl ?_
          refine iv_iconst (pc := 140) X dX7_openTab_140 ic_1 ?_
          obtain ⟨⟨r36, S35⟩, hc37, hm⟩ := bd_some hm
          refine cV_X7_226_3 (pc := 141) X [.int r33, .int 1] [] 2 rfl (f_X7_checkType_e l g ad r33 1 S32 _ _ hc37) (by decide) (by decide) (Nat.le_of_ble_eq_true rfl) rfl dX7_openTab_141 ?_
          refine iv_aload_n (pc := 144) X dX7_openTab_144 rfl ?_
          refine gF_X7_21_3 (pc := 145) X dX7_openTab_145 ?_
          refine gF_X7_233_6 (pc := 148) X dX7_openTab_148 ?_
          refine iv_iload_n (pc := 151) X dX7_openTab_151 rfl ?_
          refine iv_iload (pc := 152) X dX7_openTab_152 rfl ?_
          obtain ⟨hg, hm⟩ := gd_some hm
          refine aS_14 (pc := 154) X dX7_openTab_154 hg ?_
          refine iv_aload_n (pc := 155) X dX7_openTab_155 rfl ?_
          refine gF_X7_21_3 (pc := 156) X dX7_openTab_156 ?_
          refine gF_X7_236_6 (pc := 159) X dX7_openTab_159 ?_
          refine iv_iload (pc := 162) X dX7_openTab_162 rfl ?_
          refine iv_iload_n (pc := 164) X dX7_openTab_164 rfl ?_
          obtain ⟨hg, hm⟩ := gd_some hm
          refine aS_10 (pc := 165) X dX7_openTab_165 hg ?_
          refine iv_aload_n (pc := 166) X dX7_openTab_166 rfl ?_
          refine gF_X7_21_3 (pc := 167) X dX7_openTab_167 ?_
          refine iv_iload_n (pc := 170) X dX7_openTab_170 rfl ?_
          refine iv_aload_n (pc := 171) X dX7_openTab_171 rfl ?_
          refine gF_X7_21_3 (pc := 172) X dX7_openTab_172 ?_
          refine gF_X7_86_6 (pc := 175) X dX7_openTab_175 ?_
          refine gF_X7_239_22 (pc := 178) X dX7_openTab_178 ?_
          refine iv_iload_n (pc := 181) X dX7_openTab_181 rfl ?_
          obtain ⟨hg, hm⟩ := gd_some hm
          refine aL_27 (pc := 182) X dX7_openTab_182 hg (x := (S35.1 27) r8.toNatClampNeg) rfl ?_
          obtain ⟨⟨r39, S38⟩, hc40, hm⟩ := bd_some hm
          refine cV_X7_242_6 (pc := 183) X [.int r15, .int ((S35.1 27) r8.toNatClampNeg)] [] 2 rfl (f_X3_moveTo_e l g ad r15 ((S35.1 27) r8.toNatClampNeg) (uI (uI S35 14 r15.toNatClampNeg r33) 10 r33.toNatClampNeg r2) _ _ hc40) (by decide) (by decide) (Nat.le_of_ble_eq_true rfl) rfl dX7_openTab_183 ?_
          refine iv_aload_n (pc := 186) X dX7_openTab_186 rfl ?_
          refine gF_X7_21_3 (pc := 187) X dX7_openTab_187 ?_
          refine iv_iload (pc := 190) X dX7_openTab_190 rfl ?_
          refine iv_aload_n (pc := 192) X dX7_openTab_192 rfl ?_
          refine gF_X7_21_3 (pc := 193) X dX7_openTab_193 ?_
          refine gF_X7_86_6 (pc := 196) X dX7_openTab_196 ?_
          refine gF_X7_239_22 (pc := 199) X dX7_openTab_199 ?_
          refine iv_iload_n (pc := 202) X dX7_openTab_202 rfl ?_
          obtain ⟨hg, hm⟩ := gd_some hm
          refine aL_27 (pc := 203) X dX7_openTab_203 hg (x := (S38.1 27) r8.toNatClampNeg) rfl ?_
          obtain ⟨⟨r42, S41⟩, hc43, hm⟩ := bd_some hm
          refine cV_X7_242_6 (pc := 204) X [.int r33, .int ((S38.1 27) r8.toNatClampNeg)] [] 2 rfl (f_X3_moveTo_e l g ad r33 ((S38.1 27) r8.toNatClampNeg) S38 _ _ hc43) (by decide) (by decide) (Nat.le_of_ble_eq_true rfl) rfl dX7_openTab_204 ?_
          refine iv_aload_n (pc := 207) X dX7_openTab_207 rfl ?_
          refine iv_dup (pc := 208) X dX7_openTab_208 rfl ?_
          refine gF_X7_109_3 (pc := 209) X dX7_openTab_209 (x := S41.1 3 9) rfl ?_
          refine iv_iconst (pc := 212) X dX7_openTab_212 ic_1 ?_
          refine iv_iadd (pc := 213) X dX7_openTab_213 ?_
          refine pF_X7_109_3 (pc := 214) X dX7_openTab_214 ?_
          refine iv_aload_n (pc := 217) X dX7_openTab_217 rfl ?_
          refine iv_bipush (pc := 218) X dX7_openTab_218 bc_60 ?_
          obtain ⟨⟨r45, S44⟩, hc46, hm⟩ := bd_some hm
          refine cV_X7_125_3 (pc := 220) X [.int 60] [] 1 rfl (f_X7_take_e l g ad 60 (uI S41 3 9 ((S41.1 3 9) + 1)) _ _ hc46) (by decide) (by decide) (Nat.le_of_ble_eq_true rfl) rfl dX7_openTab_220 ?_
          refine iv_if_eq (pc := 223) X dX7_openTab_223 (tgt := 247) rfl (fun hb47 => ?_) (fun hb47 => ?_)
          · rw [if_pos hb47] at hm
            refine iv_iconst (pc := 247) X dX7_openTab_247 ic_0 ?_
            cases hm
            exact is_zret (pc := 248) X dX7_openTab_248 rfl
          · rw [if_neg hb47] at hm
            refine iv_aload_n (pc := 226) X dX7_openTab_226 rfl ?_
            refine iv_bipush (pc := 227) X dX7_openTab_227 bc_23 ?_
            refine iv_iload_n (pc := 229) X dX7_openTab_229 rfl ?_
            refine iv_aload_n (pc := 230) X dX7_openTab_230 rfl ?_
            refine gF_X7_35_3 (pc := 231) X dX7_openTab_231 ?_
            obtain ⟨⟨r49, S48⟩, hc50, hm⟩ := bd_some hm
            refine cV_X7_186_34 (pc := 234) X [] [.int r2, .int 23, .ref (ad 3)] 0 rfl (f_X6_topRegion_e l g ad  S44 _ _ hc50) (by decide) (by decide) (Nat.le_of_ble_eq_true rfl) rfl dX7_openTab_234 ?_
            obtain ⟨⟨r52, S51⟩, hc53, hm⟩ := bd_some hm
            refine cV_X7_212_3 (pc := 237) X [.int 23, .int r2, .int r49] [] 3 rfl (f_X7_open_e l g ad 23 r2 r49 S48 _ _ hc53) (by decide) (by decide) (Nat.le_of_ble_eq_true rfl) rfl dX7_openTab_237 ?_
            refine iv_if_eq (pc := 240) X dX7_openTab_240 (tgt := 247) rfl (fun hb54 => ?_) (fun hb54 => ?_)
            · rw [if_pos hb54] at hm
              refine iv_iconst (pc := 247) X dX7_openTab_247 ic_0 ?_
              cases hm
              exact is_zret (pc := 248) X dX7_openTab_248 rfl
            · rw [if_neg hb54] at hm
              refine iv_iconst (pc := 243) X dX7_openTab_243 ic_1 ?_
              refine iv_goto (pc := 244) X dX7_openTab_244 (tgt := 248) rfl ?_
              cases hm
              exact is_zret (pc := 248) X dX7_openTab_248 rfl
        · rw [if_neg hb31] at hm
          refine iv_aload_n (pc := 119) X dX7_openTab_119 rfl ?_
          refine gF_X7_12_3 (pc := 120) X dX7_openTab_120 ?_
          refine iv_iconst (pc := 123) X dX7_openTab_123 ic_2 ?_
          refine iv_aload_n (pc := 124) X dX7_openTab_124 rfl ?_
          obtain ⟨⟨r56, S55⟩, hc57, hm⟩ := bd_some hm
          refine cV_X7_96_3 (pc := 125) X [] [.int 2, .ref (ad 5)] 0 rfl (f_X7_placeHere_e l g ad  S27 _ _ hc57) (by decide) (by decide) (Nat.le_of_ble_eq_true rfl) rfl dX7_openTab_125 ?_
          obtain ⟨⟨r59, S58⟩, hc60, hm⟩ := bd_some hm
          refine cV_X7_99_5 (pc := 128) X [.int 2, .int r56] [] 2 rfl (f_X1_note_e l g ad 2 r56 S55 _ _ hc60) (by decide) (by decide) (Nat.le_of_ble_eq_true rfl) rfl dX7_openTab_128 ?_
          refine iv_aload_n (pc := 131) X dX7_openTab_131 rfl ?_
          obtain ⟨⟨r62, S61⟩, hc63, hm⟩ := bd_some hm
          refine cV_X7_132_3 (pc := 132) X [] [] 0 rfl (f_X7_bindHere_e l g ad fu  S58 _ _ hc63) (by decide) (by decide) (Nat.le_of_ble_eq_true rfl) rfl dX7_openTab_132 ?_
          refine iv_istore (pc := 135) X dX7_openTab_135 (by decide) (lv' := [(4, .int r62), (3, .int r15), (2, .int r8), (1, .int r2), (0, .ref (ad 3))]) rfl ?_
          refine iv_aload_n (pc := 137) X dX7_openTab_137 rfl ?_
          refine iv_iload (pc := 138) X dX7_openTab_138 rfl ?_
          refine iv_iconst (pc := 140) X dX7_openTab_140 ic_1 ?_
          obtain ⟨⟨r65, S64⟩, hc66, hm⟩ := bd_some hm
          refine cV_X7_226_3 (pc := 141) X [.int r62, .int 1] [] 2 rfl (f_X7_checkType_e l g ad r62 1 S61 _ _ hc66) (by decide) (by decide) (Nat.le_of_ble_eq_true rfl) rfl dX7_openTab_141 ?_
          refine iv_aload_n (pc := 144) X dX7_openTab_144 rfl ?_
          refine gF_X7_21_3 (pc := 145) X dX7_openTab_145 ?_
          refine gF_X7_233_6 (pc := 148) X dX7_openTab_148 ?_
          refine iv_iload_n (pc := 151) X dX7_openTab_151 rfl ?_
          refine iv_iload (pc := 152) X dX7_openTab_152 rfl ?_
          obtain ⟨hg, hm⟩ := gd_some hm
          refine aS_14 (pc := 154) X dX7_openTab_154 hg ?_
          refine iv_aload_n (pc := 155) X dX7_openTab_155 rfl ?_
          refine gF_X7_21_3 (pc := 156) X dX7_openTab_156 ?_
          refine gF_X7_236_6 (pc := 159) X dX7_openTab_159 ?_
          refine iv_iload (pc := 162) X dX7_openTab_162 rfl ?_
          refine iv_iload_n (pc := 164) X dX7_openTab_164 rfl ?_
          obtain ⟨hg, hm⟩ := gd_some hm
          refine aS_10 (pc := 165) X dX7_openTab_165 hg ?_
          refine iv_aload_n (pc := 166) X dX7_openTab_166 rfl ?_
          refine gF_X7_21_3 (pc := 167) X dX7_openTab_167 ?_
          refine iv_iload_n (pc := 170) X dX7_openTab_170 rfl ?_
          refine iv_aload_n (pc := 171) X dX7_openTab_171 rfl ?_
          refine gF_X7_21_3 (pc := 172) X dX7_openTab_172 ?_
          refine gF_X7_86_6 (pc := 175) X dX7_openTab_175 ?_
          refine gF_X7_239_22 (pc := 178) X dX7_openTab_178 ?_
          refine iv_iload_n (pc := 181) X dX7_openTab_181 rfl ?_
          obtain ⟨hg, hm⟩ := gd_some hm
          refine aL_27 (pc := 182) X dX7_openTab_182 hg (x := (S64.1 27) r8.toNatClampNeg) rfl ?_
          obtain ⟨⟨r68, S67⟩, hc69, hm⟩ := bd_some hm
          refine cV_X7_242_6 (pc := 183) X [.int r15, .int ((S64.1 27) r8.toNatClampNeg)] [] 2 rfl (f_X3_moveTo_e l g ad r15 ((S64.1 27) r8.toNatClampNeg) (uI (uI S64 14 r15.toNatClampNeg r62) 10 r62.toNatClampNeg r2) _ _ hc69) (by decide) (by decide) (Nat.le_of_ble_eq_true rfl) rfl dX7_openTab_183 ?_
          refine iv_aload_n (pc := 186) X dX7_openTab_186 rfl ?_
          refine gF_X7_21_3 (pc := 187) X dX7_openTab_187 ?_
          refine iv_iload (pc := 190) X dX7_openTab_190 rfl ?_
          refine iv_aload_n (pc := 192) X dX7_openTab_192 rfl ?_
          refine gF_X7_21_3 (pc := 193) X dX7_openTab_193 ?_
          refine gF_X7_86_6 (pc := 196) X dX7_openTab_196 ?_
          refine gF_X7_239_22 (pc := 199) X dX7_openTab_199 ?_
          refine iv_iload_n (pc := 202) X dX7_openTab_202 rfl ?_
          obtain ⟨hg, hm⟩ := gd_some hm
          refine aL_27 (pc := 203) X dX7_openTab_203 hg (x := (S67.1 27) r8.toNatClampNeg) rfl ?_
          obtain ⟨⟨r71, S70⟩, hc72, hm⟩ := bd_some hm
          refine cV_X7_242_6 (pc := 204) X [.int r62, .int ((S67.1 27) r8.toNatClampNeg)] [] 2 rfl (f_X3_moveTo_e l g ad r62 ((S67.1 27) r8.toNatClampNeg) S67 _ _ hc72) (by decide) (by decide) (Nat.le_of_ble_eq_true rfl) rfl dX7_openTab_204 ?_
          refine iv_aload_n (pc := 207) X dX7_openTab_207 rfl ?_
          refine iv_dup (pc := 208) X dX7_openTab_208 rfl ?_
          refine gF_X7_109_3 (pc := 209) X dX7_openTab_209 (x := S70.1 3 9) rfl ?_
          refine iv_iconst (pc := 212) X dX7_openTab_212 ic_1 ?_
          refine iv_iadd (pc := 213) X dX7_openTab_213 ?_
          refine pF_X7_109_3 (pc := 214) X dX7_openTab_214 ?_
          refine iv_aload_n (pc := 217) X dX7_openTab_217 rfl ?_
          refine iv_bipush (pc := 218) X dX7_openTab_218 bc_60 ?_
          obtain ⟨⟨r74, S73⟩, hc75, hm⟩ := bd_some hm
          refine cV_X7_125_3 (pc := 220) X [.int 60] [] 1 rfl (f_X7_take_e l g ad 60 (uI S70 3 9 ((S70.1 3 9) + 1)) _ _ hc75) (by decide) (by decide) (Nat.le_of_ble_eq_true rfl) rfl dX7_openTab_220 ?_
          refine iv_if_eq (pc := 223) X dX7_openTab_223 (tgt := 247) rfl (fun hb76 => ?_) (fun hb76 => ?_)
          · rw [if_pos hb76] at hm
            refine iv_iconst (pc := 247) X dX7_openTab_247 ic_0 ?_
            cases hm
            exact is_zret (pc := 248) X dX7_openTab_248 rfl
          · rw [if_neg hb76] at hm
            refine iv_aload_n (pc := 226) X dX7_openTab_226 rfl ?_
            refine iv_bipush (pc := 227) X dX7_openTab_227 bc_23 ?_
            refine iv_iload_n (pc := 229) X dX7_openTab_229 rfl ?_
            refine iv_aload_n (pc := 230) X dX7_openTab_230 rfl ?_
            refine gF_X7_35_3 (pc := 231) X dX7_openTab_231 ?_
            obtain ⟨⟨r78, S77⟩, hc79, hm⟩ := bd_some hm
            refine cV_X7_186_34 (pc := 234) X [] [.int r2, .int 23, .ref (ad 3)] 0 rfl (f_X6_topRegion_e l g ad  S73 _ _ hc79) (by decide) (by decide) (Nat.le_of_ble_eq_true rfl) rfl dX7_openTab_234 ?_
            obtain ⟨⟨r81, S80⟩, hc82, hm⟩ := bd_some hm
            refine cV_X7_212_3 (pc := 237) X [.int 23, .int r2, .int r78] [] 3 rfl (f_X7_open_e l g ad 23 r2 r78 S77 _ _ hc82) (by decide) (by decide) (Nat.le_of_ble_eq_true rfl) rfl dX7_openTab_237 ?_
            refine iv_if_eq (pc := 240) X dX7_openTab_240 (tgt := 247) rfl (fun hb83 => ?_) (fun hb83 => ?_)
            · rw [if_pos hb83] at hm
              refine iv_iconst (pc := 247) X dX7_openTab_247 ic_0 ?_
              cases hm
              exact is_zret (pc := 248) X dX7_openTab_248 rfl
            · rw [if_neg hb83] at hm
              refine iv_iconst (pc := 243) X dX7_openTab_243 ic_1 ?_
              refine iv_goto (pc := 244) X dX7_openTab_244 (tgt := 248) rfl ?_
              cases hm
              exact is_zret (pc := 248) X dX7_openTab_248 rfl
      · rw [if_neg hb30] at hm
        refine iv_aload_n (pc := 89) X dX7_openTab_89 rfl ?_
        obtain ⟨⟨r85, S84⟩, hc86, hm⟩ := bd_some hm
        refine cV_X7_66_3 (pc := 90) X [] [] 0 rfl (f_X7_refuse_e l g ad  S27 _ _ hc86) (by decide) (by decide) (Nat.le_of_ble_eq_true rfl) rfl dX7_openTab_90 ?_
        obtain ⟨hg, hm⟩ := gd_some hm
        cases hm
        exact is_zret (pc := 93) X dX7_openTab_93 (z_b_n hg)
  · rw [if_neg hb13] at hm
    refine iv_aload_n (pc := 46) X dX7_openTab_46 rfl ?_
    obtain ⟨⟨r88, S87⟩, hc89, hm⟩ := bd_some hm
    refine cV_X7_66_3 (pc := 47) X [] [] 0 rfl (f_X7_refuse_e l g ad  S10 _ _ hc89) (by decide) (by decide) (Nat.le_of_ble_eq_true rfl) rfl dX7_openTab_47 ?_
    obtain ⟨hg, hm⟩ := gd_some hm
    cases hm
    exact is_zret (pc := 50) X dX7_openTab_50 (z_b_n hg)
def f_X7_openLet (fu : Nat) (S : im_S) : Option (Int32 × im_S) := (f_X7_addHere 11 0 0 S).bind (fun qS1 => (f_X7_kindHere qS1.2).bind (fun qS4 => if (qS4.1 : Int32) = 1 then ((f_X7_bindHere fu qS4.2).bind (fun qS8 => gd (in_b qS1.1 512) ((f_X7_take 61 (uI qS8.2 12 qS1.1.toNatClampNeg qS8.1)).bind (fun qS11 => if (qS11.1 : Int32) = 0 then (some (0, qS11.2)) else ((f_X6_topRegion qS11.2).bind (fun qS15 => (f_X7_open 14 qS1.1 qS15.1 qS15.2).bind (fun qS18 => if (qS18.1 : Int32) = 0 then (some (0, qS18.2)) else (some (1, qS18.2))))))))) else ((f_X7_refuse qS4.2).bind (fun qS22 => gd (z_b qS22.1) (some (qS22.1, qS22.2))))))
set_option maxHeartbeats 4000000 in
set_option maxRecDepth 100000 in
theorem f_X7_openLet_e (l : Launch) (g : im_G) (ad : Nat → Nat) (fu : Nat) (S : im_S) (r : Int32) (S' : im_S) (hm : f_X7_openLet fu  S = some (r, S')) : im_E l g ad 3 yX7_openLet cX7_openLet 2 (some Jvm.ClassFile.FieldType.boolean) [.ref (ad 3)] S (some (.int r)) S' := by
  unfold f_X7_openLet at hm
  refine is_met (own := RX7) (by decide +kernel) rfl (Nat.le_of_ble_eq_true rfl) (fun p e s m below meth c X => ?_)
  refine iv_aload_n (pc := 0) X dX7_openLet_0 rfl ?_
  refine iv_bipush (pc := 1) X dX7_openLet_1 bc_11 ?_
  refine iv_iconst (pc := 3) X dX7_openLet_3 ic_0 ?_
  refine iv_lconst (pc := 4) X dX7_openLet_4 lc_0 ?_
  obtain ⟨⟨r2, S1⟩, hc3, hm⟩ := bd_some hm
  refine cV_X7_196_3 (pc := 5) X [.int 11, .int 0, .long 0] [] 3 rfl (f_X7_addHere_e l g ad 11 0 0 S _ _ hc3) (by decide) (by decide) (Nat.le_of_ble_eq_true rfl) rfl dX7_openLet_5 ?_
  refine iv_istore_n (pc := 8) X dX7_openLet_8 (by decide) (lv' := [(1, .int r2), (0, .ref (ad 3))]) rfl ?_
  refine iv_aload_n (pc := 9) X dX7_openLet_9 rfl ?_
  obtain ⟨⟨r5, S4⟩, hc6, hm⟩ := bd_some hm
  refine cV_X7_62_3 (pc := 10) X [] [] 0 rfl (f_X7_kindHere_e l g ad  S1 _ _ hc6) (by decide) (by decide) (Nat.le_of_ble_eq_true rfl) rfl dX7_openLet_10 ?_
  refine iv_iconst (pc := 13) X dX7_openLet_13 ic_1 ?_
  refine iv_icmp_eq (pc := 14) X dX7_openLet_14 (tgt := 22) rfl (fun hb7 => ?_) (fun hb7 => ?_)
  · rw [if_pos hb7] at hm
    refine iv_aload_n (pc := 22) X dX7_openLet_22 rfl ?_
    refine gF_X7_21_3 (pc := 23) X dX7_openLet_23 ?_
    refine gF_X7_209_6 (pc := 26) X dX7_openLet_26 ?_
    refine iv_iload_n (pc := 29) X dX7_openLet_29 rfl ?_
    refine iv_aload_n (pc := 30) X dX7_openLet_30 rfl ?_
    obtain ⟨⟨r9, S8⟩, hc10, hm⟩ := bd_some hm
    refine cV_X7_132_3 (pc := 31) X [] [.int r2, .ref (ad 12)] 0 rfl (f_X7_bindHere_e l g ad fu  S4 _ _ hc10) (by decide) (by decide) (Nat.le_of_ble_eq_true rfl) rfl dX7_openLet_31 ?_
    obtain ⟨hg, hm⟩ := gd_some hm
    refine aS_12 (pc := 34) X dX7_openLet_34 hg ?_
    refine iv_aload_n (pc := 35) X dX7_openLet_35 rfl ?_
    refine iv_bipush (pc := 36) X dX7_openLet_36 bc_61 ?_
    obtain ⟨⟨r12, S11⟩, hc13, hm⟩ := bd_some hm
    refine cV_X7_125_3 (pc := 38) X [.int 61] [] 1 rfl (f_X7_take_e l g ad 61 (uI S8 12 r2.toNatClampNeg r9) _ _ hc13) (by decide) (by decide) (Nat.le_of_ble_eq_true rfl) rfl dX7_openLet_38 ?_
    refine iv_if_eq (pc := 41) X dX7_openLet_41 (tgt := 65) rfl (fun hb14 => ?_) (fun hb14 => ?_)
    · rw [if_pos hb14] at hm
      refine iv_iconst (pc := 65) X dX7_openLet_65 ic_0 ?_
      cases hm
      exact is_zret (pc := 66) X dX7_openLet_66 rfl
    · rw [if_neg hb14] at hm
      refine iv_aload_n (pc := 44) X dX7_openLet_44 rfl ?_
      refine iv_bipush (pc := 45) X dX7_openLet_45 bc_14 ?_
      refine iv_iload_n (pc := 47) X dX7_openLet_47 rfl ?_
      refine iv_aload_n (pc := 48) X dX7_openLet_48 rfl ?_
      refine gF_X7_35_3 (pc := 49) X dX7_openLet_49 ?_
      obtain ⟨⟨r16, S15⟩, hc17, hm⟩ := bd_some hm
      refine cV_X7_186_34 (pc := 52) X [] [.int r2, .int 14, .ref (ad 3)] 0 rfl (f_X6_topRegion_e l g ad  S11 _ _ hc17) (by decide) (by decide) (Nat.le_of_ble_eq_true rfl) rfl dX7_openLet_52 ?_
      obtain ⟨⟨r19, S18⟩, hc20, hm⟩ := bd_some hm
      refine cV_X7_212_3 (pc := 55) X [.int 14, .int r2, .int r16] [] 3 rfl (f_X7_open_e l g ad 14 r2 r16 S15 _ _ hc20) (by decide) (by decide) (Nat.le_of_ble_eq_true rfl) rfl dX7_openLet_55 ?_
      refine iv_if_eq (pc := 58) X dX7_openLet_58 (tgt := 65) rfl (fun hb21 => ?_) (fun hb21 => ?_)
      · rw [if_pos hb21] at hm
        refine iv_iconst (pc := 65) X dX7_openLet_65 ic_0 ?_
        cases hm
        exact is_zret (pc := 66) X dX7_openLet_66 rfl
      · rw [if_neg hb21] at hm
        refine iv_iconst (pc := 61) X dX7_openLet_61 ic_1 ?_
        refine iv_goto (pc := 62) X dX7_openLet_62 (tgt := 66) rfl ?_
        cases hm
        exact is_zret (pc := 66) X dX7_openLet_66 rfl
  · rw [if_neg hb7] at hm
    refine iv_aload_n (pc := 17) X dX7_openLet_17 rfl ?_
    obtain ⟨⟨r23, S22⟩, hc24, hm⟩ := bd_some hm
    refine cV_X7_66_3 (pc := 18) X [] [] 0 rfl (f_X7_refuse_e l g ad  S4 _ _ hc24) (by decide) (by decide) (Nat.le_of_ble_eq_true rfl) rfl dX7_openLet_18 ?_
    obtain ⟨hg, hm⟩ := gd_some hm
    cases hm
    exact is_zret (pc := 21) X dX7_openLet_21 (z_b_n hg)
def f_X7_openFirstValue (fu : Nat) (S : im_S) : Option (Int32 × im_S) := gd (in_b (S.1 3 10) 512) ((f_X7_kindHere S).bind (fun qS1 => if (qS1.1 : Int32) ≠ 1 then ((f_X7_refuse qS1.2).bind (fun qS5 => gd (z_b qS5.1) (some (qS5.1, qS5.2)))) else ((f_X3_chainLength fu ((S.1 12) ((S.1 3 10).toNatClampNeg)) qS1.2).bind (fun qS8 => if (qS8.1 : Int32) ≠ 4 then (gd (in_b (qS8.2.1 3 6) 501) ((f_X3_findInChain fu ((S.1 12) ((S.1 3 10).toNatClampNeg)) ((qS8.2.2.1 33) ((qS8.2.1 3 6).toNatClampNeg)) qS8.2).bind (fun qS12 => if (qS12.1 : Int32) = (-1) then ((f_X7_bindHere fu qS12.2).bind (fun qS16 => gd (in_b qS16.1 512) (gd (in_b (qS16.2.1 3 10) 512) ((f_X3_append fu ((qS16.2.1 12) ((qS16.2.1 3 10).toNatClampNeg)) qS16.1 (uI qS16.2 10 qS16.1.toNatClampNeg (qS16.2.1 3 10))).bind (fun qS19 => gd (in_b (qS16.2.1 3 10) 512) ((f_X7_take 61 (uI qS19.2 12 ((qS16.2.1 3 10).toNatClampNeg) qS19.1)).bind (fun qS22 => if (qS22.1 : Int32) = 0 then (some (0, qS22.2)) else ((f_X6_topRegion qS22.2).bind (fun qS26 => (f_X7_open 19 qS16.1 qS26.1 qS26.2).bind (fun qS29 => if (qS29.1 : Int32) = 0 then (some (0, qS29.2)) else (some (1, qS29.2)))))))))))) else ((f_X7_placeHere qS12.2).bind (fun qS33 => (f_X1_note 2 qS33.1 qS33.2).bind (fun qS36 => (f_X7_bindHere fu qS36.2).bind (fun qS39 => gd (in_b qS39.1 512) (gd (in_b (qS39.2.1 3 10) 512) ((f_X3_append fu ((qS39.2.1 12) ((qS39.2.1 3 10).toNatClampNeg)) qS39.1 (uI qS39.2 10 qS39.1.toNatClampNeg (qS39.2.1 3 10))).bind (fun qS42 => gd (in_b (qS39.2.1 3 10) 512) ((f_X7_take 61 (uI qS42.2 12 ((qS39.2.1 3 10).toNatClampNeg) qS42.1)).bind (fun qS45 => if (qS45.1 : Int32) = 0 then (some (0, qS45.2)) else ((f_X6_topRegion qS45.2).bind (fun qS49 => (f_X7_open 19 qS39.1 qS49.1 qS49.2).bind (fun qS52 => if (qS52.1 : Int32) = 0 then (some (0, qS52.2)) else (some (1, qS52.2))))))))))))))))) else ((f_X7_refuse qS8.2).bind (fun qS56 => gd (z_b qS56.1) (some (qS56.1, qS56.2))))))))
set_option maxHeartbeats 4000000 in
set_option maxRecDepth 100000 in
theorem f_X7_openFirstValue_e (l : Launch) (g : im_G) (ad : Nat → Nat) (fu : Nat) (S : im_S) (r : Int32) (S' : im_S) (hm : f_X7_openFirstValue fu  S = some (r, S')) : im_E l g ad 3 yX7_openFirstValue cX7_openFirstValue 3 (some Jvm.ClassFile.FieldType.boolean) [.ref (ad 3)] S (some (.int r)) S' := by
  unfold f_X7_openFirstValue at hm
  refine is_met (own := RX7) (by decide +kernel) rfl (Nat.le_of_ble_eq_true rfl) (fun p e s m below meth c X => ?_)
  refine iv_aload_n (pc := 0) X dX7_openFirstValue_0 rfl ?_
  refine gF_X7_21_3 (pc := 1) X dX7_openFirstValue_1 ?_
  refine gF_X7_209_6 (pc := 4) X dX7_openFirstValue_4 ?_
  refine iv_aload_n (pc := 7) X dX7_openFirstValue_7 rfl ?_
  refine gF_X7_246_3 (pc := 8) X dX7_openFirstValue_8 (x := S.1 3 10) rfl ?_
  obtain ⟨hg, hm⟩ := gd_some hm
  refine aL_12 (pc := 11) X dX7_openFirstValue_11 hg (x := (S.1 12) ((S.1 3 10).toNatClampNeg)) rfl ?_
  refine iv_istore_n (pc := 12) X dX7_openFirstValue_12 (by decide) (lv' := [(1, .int ((S.1 12) ((S.1 3 10).toNatClampNeg))), (0, .ref (ad 3))]) rfl ?_
  refine iv_aload_n (pc := 13) X dX7_openFirstValue_13 rfl ?_
  obtain ⟨⟨r2, S1⟩, hc3, hm⟩ := bd_some hm
  refine cV_X7_62_3 (pc := 14) X [] [] 0 rfl (f_X7_kindHere_e l g ad  S _ _ hc3) (by decide) (by decide) (Nat.le_of_ble_eq_true rfl) rfl dX7_openFirstValue_14 ?_
  refine iv_iconst (pc := 17) X dX7_openFirstValue_17 ic_1 ?_
  refine iv_icmp_ne (pc := 18) X dX7_openFirstValue_18 (tgt := 33) rfl (fun hb4 => ?_) (fun hb4 => ?_)
  · rw [if_pos hb4] at hm
    refine iv_aload_n (pc := 33) X dX7_openFirstValue_33 rfl ?_
    obtain ⟨⟨r6, S5⟩, hc7, hm⟩ := bd_some hm
    refine cV_X7_66_3 (pc := 34) X [] [] 0 rfl (f_X7_refuse_e l g ad  S1 _ _ hc7) (by decide) (by decide) (Nat.le_of_ble_eq_true rfl) rfl dX7_openFirstValue_34 ?_
    obtain ⟨hg, hm⟩ := gd_some hm
    cases hm
    exact is_zret (pc := 37) X dX7_openFirstValue_37 (z_b_n hg)
  · rw [if_neg hb4] at hm
    refine iv_aload_n (pc := 21) X dX7_openFirstValue_21 rfl ?_
    refine gF_X7_21_3 (pc := 22) X dX7_openFirstValue_22 ?_
    refine iv_iload_n (pc := 25) X dX7_openFirstValue_25 rfl ?_
    obtain ⟨⟨r9, S8⟩, hc10, hm⟩ := bd_some hm
    refine cV_X7_249_6 (pc := 26) X [.int ((S.1 12) ((S.1 3 10).toNatClampNeg))] [] 1 rfl (f_X3_chainLength_e l g ad fu ((S.1 12) ((S.1 3 10).toNatClampNeg)) S1 _ _ hc10) (by decide) (by decide) (Nat.le_of_ble_eq_true rfl) rfl dX7_openFirstValue_26 ?_
    refine iv_iconst (pc := 29) X dX7_openFirstValue_29 ic_4 ?_
    refine iv_icmp_ne (pc := 30) X dX7_openFirstValue_30 (tgt := 38) rfl (fun hb11 => ?_) (fun hb11 => ?_)
    · rw [if_pos hb11] at hm
      refine iv_aload_n (pc := 38) X dX7_openFirstValue_38 rfl ?_
      refine gF_X7_21_3 (pc := 39) X dX7_openFirstValue_39 ?_
      refine iv_iload_n (pc := 42) X dX7_openFirstValue_42 rfl ?_
      refine iv_aload_n (pc := 43) X dX7_openFirstValue_43 rfl ?_
      refine gF_X7_28_3 (pc := 44) X dX7_openFirstValue_44 ?_
      refine gF_X7_82_30 (pc := 47) X dX7_openFirstValue_47 ?_
      refine iv_aload_n (pc := 50) X dX7_openFirstValue_50 rfl ?_
      refine gF_X7_51_3 (pc := 51) X dX7_openFirstValue_51 (x := S8.1 3 6) rfl ?_
      obtain ⟨hg, hm⟩ := gd_some hm
      refine aL_33 (pc := 54) X dX7_openFirstValue_54 hg (x := (S8.2.1 33) ((S8.1 3 6).toNatClampNeg)) rfl ?_
      obtain ⟨⟨r13, S12⟩, hc14, hm⟩ := bd_some hm
      refine cV_X7_252_6 (pc := 55) X [.int ((S.1 12) ((S.1 3 10).toNatClampNeg)), .long ((S8.2.1 33) ((S8.1 3 6).toNatClampNeg))] [] 2 rfl (f_X3_findInChain_e l g ad fu ((S.1 12) ((S.1 3 10).toNatClampNeg)) ((S8.2.1 33) ((S8.1 3 6).toNatClampNeg)) S8 _ _ hc14) (by decide) (by decide) (Nat.le_of_ble_eq_true rfl) rfl dX7_openFirstValue_55 ?_
      refine iv_iconst (pc := 58) X dX7_openFirstValue_58 ic_m1 ?_
      refine iv_icmp_eq (pc := 59) X dX7_openFirstValue_59 (tgt := 74) rfl (fun hb15 => ?_) (fun hb15 => ?_)
      · rw [if_pos hb15] at hm
        refine iv_aload_n (pc := 74) X dX7_openFirstValue_74 rfl ?_
        obtain ⟨⟨r17, S16⟩, hc18, hm⟩ := bd_some hm
        refine cV_X7_132_3 (pc := 75) X [] [] 0 rfl (f_X7_bindHere_e l g ad fu  S12 _ _ hc18) (by decide) (by decide) (Nat.le_of_ble_eq_true rfl) rfl dX7_openFirstValue_75 ?_
        refine iv_istore_n (pc := 78) X dX7_openFirstValue_78 (by decide) (lv' := [(2, .int r17), (1, .int ((S.1 12) ((S.1 3 10).toNatClampNeg))), (0, .ref (ad 3))]) rfl ?_
        refine iv_aload_n (pc := 79) X dX7_openFirstValue_79 rfl ?_
        refine gF_X7_21_3 (pc := 80) X dX7_openFirstValue_80 ?_
        refine gF_X7_236_6 (pc := 83) X dX7_openFirstValue_83 ?_
        refine iv_iload_n (pc := 86) X dX7_openFirstValue_86 rfl ?_
        refine iv_aload_n (pc := 87) X dX7_openFirstValue_87 rfl ?_
        refine gF_X7_246_3 (pc := 88) X dX7_openFirstValue_88 (x := S16.1 3 10) rfl ?_
        obtain ⟨hg, hm⟩ := gd_some hm
        refine aS_10 (pc := 91) X dX7_openFirstValue_91 hg ?_
        refine iv_aload_n (pc := 92) X dX7_openFirstValue_92 rfl ?_
        refine gF_X7_21_3 (pc := 93) X dX7_openFirstValue_93 ?_
        refine gF_X7_209_6 (pc := 96) X dX7_openFirstValue_96 ?_
        refine iv_aload_n (pc := 99) X dX7_openFirstValue_99 rfl ?_
        refine gF_X7_246_3 (pc := 100) X dX7_openFirstValue_100 (x := S16.1 3 10) rfl ?_
        refine iv_aload_n (pc := 103) X dX7_openFirstValue_103 rfl ?_
        refine gF_X7_21_3 (pc := 104) X dX7_openFirstValue_104 ?_
        refine iv_aload_n (pc := 107) X dX7_openFirstValue_107 rfl ?_
        refine gF_X7_21_3 (pc := 108) X dX7_openFirstValue_108 ?_
        refine gF_X7_209_6 (pc := 111) X dX7_openFirstValue_111 ?_
        refine iv_aload_n (pc := 114) X dX7_openFirstValue_114 rfl ?_
        refine gF_X7_246_3 (pc := 115) X dX7_openFirstValue_115 (x := S16.1 3 10) rfl ?_
        obtain ⟨hg, hm⟩ := gd_some hm
        refine aL_12 (pc := 118) X dX7_openFirstValue_118 hg (x := (S16.1 12) ((S16.1 3 10).toNatClampNeg)) rfl ?_
        refine iv_iload_n (pc := 119) X dX7_openFirstValue_119 rfl ?_
        obtain ⟨⟨r20, S19⟩, hc21, hm⟩ := bd_some hm
        refine cV_X7_138_6 (pc := 120) X [.int ((S16.1 12) ((S16.1 3 10).toNatClampNeg)), .int r17] [.int (S16.1 3 10), .ref (ad 12)] 2 rfl (f_X3_append_e l g ad fu ((S16.1 12) ((S16.1 3 10).toNatClampNeg)) r17 (uI S16 10 r17.toNatClampNeg (S16.1 3 10)) _ _ hc21) (by decide) (by decide) (Nat.le_of_ble_eq_true rfl) rfl dX7_openFirstValue_120 ?_
        obtain ⟨hg, hm⟩ := gd_some hm
        refine aS_12 (pc := 123) X dX7_openFirstValue_123 hg ?_
        refine iv_aload_n (pc := 124) X dX7_openFirstValue_124 rfl ?_
        refine iv_bipush (pc := 125) X dX7_openFirstValue_125 bc_61 ?_
        obtain ⟨⟨r23, S22⟩, hc24, hm⟩ := bd_some hm
        refine cV_X7_125_3 (pc := 127) X [.int 61] [] 1 rfl (f_X7_take_e l g ad 61 (uI S19 12 ((S16.1 3 10).toNatClampNeg) r20) _ _ hc24) (by decide) (by decide) (Nat.le_of_ble_eq_true rfl) rfl dX7_openFirstValue_127 ?_
        refine iv_if_eq (pc := 130) X dX7_openFirstValue_130 (tgt := 154) rfl (fun hb25 => ?_) (fun hb25 => ?_)
        · rw [if_pos hb25] at hm
          refine iv_iconst (pc := 154) X dX7_openFirstValue_154 ic_0 ?_
          cases hm
          exact is_zret (pc := 155) X dX7_openFirstValue_155 rfl
        · rw [if_neg hb25] at hm
          refine iv_aload_n (pc := 133) X dX7_openFirstValue_133 rfl ?_
          refine iv_bipush (pc := 134) X dX7_openFirstValue_134 bc_19 ?_
          refine iv_iload_n (pc := 136) X dX7_openFirstValue_136 rfl ?_
          refine iv_aload_n (pc := 137) X dX7_openFirstValue_137 rfl ?_
          refine gF_X7_35_3 (pc := 138) X dX7_openFirstValue_138 ?_
          obtain ⟨⟨r27, S26⟩, hc28, hm⟩ := bd_some hm
          refine cV_X7_186_34 (pc := 141) X [] [.int r17, .int 19, .ref (ad 3)] 0 rfl (f_X6_topRegion_e l g ad  S22 _ _ hc28) (by decide) (by decide) (Nat.le_of_ble_eq_true rfl) rfl dX7_openFirstValue_141 ?_
          obtain ⟨⟨r30, S29⟩, hc31, hm⟩ := bd_some hm
          refine cV_X7_212_3 (pc := 144) X [.int 19, .int r17, .int r27] [] 3 rfl (f_X7_open_e l g ad 19 r17 r27 S26 _ _ hc31) (by decide) (by decide) (Nat.le_of_ble_eq_true rfl) rfl dX7_openFirstValue_144 ?_
          refine iv_if_eq (pc := 147) X dX7_openFirstValue_147 (tgt := 154) rfl (fun hb32 => ?_) (fun hb32 => ?_)
          · rw [if_pos hb32] at hm
            refine iv_iconst (pc := 154) X dX7_openFirstValue_154 ic_0 ?_
            cases hm
            exact is_zret (pc := 155) X dX7_openFirstValue_155 rfl
          · rw [if_neg hb32] at hm
            refine iv_iconst (pc := 150) X dX7_openFirstValue_150 ic_1 ?_
            refine iv_goto (pc := 151) X dX7_openFirstValue_151 (tgt := 155) rfl ?_
            cases hm
            exact is_zret (pc := 155) X dX7_openFirstValue_155 rfl
      · rw [if_neg hb15] at hm
        refine iv_aload_n (pc := 62) X dX7_openFirstValue_62 rfl ?_
        refine gF_X7_12_3 (pc := 63) X dX7_openFirstValue_63 ?_
        refine iv_iconst (pc := 66) X dX7_openFirstValue_66 ic_2 ?_
        refine iv_aload_n (pc := 67) X dX7_openFirstValue_67 rfl ?_
        obtain ⟨⟨r34, S33⟩, hc35, hm⟩ := bd_some hm
        refine cV_X7_96_3 (pc := 68) X [] [.int 2, .ref (ad 5)] 0 rfl (f_X7_placeHere_e l g ad  S12 _ _ hc35) (by decide) (by decide) (Nat.le_of_ble_eq_true rfl) rfl dX7_openFirstValue_68 ?_
        obtain ⟨⟨r37, S36⟩, hc38, hm⟩ := bd_some hm
        refine cV_X7_99_5 (pc := 71) X [.int 2, .int r34] [] 2 rfl (f_X1_note_e l g ad 2 r34 S33 _ _ hc38) (by decide) (by decide) (Nat.le_of_ble_eq_true rfl) rfl dX7_openFirstValue_71 ?_
        refine iv_aload_n (pc := 74) X dX7_openFirstValue_74 rfl ?_
        obtain ⟨⟨r40, S39⟩, hc41, hm⟩ := bd_some hm
        refine cV_X7_132_3 (pc := 75) X [] [] 0 rfl (f_X7_bindHere_e l g ad fu  S36 _ _ hc41) (by decide) (by decide) (Nat.le_of_ble_eq_true rfl) rfl dX7_openFirstValue_75 ?_
        refine iv_istore_n (pc := 78) X dX7_openFirstValue_78 (by decide) (lv' := [(2, .int r40), (1, .int ((S.1 12) ((S.1 3 10).toNatClampNeg))), (0, .ref (ad 3))]) rfl ?_
        refine iv_aload_n (pc := 79) X dX7_openFirstValue_79 rfl ?_
        refine gF_X7_21_3 (pc := 80) X dX7_openFirstValue_80 ?_
        refine gF_X7_236_6 (pc := 83) X dX7_openFirstValue_83 ?_
        refine iv_iload_n (pc := 86) X dX7_openFirstValue_86 rfl ?_
        refine iv_aload_n (pc := 87) X dX7_openFirstValue_87 rfl ?_
        refine gF_X7_246_3 (pc := 88) X dX7_openFirstValue_88 (x := S39.1 3 10) rfl ?_
        obtain ⟨hg, hm⟩ := gd_some hm
        refine aS_10 (pc := 91) X dX7_openFirstValue_91 hg ?_
        refine iv_aload_n (pc := 92) X dX7_openFirstValue_92 rfl ?_
        refine gF_X7_21_3 (pc := 93) X dX7_openFirstValue_93 ?_
        refine gF_X7_209_6 (pc := 96) X dX7_openFirstValue_96 ?_
        refine iv_aload_n (pc := 99) X dX7_openFirstValue_99 rfl ?_
        refine gF_X7_246_3 (pc := 100) X dX7_openFirstValue_100 (x := S39.1 3 10) rfl ?_
        refine iv_aload_n (pc := 103) X dX7_openFirstValue_103 rfl ?_
        refine gF_X7_21_3 (pc := 104) X dX7_openFirstValue_104 ?_
        refine iv_aload_n (pc := 107) X dX7_openFirstValue_107 rfl ?_
        refine gF_X7_21_3 (pc := 108) X dX7_openFirstValue_108 ?_
        refine gF_X7_209_6 (pc := 111) X dX7_openFirstValue_111 ?_
        refine iv_aload_n (pc := 114) X dX7_openFirstValue_114 rfl ?_
        refine gF_X7_246_3 (pc := 115) X dX7_openFirstValue_115 (x := S39.1 3 10) rfl ?_
        obtain ⟨hg, hm⟩ := gd_some hm
        refine aL_12 (pc := 118) X dX7_openFirstValue_118 hg (x := (S39.1 12) ((S39.1 3 10).toNatClampNeg)) rfl ?_
        refine iv_iload_n (pc := 119) X dX7_openFirstValue_119 rfl ?_
        obtain ⟨⟨r43, S42⟩, hc44, hm⟩ := bd_some hm
        refine cV_X7_138_6 (pc := 120) X [.int ((S39.1 12) ((S39.1 3 10).toNatClampNeg)), .int r40] [.int (S39.1 3 10), .ref (ad 12)] 2 rfl (f_X3_append_e l g ad fu ((S39.1 12) ((S39.1 3 10).toNatClampNeg)) r40 (uI S39 10 r40.toNatClampNeg (S39.1 3 10)) _ _ hc44) (by decide) (by decide) (Nat.le_of_ble_eq_true rfl) rfl dX7_openFirstValue_120 ?_
        obtain ⟨hg, hm⟩ := gd_some hm
        refine aS_12 (pc := 123) X dX7_openFirstValue_123 hg ?_
        refine iv_aload_n (pc := 124) X dX7_openFirstValue_124 rfl ?_
        refine iv_bipush (pc := 125) X dX7_openFirstValue_125 bc_61 ?_
        obtain ⟨⟨r46, S45⟩, hc47, hm⟩ := bd_some hm
        refine cV_X7_125_3 (pc := 127) X [.int 61] [] 1 rfl (f_X7_take_e l g ad 61 (uI S42 12 ((S39.1 3 10).toNatClampNeg) r43) _ _ hc47) (by decide) (by decide) (Nat.le_of_ble_eq_true rfl) rfl dX7_openFirstValue_127 ?_
        refine iv_if_eq (pc := 130) X dX7_openFirstValue_130 (tgt := 154) rfl (fun hb48 => ?_) (fun hb48 => ?_)
        · rw [if_pos hb48] at hm
          refine iv_iconst (pc := 154) X dX7_openFirstValue_154 ic_0 ?_
          cases hm
          exact is_zret (pc := 155) X dX7_openFirstValue_155 rfl
        · rw [if_neg hb48] at hm
          refine iv_aload_n (pc := 133) X dX7_openFirstValue_133 rfl ?_
          refine iv_bipush (pc := 134) X dX7_openFirstValue_134 bc_19 ?_
          refine iv_iload_n (pc := 136) X dX7_openFirstValue_136 rfl ?_
          refine iv_aload_n (pc := 137) X dX7_openFirstValue_137 rfl ?_
          refine gF_X7_35_3 (pc := 138) X dX7_openFirstValue_138 ?_
          obtain ⟨⟨r50, S49⟩, hc51, hm⟩ := bd_some hm
          refine cV_X7_186_34 (pc := 141) X [] [.int r40, .int 19, .ref (ad 3)] 0 rfl (f_X6_topRegion_e l g ad  S45 _ _ hc51) (by decide) (by decide) (Nat.le_of_ble_eq_true rfl) rfl dX7_openFirstValue_141 ?_
          obtain ⟨⟨r53, S52⟩, hc54, hm⟩ := bd_some hm
          refine cV_X7_212_3 (pc := 144) X [.int 19, .int r40, .int r50] [] 3 rfl (f_X7_open_e l g ad 19 r40 r50 S49 _ _ hc54) (by decide) (by decide) (Nat.le_of_ble_eq_true rfl) rfl dX7_openFirstValue_144 ?_
          refine iv_if_eq (pc := 147) X dX7_openFirstValue_147 (tgt := 154) rfl (fun hb55 => ?_) (fun hb55 => ?_)
          · rw [if_pos hb55] at hm
            refine iv_iconst (pc := 154) X dX7_openFirstValue_154 ic_0 ?_
            cases hm
            exact is_zret (pc := 155) X dX7_openFirstValue_155 rfl
          · rw [if_neg hb55] at hm
            refine iv_iconst (pc := 150) X dX7_openFirstValue_150 ic_1 ?_
            refine iv_goto (pc := 151) X dX7_openFirstValue_151 (tgt := 155) rfl ?_
            cases hm
            exact is_zret (pc := 155) X dX7_openFirstValue_155 rfl
    · rw [if_neg hb11] at hm
      refine iv_aload_n (pc := 33) X dX7_openFirstValue_33 rfl ?_
      obtain ⟨⟨r57, S56⟩, hc58, hm⟩ := bd_some hm
      refine cV_X7_66_3 (pc := 34) X [] [] 0 rfl (f_X7_refuse_e l g ad  S8 _ _ hc58) (by decide) (by decide) (Nat.le_of_ble_eq_true rfl) rfl dX7_openFirstValue_34 ?_
      obtain ⟨hg, hm⟩ := gd_some hm
      cases hm
      exact is_zret (pc := 37) X dX7_openFirstValue_37 (z_b_n hg)
def f_X7_close (fu : Nat) (x1 : Int32) (S : im_S) : Option (Int32 × im_S) := (f_X6_topKind S).bind (fun qS1 => if qS1.1 = (10 : Int32) then ((f_X7_take 59 qS1.2).bind (fun qS5 => if (qS5.1 : Int32) = 0 then (some (0, qS5.2)) else ((f_X7_endBody fu qS5.2).bind (fun qS9 => if (qS9.1 : Int32) = 0 then (some (0, qS9.2)) else (some (1, qS9.2)))))) else (if qS1.1 = (11 : Int32) then ((f_X7_take 41 qS1.2).bind (fun qS14 => if (qS14.1 : Int32) = 0 then (some (0, qS14.2)) else ((f_X7_endBracket qS14.2).bind (fun qS18 => if (qS18.1 : Int32) = 0 then (some (0, qS18.2)) else (some (1, qS18.2)))))) else (if qS1.1 = (12 : Int32) then ((f_X7_take 93 qS1.2).bind (fun qS23 => if (qS23.1 : Int32) = 0 then (some (0, qS23.2)) else ((f_X7_endElement qS23.2).bind (fun qS27 => if (qS27.1 : Int32) = 0 then (some (0, qS27.2)) else (some (1, qS27.2)))))) else (if qS1.1 = (13 : Int32) then ((f_X7_endArgument fu x1 qS1.2).bind (fun qS32 => gd (z_b qS32.1) (some (qS32.1, qS32.2)))) else (if qS1.1 = (14 : Int32) then ((f_X7_take 5 qS1.2).bind (fun qS36 => if (qS36.1 : Int32) = 0 then (some (0, qS36.2)) else ((f_X7_endLetValue qS36.2).bind (fun qS40 => if (qS40.1 : Int32) = 0 then (some (0, qS40.2)) else (some (1, qS40.2)))))) else (if qS1.1 = (15 : Int32) then ((f_X7_take 93 qS1.2).bind (fun qS45 => if (qS45.1 : Int32) = 0 then (some (0, qS45.2)) else ((f_X7_take 14 qS45.2).bind (fun qS49 => if (qS49.1 : Int32) = 0 then (some (0, qS49.2)) else ((f_X7_endTabSize qS49.2).bind (fun qS53 => if (qS53.1 : Int32) = 0 then (some (0, qS53.2)) else (some (1, qS53.2)))))))) else (if qS1.1 = (16 : Int32) then ((f_X7_take 7 qS1.2).bind (fun qS58 => if (qS58.1 : Int32) = 0 then (some (0, qS58.2)) else ((f_X7_endCondition qS58.2).bind (fun qS62 => if (qS62.1 : Int32) = 0 then (some (0, qS62.2)) else (some (1, qS62.2)))))) else (if qS1.1 = (17 : Int32) then ((f_X7_take 8 qS1.2).bind (fun qS67 => if (qS67.1 : Int32) = 0 then (some (0, qS67.2)) else ((f_X7_endThenPart qS67.2).bind (fun qS71 => if (qS71.1 : Int32) = 0 then (some (0, qS71.2)) else (some (1, qS71.2)))))) else (if qS1.1 = (18 : Int32) then ((f_X7_take 93 qS1.2).bind (fun qS76 => if (qS76.1 : Int32) = 0 then (some (0, qS76.2)) else ((f_X7_take 14 qS76.2).bind (fun qS80 => if (qS80.1 : Int32) = 0 then (some (0, qS80.2)) else ((f_X7_endTabSize qS80.2).bind (fun qS84 => if (qS84.1 : Int32) = 0 then (some (0, qS84.2)) else (some (1, qS84.2)))))))) else (if qS1.1 = (19 : Int32) then ((f_X7_endFirstValue fu x1 qS1.2).bind (fun qS89 => gd (z_b qS89.1) (some (qS89.1, qS89.2)))) else (if qS1.1 = (20 : Int32) then ((f_X7_take 11 qS1.2).bind (fun qS93 => if (qS93.1 : Int32) = 0 then (some (0, qS93.2)) else ((f_X7_endWhilePart qS93.2).bind (fun qS97 => if (qS97.1 : Int32) = 0 then (some (0, qS97.2)) else (some (1, qS97.2)))))) else (if qS1.1 = (21 : Int32) then ((f_X7_endNextValue fu x1 qS1.2).bind (fun qS102 => gd (z_b qS102.1) (some (qS102.1, qS102.2)))) else ((f_X7_take 93 qS1.2).bind (fun qS105 => if (qS105.1 : Int32) = 0 then (some (0, qS105.2)) else ((f_X7_take 14 qS105.2).bind (fun qS109 => if (qS109.1 : Int32) = 0 then (some (0, qS109.2)) else ((f_X7_endTabSize qS109.2).bind (fun qS113 => if (qS113.1 : Int32) = 0 then (some (0, qS113.2)) else (some (1, qS113.2))))))))))))))))))))
set_option maxHeartbeats 4000000 in
set_option maxRecDepth 100000 in
theorem f_X7_close_e (l : Launch) (g : im_G) (ad : Nat → Nat) (fu : Nat) (x1 : Int32) (S : im_S) (r : Int32) (S' : im_S) (hm : f_X7_close fu x1 S = some (r, S')) : im_E l g ad 3 yX7_close cX7_close 2 (some Jvm.ClassFile.FieldType.boolean) [.ref (ad 3), .int x1] S (some (.int r)) S' := by
  unfold f_X7_close at hm
  refine is_met (own := RX7) (by decide +kernel) rfl (Nat.le_of_ble_eq_true rfl) (fun p e s m below meth c X => ?_)
  refine iv_aload_n (pc := 0) X dX7_close_0 rfl ?_
  refine gF_X7_35_3 (pc := 1) X dX7_close_1 ?_
  obtain ⟨⟨r2, S1⟩, hc3, hm⟩ := bd_some hm
  refine cV_X7_290_34 (pc := 4) X [] [] 0 rfl (f_X6_topKind_e l g ad  S _ _ hc3) (by decide) (by decide) (Nat.le_of_ble_eq_true rfl) rfl dX7_close_4 ?_
  by_cases hb4 : r2 = (10 : Int32)
  · rw [if_pos hb4] at hm
    refine iv_tableIn X dX7_close_7 (off := 61) (tgt := 68) (by rw [hb4]; decide) (by rw [hb4]; decide) (by rw [hb4]; decide) (by decide) ?_
    refine iv_aload_n (pc := 68) X dX7_close_68 rfl ?_
    refine iv_bipush (pc := 69) X dX7_close_69 bc_59 ?_
    obtain ⟨⟨r6, S5⟩, hc7, hm⟩ := bd_some hm
    refine cV_X7_125_3 (pc := 71) X [.int 59] [] 1 rfl (f_X7_take_e l g ad 59 S1 _ _ hc7) (by decide) (by decide) (Nat.le_of_ble_eq_true rfl) rfl dX7_close_71 ?_
    refine iv_if_eq (pc := 74) X dX7_close_74 (tgt := 88) rfl (fun hb8 => ?_) (fun hb8 => ?_)
    · rw [if_pos hb8] at hm
      refine iv_iconst (pc := 88) X dX7_close_88 ic_0 ?_
      cases hm
      exact is_zret (pc := 89) X dX7_close_89 rfl
    · rw [if_neg hb8] at hm
      refine iv_aload_n (pc := 77) X dX7_close_77 rfl ?_
      obtain ⟨⟨r10, S9⟩, hc11, hm⟩ := bd_some hm
      refine cV_X7_309_3 (pc := 78) X [] [] 0 rfl (f_X7_endBody_e l g ad fu  S5 _ _ hc11) (by decide) (by decide) (Nat.le_of_ble_eq_true rfl) rfl dX7_close_78 ?_
      refine iv_if_eq (pc := 81) X dX7_close_81 (tgt := 88) rfl (fun hb12 => ?_) (fun hb12 => ?_)
      · rw [if_pos hb12] at hm
        refine iv_iconst (pc := 88) X dX7_close_88 ic_0 ?_
        cases hm
        exact is_zret (pc := 89) X dX7_close_89 rfl
      · rw [if_neg hb12] at hm
        refine iv_iconst (pc := 84) X dX7_close_84 ic_1 ?_
        refine iv_goto (pc := 85) X dX7_close_85 (tgt := 89) rfl ?_
        cases hm
        exact is_zret (pc := 89) X dX7_close_89 rfl
  · rw [if_neg hb4] at hm
    by_cases hb13 : r2 = (11 : Int32)
    · rw [if_pos hb13] at hm
      refine iv_tableIn X dX7_close_7 (off := 83) (tgt := 90) (by rw [hb13]; decide) (by rw [hb13]; decide) (by rw [hb13]; decide) (by decide) ?_
      refine iv_aload_n (pc := 90) X dX7_close_90 rfl ?_
      refine iv_bipush (pc := 91) X dX7_close_91 bc_41 ?_
      obtain ⟨⟨r15, S14⟩, hc16, hm⟩ := bd_some hm
      refine cV_X7_125_3 (pc := 93) X [.int 41] [] 1 rfl (f_X7_take_e l g ad 41 S1 _ _ hc16) (by decide) (by decide) (Nat.le_of_ble_eq_true rfl) rfl dX7_close_93 ?_
      refine iv_if_eq (pc := 96) X dX7_close_96 (tgt := 110) rfl (fun hb17 => ?_) (fun hb17 => ?_)
      · rw [if_pos hb17] at hm
        refine iv_iconst (pc := 110) X dX7_close_110 ic_0 ?_
        cases hm
        exact is_zret (pc := 111) X dX7_close_111 rfl
      · rw [if_neg hb17] at hm
        refine iv_aload_n (pc := 99) X dX7_close_99 rfl ?_
        obtain ⟨⟨r19, S18⟩, hc20, hm⟩ := bd_some hm
        refine cV_X7_312_3 (pc := 100) X [] [] 0 rfl (f_X7_endBracket_e l g ad  S14 _ _ hc20) (by decide) (by decide) (Nat.le_of_ble_eq_true rfl) rfl dX7_close_100 ?_
        refine iv_if_eq (pc := 103) X dX7_close_103 (tgt := 110) rfl (fun hb21 => ?_) (fun hb21 => ?_)
        · rw [if_pos hb21] at hm
          refine iv_iconst (pc := 110) X dX7_close_110 ic_0 ?_
          cases hm
          exact is_zret (pc := 111) X dX7_close_111 rfl
        · rw [if_neg hb21] at hm
          refine iv_iconst (pc := 106) X dX7_close_106 ic_1 ?_
          refine iv_goto (pc := 107) X dX7_close_107 (tgt := 111) rfl ?_
          cases hm
          exact is_zret (pc := 111) X dX7_close_111 rfl
    · rw [if_neg hb13] at hm
      by_cases hb22 : r2 = (12 : Int32)
      · rw [if_pos hb22] at hm
        refine iv_tableIn X dX7_close_7 (off := 105) (tgt := 112) (by rw [hb22]; decide) (by rw [hb22]; decide) (by rw [hb22]; decide) (by decide) ?_
        refine iv_aload_n (pc := 112) X dX7_close_112 rfl ?_
        refine iv_bipush (pc := 113) X dX7_close_113 bc_93 ?_
        obtain ⟨⟨r24, S23⟩, hc25, hm⟩ := bd_some hm
        refine cV_X7_125_3 (pc := 115) X [.int 93] [] 1 rfl (f_X7_take_e l g ad 93 S1 _ _ hc25) (by decide) (by decide) (Nat.le_of_ble_eq_true rfl) rfl dX7_close_115 ?_
        refine iv_if_eq (pc := 118) X dX7_close_118 (tgt := 132) rfl (fun hb26 => ?_) (fun hb26 => ?_)
        · rw [if_pos hb26] at hm
          refine iv_iconst (pc := 132) X dX7_close_132 ic_0 ?_
          cases hm
          exact is_zret (pc := 133) X dX7_close_133 rfl
        · rw [if_neg hb26] at hm
          refine iv_aload_n (pc := 121) X dX7_close_121 rfl ?_
          obtain ⟨⟨r28, S27⟩, hc29, hm⟩ := bd_some hm
          refine cV_X7_315_3 (pc := 122) X [] [] 0 rfl (f_X7_endElement_e l g ad  S23 _ _ hc29) (by decide) (by decide) (Nat.le_of_ble_eq_true rfl) rfl dX7_close_122 ?_
          refine iv_if_eq (pc := 125) X dX7_close_125 (tgt := 132) rfl (fun hb30 => ?_) (fun hb30 => ?_)
          · rw [if_pos hb30] at hm
            refine iv_iconst (pc := 132) X dX7_close_132 ic_0 ?_
            cases hm
            exact is_zret (pc := 133) X dX7_close_133 rfl
          · rw [if_neg hb30] at hm
            refine iv_iconst (pc := 128) X dX7_close_128 ic_1 ?_
            refine iv_goto (pc := 129) X dX7_close_129 (tgt := 133) rfl ?_
            cases hm
            exact is_zret (pc := 133) X dX7_close_133 rfl
      · rw [if_neg hb22] at hm
        by_cases hb31 : r2 = (13 : Int32)
        · rw [if_pos hb31] at hm
          refine iv_tableIn X dX7_close_7 (off := 127) (tgt := 134) (by rw [hb31]; decide) (by rw [hb31]; decide) (by rw [hb31]; decide) (by decide) ?_
          refine iv_aload_n (pc := 134) X dX7_close_134 rfl ?_
          refine iv_iload_n (pc := 135) X dX7_close_135 rfl ?_
          obtain ⟨⟨r33, S32⟩, hc34, hm⟩ := bd_some hm
          refine cV_X7_318_3 (pc := 136) X [.int x1] [] 1 rfl (f_X7_endArgument_e l g ad fu x1 S1 _ _ hc34) (by decide) (by decide) (Nat.le_of_ble_eq_true rfl) rfl dX7_close_136 ?_
          obtain ⟨hg, hm⟩ := gd_some hm
          cases hm
          exact is_zret (pc := 139) X dX7_close_139 (z_b_n hg)
        · rw [if_neg hb31] at hm
          by_cases hb35 : r2 = (14 : Int32)
          · rw [if_pos hb35] at hm
            refine iv_tableIn X dX7_close_7 (off := 133) (tgt := 140) (by rw [hb35]; decide) (by rw [hb35]; decide) (by rw [hb35]; decide) (by decide) ?_
            refine iv_aload_n (pc := 140) X dX7_close_140 rfl ?_
            refine iv_iconst (pc := 141) X dX7_close_141 ic_5 ?_
            obtain ⟨⟨r37, S36⟩, hc38, hm⟩ := bd_some hm
            refine cV_X7_125_3 (pc := 142) X [.int 5] [] 1 rfl (f_X7_take_e l g ad 5 S1 _ _ hc38) (by decide) (by decide) (Nat.le_of_ble_eq_true rfl) rfl dX7_close_142 ?_
            refine iv_if_eq (pc := 145) X dX7_close_145 (tgt := 159) rfl (fun hb39 => ?_) (fun hb39 => ?_)
            · rw [if_pos hb39] at hm
              refine iv_iconst (pc := 159) X dX7_close_159 ic_0 ?_
              cases hm
              exact is_zret (pc := 160) X dX7_close_160 rfl
            · rw [if_neg hb39] at hm
              refine iv_aload_n (pc := 148) X dX7_close_148 rfl ?_
              obtain ⟨⟨r41, S40⟩, hc42, hm⟩ := bd_some hm
              refine cV_X7_321_3 (pc := 149) X [] [] 0 rfl (f_X7_endLetValue_e l g ad  S36 _ _ hc42) (by decide) (by decide) (Nat.le_of_ble_eq_true rfl) rfl dX7_close_149 ?_
              refine iv_if_eq (pc := 152) X dX7_close_152 (tgt := 159) rfl (fun hb43 => ?_) (fun hb43 => ?_)
              · rw [if_pos hb43] at hm
                refine iv_iconst (pc := 159) X dX7_close_159 ic_0 ?_
                cases hm
                exact is_zret (pc := 160) X dX7_close_160 rfl
              · rw [if_neg hb43] at hm
                refine iv_iconst (pc := 155) X dX7_close_155 ic_1 ?_
                refine iv_goto (pc := 156) X dX7_close_156 (tgt := 160) rfl ?_
                cases hm
                exact is_zret (pc := 160) X dX7_close_160 rfl
          · rw [if_neg hb35] at hm
            by_cases hb44 : r2 = (15 : Int32)
            · rw [if_pos hb44] at hm
              refine iv_tableIn X dX7_close_7 (off := 232) (tgt := 239) (by rw [hb44]; decide) (by rw [hb44]; decide) (by rw [hb44]; decide) (by decide) ?_
              refine iv_aload_n (pc := 239) X dX7_close_239 rfl ?_
              refine iv_bipush (pc := 240) X dX7_close_240 bc_93 ?_
              obtain ⟨⟨r46, S45⟩, hc47, hm⟩ := bd_some hm
              refine cV_X7_125_3 (pc := 242) X [.int 93] [] 1 rfl (f_X7_take_e l g ad 93 S1 _ _ hc47) (by decide) (by decide) (Nat.le_of_ble_eq_true rfl) rfl dX7_close_242 ?_
              refine iv_if_eq (pc := 245) X dX7_close_245 (tgt := 268) rfl (fun hb48 => ?_) (fun hb48 => ?_)
              · rw [if_pos hb48] at hm
                refine iv_iconst (pc := 268) X dX7_close_268 ic_0 ?_
                cases hm
                exact is_zret (pc := 269) X dX7_close_269 rfl
              · rw [if_neg hb48] at hm
                refine iv_aload_n (pc := 248) X dX7_close_248 rfl ?_
                refine iv_bipush (pc := 249) X dX7_close_249 bc_14 ?_
                obtain ⟨⟨r50, S49⟩, hc51, hm⟩ := bd_some hm
                refine cV_X7_125_3 (pc := 251) X [.int 14] [] 1 rfl (f_X7_take_e l g ad 14 S45 _ _ hc51) (by decide) (by decide) (Nat.le_of_ble_eq_true rfl) rfl dX7_close_251 ?_
                refine iv_if_eq (pc := 254) X dX7_close_254 (tgt := 268) rfl (fun hb52 => ?_) (fun hb52 => ?_)
                · rw [if_pos hb52] at hm
                  refine iv_iconst (pc := 268) X dX7_close_268 ic_0 ?_
                  cases hm
                  exact is_zret (pc := 269) X dX7_close_269 rfl
                · rw [if_neg hb52] at hm
                  refine iv_aload_n (pc := 257) X dX7_close_257 rfl ?_
                  obtain ⟨⟨r54, S53⟩, hc55, hm⟩ := bd_some hm
                  refine cV_X7_339_3 (pc := 258) X [] [] 0 rfl (f_X7_endTabSize_e l g ad  S49 _ _ hc55) (by decide) (by decide) (Nat.le_of_ble_eq_true rfl) rfl dX7_close_258 ?_
                  refine iv_if_eq (pc := 261) X dX7_close_261 (tgt := 268) rfl (fun hb56 => ?_) (fun hb56 => ?_)
                  · rw [if_pos hb56] at hm
                    refine iv_iconst (pc := 268) X dX7_close_268 ic_0 ?_
                    cases hm
                    exact is_zret (pc := 269) X dX7_close_269 rfl
                  · rw [if_neg hb56] at hm
                    refine iv_iconst (pc := 264) X dX7_close_264 ic_1 ?_
                    refine iv_goto (pc := 265) X dX7_close_265 (tgt := 269) rfl ?_
                    cases hm
                    exact is_zret (pc := 269) X dX7_close_269 rfl
            · rw [if_neg hb44] at hm
              by_cases hb57 : r2 = (16 : Int32)
              · rw [if_pos hb57] at hm
                refine iv_tableIn X dX7_close_7 (off := 154) (tgt := 161) (by rw [hb57]; decide) (by rw [hb57]; decide) (by rw [hb57]; decide) (by decide) ?_
                refine iv_aload_n (pc := 161) X dX7_close_161 rfl ?_
                refine iv_bipush (pc := 162) X dX7_close_162 bc_7 ?_
                obtain ⟨⟨r59, S58⟩, hc60, hm⟩ := bd_some hm
                refine cV_X7_125_3 (pc := 164) X [.int 7] [] 1 rfl (f_X7_take_e l g ad 7 S1 _ _ hc60) (by decide) (by decide) (Nat.le_of_ble_eq_true rfl) rfl dX7_close_164 ?_
                refine iv_if_eq (pc := 167) X dX7_close_167 (tgt := 181) rfl (fun hb61 => ?_) (fun hb61 => ?_)
                · rw [if_pos hb61] at hm
                  refine iv_iconst (pc := 181) X dX7_close_181 ic_0 ?_
                  cases hm
                  exact is_zret (pc := 182) X dX7_close_182 rfl
                · rw [if_neg hb61] at hm
                  refine iv_aload_n (pc := 170) X dX7_close_170 rfl ?_
                  obtain ⟨⟨r63, S62⟩, hc64, hm⟩ := bd_some hm
                  refine cV_X7_324_3 (pc := 171) X [] [] 0 rfl (f_X7_endCondition_e l g ad  S58 _ _ hc64) (by decide) (by decide) (Nat.le_of_ble_eq_true rfl) rfl dX7_close_171 ?_
                  refine iv_if_eq (pc := 174) X dX7_close_174 (tgt := 181) rfl (fun hb65 => ?_) (fun hb65 => ?_)
                  · rw [if_pos hb65] at hm
                    refine iv_iconst (pc := 181) X dX7_close_181 ic_0 ?_
                    cases hm
                    exact is_zret (pc := 182) X dX7_close_182 rfl
                  · rw [if_neg hb65] at hm
                    refine iv_iconst (pc := 177) X dX7_close_177 ic_1 ?_
                    refine iv_goto (pc := 178) X dX7_close_178 (tgt := 182) rfl ?_
                    cases hm
                    exact is_zret (pc := 182) X dX7_close_182 rfl
              · rw [if_neg hb57] at hm
                by_cases hb66 : r2 = (17 : Int32)
                · rw [if_pos hb66] at hm
                  refine iv_tableIn X dX7_close_7 (off := 176) (tgt := 183) (by rw [hb66]; decide) (by rw [hb66]; decide) (by rw [hb66]; decide) (by decide) ?_
                  refine iv_aload_n (pc := 183) X dX7_close_183 rfl ?_
                  refine iv_bipush (pc := 184) X dX7_close_184 bc_8 ?_
                  obtain ⟨⟨r68, S67⟩, hc69, hm⟩ := bd_some hm
                  refine cV_X7_125_3 (pc := 186) X [.int 8] [] 1 rfl (f_X7_take_e l g ad 8 S1 _ _ hc69) (by decide) (by decide) (Nat.le_of_ble_eq_true rfl) rfl dX7_close_186 ?_
                  refine iv_if_eq (pc := 189) X dX7_close_189 (tgt := 203) rfl (fun hb70 => ?_) (fun hb70 => ?_)
                  · rw [if_pos hb70] at hm
                    refine iv_iconst (pc := 203) X dX7_close_203 ic_0 ?_
                    cases hm
                    exact is_zret (pc := 204) X dX7_close_204 rfl
                  · rw [if_neg hb70] at hm
                    refine iv_aload_n (pc := 192) X dX7_close_192 rfl ?_
                    obtain ⟨⟨r72, S71⟩, hc73, hm⟩ := bd_some hm
                    refine cV_X7_327_3 (pc := 193) X [] [] 0 rfl (f_X7_endThenPart_e l g ad  S67 _ _ hc73) (by decide) (by decide) (Nat.le_of_ble_eq_true rfl) rfl dX7_close_193 ?_
                    refine iv_if_eq (pc := 196) X dX7_close_196 (tgt := 203) rfl (fun hb74 => ?_) (fun hb74 => ?_)
                    · rw [if_pos hb74] at hm
                      refine iv_iconst (pc := 203) X dX7_close_203 ic_0 ?_
                      cases hm
                      exact is_zret (pc := 204) X dX7_close_204 rfl
                    · rw [if_neg hb74] at hm
                      refine iv_iconst (pc := 199) X dX7_close_199 ic_1 ?_
                      refine iv_goto (pc := 200) X dX7_close_200 (tgt := 204) rfl ?_
                      cases hm
                      exact is_zret (pc := 204) X dX7_close_204 rfl
                · rw [if_neg hb66] at hm
                  by_cases hb75 : r2 = (18 : Int32)
                  · rw [if_pos hb75] at hm
                    refine iv_tableIn X dX7_close_7 (off := 232) (tgt := 239) (by rw [hb75]; decide) (by rw [hb75]; decide) (by rw [hb75]; decide) (by decide) ?_
                    refine iv_aload_n (pc := 239) X dX7_close_239 rfl ?_
                    refine iv_bipush (pc := 240) X dX7_close_240 bc_93 ?_
                    obtain ⟨⟨r77, S76⟩, hc78, hm⟩ := bd_some hm
                    refine cV_X7_125_3 (pc := 242) X [.int 93] [] 1 rfl (f_X7_take_e l g ad 93 S1 _ _ hc78) (by decide) (by decide) (Nat.le_of_ble_eq_true rfl) rfl dX7_close_242 ?_
                    refine iv_if_eq (pc := 245) X dX7_close_245 (tgt := 268) rfl (fun hb79 => ?_) (fun hb79 => ?_)
                    · rw [if_pos hb79] at hm
                      refine iv_iconst (pc := 268) X dX7_close_268 ic_0 ?_
                      cases hm
                      exact is_zret (pc := 269) X dX7_close_269 rfl
                    · rw [if_neg hb79] at hm
                      refine iv_aload_n (pc := 248) X dX7_close_248 rfl ?_
                      refine iv_bipush (pc := 249) X dX7_close_249 bc_14 ?_
                      obtain ⟨⟨r81, S80⟩, hc82, hm⟩ := bd_some hm
                      refine cV_X7_125_3 (pc := 251) X [.int 14] [] 1 rfl (f_X7_take_e l g ad 14 S76 _ _ hc82) (by decide) (by decide) (Nat.le_of_ble_eq_true rfl) rfl dX7_close_251 ?_
                      refine iv_if_eq (pc := 254) X dX7_close_254 (tgt := 268) rfl (fun hb83 => ?_) (fun hb83 => ?_)
                      · rw [if_pos hb83] at hm
                        refine iv_iconst (pc := 268) X dX7_close_268 ic_0 ?_
                        cases hm
                        exact is_zret (pc := 269) X dX7_close_269 rfl
                      · rw [if_neg hb83] at hm
                        refine iv_aload_n (pc := 257) X dX7_close_257 rfl ?_
                        obtain ⟨⟨r85, S84⟩, hc86, hm⟩ := bd_some hm
                        refine cV_X7_339_3 (pc := 258) X [] [] 0 rfl (f_X7_endTabSize_e l g ad  S80 _ _ hc86) (by decide) (by decide) (Nat.le_of_ble_eq_true rfl) rfl dX7_close_258 ?_
                        refine iv_if_eq (pc := 261) X dX7_close_261 (tgt := 268) rfl (fun hb87 => ?_) (fun hb87 => ?_)
                        · rw [if_pos hb87] at hm
                          refine iv_iconst (pc := 268) X dX7_close_268 ic_0 ?_
                          cases hm
                          exact is_zret (pc := 269) X dX7_close_269 rfl
                        · rw [if_neg hb87] at hm
                          refine iv_iconst (pc := 264) X dX7_close_264 ic_1 ?_
                          refine iv_goto (pc := 265) X dX7_close_265 (tgt := 269) rfl ?_
                          cases hm
                          exact is_zret (pc := 269) X dX7_close_269 rfl
                  · rw [if_neg hb75] at hm
                    by_cases hb88 : r2 = (19 : Int32)
                    · rw [if_pos hb88] at hm
                      refine iv_tableIn X dX7_close_7 (off := 198) (tgt := 205) (by rw [hb88]; decide) (by rw [hb88]; decide) (by rw [hb88]; decide) (by decide) ?_
                      refine iv_aload_n (pc := 205) X dX7_close_205 rfl ?_
                      refine iv_iload_n (pc := 206) X dX7_close_206 rfl ?_
                      obtain ⟨⟨r90, S89⟩, hc91, hm⟩ := bd_some hm
                      refine cV_X7_330_3 (pc := 207) X [.int x1] [] 1 rfl (f_X7_endFirstValue_e l g ad fu x1 S1 _ _ hc91) (by decide) (by decide) (Nat.le_of_ble_eq_true rfl) rfl dX7_close_207 ?_
                      obtain ⟨hg, hm⟩ := gd_some hm
                      cases hm
                      exact is_zret (pc := 210) X dX7_close_210 (z_b_n hg)
                    · rw [if_neg hb88] at hm
                      by_cases hb92 : r2 = (20 : Int32)
                      · rw [if_pos hb92] at hm
                        refine iv_tableIn X dX7_close_7 (off := 204) (tgt := 211) (by rw [hb92]; decide) (by rw [hb92]; decide) (by rw [hb92]; decide) (by decide) ?_
                        refine iv_aload_n (pc := 211) X dX7_close_211 rfl ?_
                        refine iv_bipush (pc := 212) X dX7_close_212 bc_11 ?_
                        obtain ⟨⟨r94, S93⟩, hc95, hm⟩ := bd_some hm
                        refine cV_X7_125_3 (pc := 214) X [.int 11] [] 1 rfl (f_X7_take_e l g ad 11 S1 _ _ hc95) (by decide) (by decide) (Nat.le_of_ble_eq_true rfl) rfl dX7_close_214 ?_
                        refine iv_if_eq (pc := 217) X dX7_close_217 (tgt := 231) rfl (fun hb96 => ?_) (fun hb96 => ?_)
                        · rw [if_pos hb96] at hm
                          refine iv_iconst (pc := 231) X dX7_close_231 ic_0 ?_
                          cases hm
                          exact is_zret (pc := 232) X dX7_close_232 rfl
                        · rw [if_neg hb96] at hm
                          refine iv_aload_n (pc := 220) X dX7_close_220 rfl ?_
                          obtain ⟨⟨r98, S97⟩, hc99, hm⟩ := bd_some hm
                          refine cV_X7_333_3 (pc := 221) X [] [] 0 rfl (f_X7_endWhilePart_e l g ad  S93 _ _ hc99) (by decide) (by decide) (Nat.le_of_ble_eq_true rfl) rfl dX7_close_221 ?_
                          refine iv_if_eq (pc := 224) X dX7_close_224 (tgt := 231) rfl (fun hb100 => ?_) (fun hb100 => ?_)
                          · rw [if_pos hb100] at hm
                            refine iv_iconst (pc := 231) X dX7_close_231 ic_0 ?_
                            cases hm
                            exact is_zret (pc := 232) X dX7_close_232 rfl
                          · rw [if_neg hb100] at hm
                            refine iv_iconst (pc := 227) X dX7_close_227 ic_1 ?_
                            refine iv_goto (pc := 228) X dX7_close_228 (tgt := 232) rfl ?_
                            cases hm
                            exact is_zret (pc := 232) X dX7_close_232 rfl
                      · rw [if_neg hb92] at hm
                        by_cases hb101 : r2 = (21 : Int32)
                        · rw [if_pos hb101] at hm
                          refine iv_tableIn X dX7_close_7 (off := 226) (tgt := 233) (by rw [hb101]; decide) (by rw [hb101]; decide) (by rw [hb101]; decide) (by decide) ?_
                          refine iv_aload_n (pc := 233) X dX7_close_233 rfl ?_
                          refine iv_iload_n (pc := 234) X dX7_close_234 rfl ?_
                          obtain ⟨⟨r103, S102⟩, hc104, hm⟩ := bd_some hm
                          refine cV_X7_336_3 (pc := 235) X [.int x1] [] 1 rfl (f_X7_endNextValue_e l g ad fu x1 S1 _ _ hc104) (by decide) (by decide) (Nat.le_of_ble_eq_true rfl) rfl dX7_close_235 ?_
                          obtain ⟨hg, hm⟩ := gd_some hm
                          cases hm
                          exact is_zret (pc := 238) X dX7_close_238 (z_b_n hg)
                        · rw [if_neg hb101] at hm
                          have k0 := sw_ne hb4 (n := 10) (by decide)
                          have k1 := sw_ne hb13 (n := 11) (by decide)
                          have k2 := sw_ne hb22 (n := 12) (by decide)
                          have k3 := sw_ne hb31 (n := 13) (by decide)
                          have k4 := sw_ne hb35 (n := 14) (by decide)
                          have k5 := sw_ne hb44 (n := 15) (by decide)
                          have k6 := sw_ne hb57 (n := 16) (by decide)
                          have k7 := sw_ne hb66 (n := 17) (by decide)
                          have k8 := sw_ne hb75 (n := 18) (by decide)
                          have k9 := sw_ne hb88 (n := 19) (by decide)
                          have k10 := sw_ne hb92 (n := 20) (by decide)
                          have k11 := sw_ne hb101 (n := 21) (by decide)
                          refine iv_tableOut X dX7_close_7 (tgt := 239) (by omega) (by decide) ?_
                          refine iv_aload_n (pc := 239) X dX7_close_239 rfl ?_
                          refine iv_bipush (pc := 240) X dX7_close_240 bc_93 ?_
                          obtain ⟨⟨r106, S105⟩, hc107, hm⟩ := bd_some hm
                          refine cV_X7_125_3 (pc := 242) X [.int 93] [] 1 rfl (f_X7_take_e l g ad 93 S1 _ _ hc107) (by decide) (by decide) (Nat.le_of_ble_eq_true rfl) rfl dX7_close_242 ?_
                          refine iv_if_eq (pc := 245) X dX7_close_245 (tgt := 268) rfl (fun hb108 => ?_) (fun hb108 => ?_)
                          · rw [if_pos hb108] at hm
                            refine iv_iconst (pc := 268) X dX7_close_268 ic_0 ?_
                            cases hm
                            exact is_zret (pc := 269) X dX7_close_269 rfl
                          · rw [if_neg hb108] at hm
                            refine iv_aload_n (pc := 248) X dX7_close_248 rfl ?_
                            refine iv_bipush (pc := 249) X dX7_close_249 bc_14 ?_
                            obtain ⟨⟨r110, S109⟩, hc111, hm⟩ := bd_some hm
                            refine cV_X7_125_3 (pc := 251) X [.int 14] [] 1 rfl (f_X7_take_e l g ad 14 S105 _ _ hc111) (by decide) (by decide) (Nat.le_of_ble_eq_true rfl) rfl dX7_close_251 ?_
                            refine iv_if_eq (pc := 254) X dX7_close_254 (tgt := 268) rfl (fun hb112 => ?_) (fun hb112 => ?_)
                            · rw [if_pos hb112] at hm
                              refine iv_iconst (pc := 268) X dX7_close_268 ic_0 ?_
                              cases hm
                              exact is_zret (pc := 269) X dX7_close_269 rfl
                            · rw [if_neg hb112] at hm
                              refine iv_aload_n (pc := 257) X dX7_close_257 rfl ?_
                              obtain ⟨⟨r114, S113⟩, hc115, hm⟩ := bd_some hm
                              refine cV_X7_339_3 (pc := 258) X [] [] 0 rfl (f_X7_endTabSize_e l g ad  S109 _ _ hc115) (by decide) (by decide) (Nat.le_of_ble_eq_true rfl) rfl dX7_close_258 ?_
                              refine iv_if_eq (pc := 261) X dX7_close_261 (tgt := 268) rfl (fun hb116 => ?_) (fun hb116 => ?_)
                              · rw [if_pos hb116] at hm
                                refine iv_iconst (pc := 268) X dX7_close_268 ic_0 ?_
                                cases hm
                                exact is_zret (pc := 269) X dX7_close_269 rfl
                              · rw [if_neg hb116] at hm
                                refine iv_iconst (pc := 264) X dX7_close_264 ic_1 ?_
                                refine iv_goto (pc := 265) X dX7_close_265 (tgt := 269) rfl ?_
                                cases hm
                                exact is_zret (pc := 269) X dX7_close_269 rfl
def f_X7_header (fu : Nat) (S : im_S) : Option (Int32 × im_S) := (f_X7_kindHere S).bind (fun qS1 => if (qS1.1 : Int32) = 1 then (gd (in_b (qS1.2.1 3 6) 501) ((f_X4_findFunction fu ((qS1.2.2.1 33) ((qS1.2.1 3 6).toNatClampNeg)) qS1.2).bind (fun qS5 => if (qS5.1 : Int32) = (-1) then ((f_X4_addFunction ((qS1.2.2.1 33) ((qS1.2.1 3 6).toNatClampNeg)) qS5.2).bind (fun qS9 => gd (in_b qS9.1 8) ((f_X6_push 10 qS9.1 ((qS9.2.1 24) qS9.1.toNatClampNeg) (uI (uI (uI (uI qS9.2 3 6 ((qS9.2.1 3 6) + 1)) 3 5 0) 3 9 0) 34 3 0)).bind (fun qS12 => (f_X7_take 40 (uI qS12.2 3 7 0)).bind (fun qS15 => if (qS15.1 : Int32) = 0 then (some (0, qS15.2)) else ((f_X7_parameters fu qS9.1 qS15.2).bind (fun qS19 => if (qS19.1 : Int32) = 0 then (some (0, qS19.2)) else ((f_X7_take 41 qS19.2).bind (fun qS23 => if (qS23.1 : Int32) = 0 then (some (0, qS23.2)) else ((f_X7_take 61 qS23.2).bind (fun qS27 => if (qS27.1 : Int32) = 0 then (some (0, qS27.2)) else (some (1, qS27.2))))))))))))) else ((f_X7_placeHere qS5.2).bind (fun qS31 => (f_X1_note 2 qS31.1 qS31.2).bind (fun qS34 => (f_X4_addFunction ((qS1.2.2.1 33) ((qS1.2.1 3 6).toNatClampNeg)) qS34.2).bind (fun qS37 => gd (in_b qS37.1 8) ((f_X6_push 10 qS37.1 ((qS37.2.1 24) qS37.1.toNatClampNeg) (uI (uI (uI (uI qS37.2 3 6 ((qS37.2.1 3 6) + 1)) 3 5 0) 3 9 0) 34 3 0)).bind (fun qS40 => (f_X7_take 40 (uI qS40.2 3 7 0)).bind (fun qS43 => if (qS43.1 : Int32) = 0 then (some (0, qS43.2)) else ((f_X7_parameters fu qS37.1 qS43.2).bind (fun qS47 => if (qS47.1 : Int32) = 0 then (some (0, qS47.2)) else ((f_X7_take 41 qS47.2).bind (fun qS51 => if (qS51.1 : Int32) = 0 then (some (0, qS51.2)) else ((f_X7_take 61 qS51.2).bind (fun qS55 => if (qS55.1 : Int32) = 0 then (some (0, qS55.2)) else (some (1, qS55.2)))))))))))))))))) else ((f_X7_refuse qS1.2).bind (fun qS59 => gd (z_b qS59.1) (some (qS59.1, qS59.2)))))
set_option maxHeartbeats 4000000 in
set_option maxRecDepth 100000 in
theorem f_X7_header_e (l : Launch) (g : im_G) (ad : Nat → Nat) (fu : Nat) (S : im_S) (r : Int32) (S' : im_S) (hm : f_X7_header fu  S = some (r, S')) : im_E l g ad 4 yX7_header cX7_header 4 (some Jvm.ClassFile.FieldType.boolean) [.ref (ad 3)] S (some (.int r)) S' := by
  unfold f_X7_header at hm
  refine is_met (own := RX7) (by decide +kernel) rfl (Nat.le_of_ble_eq_true rfl) (fun p e s m below meth c X => ?_)
  refine iv_aload_n (pc := 0) X dX7_header_0 rfl ?_
  obtain ⟨⟨r2, S1⟩, hc3, hm⟩ := bd_some hm
  refine cV_X7_62_3 (pc := 1) X [] [] 0 rfl (f_X7_kindHere_e l g ad  S _ _ hc3) (by decide) (by decide) (Nat.le_of_ble_eq_true rfl) rfl dX7_header_1 ?_
  refine iv_iconst (pc := 4) X dX7_header_4 ic_1 ?_
  refine iv_icmp_eq (pc := 5) X dX7_header_5 (tgt := 13) rfl (fun hb4 => ?_) (fun hb4 => ?_)
  · rw [if_pos hb4] at hm
    refine iv_aload_n (pc := 13) X dX7_header_13 rfl ?_
    refine gF_X7_28_3 (pc := 14) X dX7_header_14 ?_
    refine gF_X7_82_30 (pc := 17) X dX7_header_17 ?_
    refine iv_aload_n (pc := 20) X dX7_header_20 rfl ?_
    refine gF_X7_51_3 (pc := 21) X dX7_header_21 (x := S1.1 3 6) rfl ?_
    obtain ⟨hg, hm⟩ := gd_some hm
    refine aL_33 (pc := 24) X dX7_header_24 hg (x := (S1.2.1 33) ((S1.1 3 6).toNatClampNeg)) rfl ?_
    refine iv_lstore_n (pc := 25) X dX7_header_25 (by decide) (lv' := [(1, .long ((S1.2.1 33) ((S1.1 3 6).toNatClampNeg))), (0, .ref (ad 3))]) rfl ?_
    refine iv_aload_n (pc := 26) X dX7_header_26 rfl ?_
    refine gF_X7_21_3 (pc := 27) X dX7_header_27 ?_
    refine gF_X7_86_6 (pc := 30) X dX7_header_30 ?_
    refine iv_lload_n (pc := 33) X dX7_header_33 rfl ?_
    obtain ⟨⟨r6, S5⟩, hc7, hm⟩ := bd_some hm
    refine cV_X7_90_22 (pc := 34) X [.long ((S1.2.1 33) ((S1.1 3 6).toNatClampNeg))] [] 1 rfl (f_X4_findFunction_e l g ad fu ((S1.2.1 33) ((S1.1 3 6).toNatClampNeg)) S1 _ _ hc7) (by decide) (by decide) (Nat.le_of_ble_eq_true rfl) rfl dX7_header_34 ?_
    refine iv_iconst (pc := 37) X dX7_header_37 ic_m1 ?_
    refine iv_icmp_eq (pc := 38) X dX7_header_38 (tgt := 53) rfl (fun hb8 => ?_) (fun hb8 => ?_)
    · rw [if_pos hb8] at hm
      refine iv_aload_n (pc := 53) X dX7_header_53 rfl ?_
      refine gF_X7_21_3 (pc := 54) X dX7_header_54 ?_
      refine gF_X7_86_6 (pc := 57) X dX7_header_57 ?_
      refine iv_lload_n (pc := 60) X dX7_header_60 rfl ?_
      obtain ⟨⟨r10, S9⟩, hc11, hm⟩ := bd_some hm
      refine cV_X7_103_22 (pc := 61) X [.long ((S1.2.1 33) ((S1.1 3 6).toNatClampNeg))] [] 1 rfl (f_X4_addFunction_e l g ad ((S1.2.1 33) ((S1.1 3 6).toNatClampNeg)) S5 _ _ hc11) (by decide) (by decide) (Nat.le_of_ble_eq_true rfl) rfl dX7_header_61 ?_
      refine iv_istore_n (pc := 64) X dX7_header_64 (by decide) (lv' := [(3, .int r10), (1, .long ((S1.2.1 33) ((S1.1 3 6).toNatClampNeg))), (0, .ref (ad 3))]) rfl ?_
      refine iv_aload_n (pc := 65) X dX7_header_65 rfl ?_
      refine iv_dup (pc := 66) X dX7_header_66 rfl ?_
      refine gF_X7_51_3 (pc := 67) X dX7_header_67 (x := S9.1 3 6) rfl ?_
      refine iv_iconst (pc := 70) X dX7_header_70 ic_1 ?_
      refine iv_iadd (pc := 71) X dX7_header_71 ?_
      refine pF_X7_51_3 (pc := 72) X dX7_header_72 ?_
      refine iv_aload_n (pc := 75) X dX7_header_75 rfl ?_
      refine iv_iconst (pc := 76) X dX7_header_76 ic_0 ?_
      refine pF_X7_106_3 (pc := 77) X dX7_header_77 ?_
      refine iv_aload_n (pc := 80) X dX7_header_80 rfl ?_
      refine iv_iconst (pc := 81) X dX7_header_81 ic_0 ?_
      refine pF_X7_109_3 (pc := 82) X dX7_header_82 ?_
      refine iv_aload_n (pc := 85) X dX7_header_85 rfl ?_
      refine gF_X7_35_3 (pc := 86) X dX7_header_86 ?_
      refine iv_iconst (pc := 89) X dX7_header_89 ic_0 ?_
      refine pF_X7_112_34 (pc := 90) X dX7_header_90 ?_
      refine iv_aload_n (pc := 93) X dX7_header_93 rfl ?_
      refine gF_X7_35_3 (pc := 94) X dX7_header_94 ?_
      refine iv_bipush (pc := 97) X dX7_header_97 bc_10 ?_
      refine iv_iload_n (pc := 99) X dX7_header_99 rfl ?_
      refine iv_aload_n (pc := 100) X dX7_header_100 rfl ?_
      refine gF_X7_21_3 (pc := 101) X dX7_header_101 ?_
      refine gF_X7_86_6 (pc := 104) X dX7_header_104 ?_
      refine gF_X7_115_22 (pc := 107) X dX7_header_107 ?_
      refine iv_iload_n (pc := 110) X dX7_header_110 rfl ?_
      obtain ⟨hg, hm⟩ := gd_some hm
      refine aL_24 (pc := 111) X dX7_header_111 hg (x := (S9.1 24) r10.toNatClampNeg) rfl ?_
      obtain ⟨⟨r13, S12⟩, hc14, hm⟩ := bd_some hm
      refine cV_X7_118_34 (pc := 112) X [.int 10, .int r10, .int ((S9.1 24) r10.toNatClampNeg)] [] 3 rfl (f_X6_push_e l g ad 10 r10 ((S9.1 24) r10.toNatClampNeg) (uI (uI (uI (uI S9 3 6 ((S9.1 3 6) + 1)) 3 5 0) 3 9 0) 34 3 0) _ _ hc14) (by decide) (by decide) (Nat.le_of_ble_eq_true rfl) rfl dX7_header_112 ?_
      refine iv_aload_n (pc := 115) X dX7_header_115 rfl ?_
      refine iv_iconst (pc := 116) X dX7_header_116 ic_0 ?_
      refine pF_X7_122_3 (pc := 117) X dX7_header_117 ?_
      refine iv_aload_n (pc := 120) X dX7_header_120 rfl ?_
      refine iv_bipush (pc := 121) X dX7_header_121 bc_40 ?_
      obtain ⟨⟨r16, S15⟩, hc17, hm⟩ := bd_some hm
      refine cV_X7_125_3 (pc := 123) X [.int 40] [] 1 rfl (f_X7_take_e l g ad 40 (uI S12 3 7 0) _ _ hc17) (by decide) (by decide) (Nat.le_of_ble_eq_true rfl) rfl dX7_header_123 ?_
      refine iv_if_eq (pc := 126) X dX7_header_126 (tgt := 159) rfl (fun hb18 => ?_) (fun hb18 => ?_)
      · rw [if_pos hb18] at hm
        refine iv_iconst (pc := 159) X dX7_header_159 ic_0 ?_
        cases hm
        exact is_zret (pc := 160) X dX7_header_160 rfl
      · rw [if_neg hb18] at hm
        refine iv_aload_n (pc := 129) X dX7_header_129 rfl ?_
        refine iv_iload_n (pc := 130) X dX7_header_130 rfl ?_
        obtain ⟨⟨r20, S19⟩, hc21, hm⟩ := bd_some hm
        refine cV_X7_129_3 (pc := 131) X [.int r10] [] 1 rfl (f_X7_parameters_e l g ad fu r10 S15 _ _ hc21) (by decide) (by decide) (Nat.le_of_ble_eq_true rfl) rfl dX7_header_131 ?_
        refine iv_if_eq (pc := 134) X dX7_header_134 (tgt := 159) rfl (fun hb22 => ?_) (fun hb22 => ?_)
        · rw [if_pos hb22] at hm
          refine iv_iconst (pc := 159) X dX7_header_159 ic_0 ?_
          cases hm
          exact is_zret (pc := 160) X dX7_header_160 rfl
        · rw [if_neg hb22] at hm
          refine iv_aload_n (pc := 137) X dX7_header_137 rfl ?_
          refine iv_bipush (pc := 138) X dX7_header_138 bc_41 ?_
          obtain ⟨⟨r24, S23⟩, hc25, hm⟩ := bd_some hm
          refine cV_X7_125_3 (pc := 140) X [.int 41] [] 1 rfl (f_X7_take_e l g ad 41 S19 _ _ hc25) (by decide) (by decide) (Nat.le_of_ble_eq_true rfl) rfl dX7_header_140 ?_
          refine iv_if_eq (pc := 143) X dX7_header_143 (tgt := 159) rfl (fun hb26 => ?_) (fun hb26 => ?_)
          · rw [if_pos hb26] at hm
            refine iv_iconst (pc := 159) X dX7_header_159 ic_0 ?_
            cases hm
            exact is_zret (pc := 160) X dX7_header_160 rfl
          · rw [if_neg hb26] at hm
            refine iv_aload_n (pc := 146) X dX7_header_146 rfl ?_
            refine iv_bipush (pc := 147) X dX7_header_147 bc_61 ?_
            obtain ⟨⟨r28, S27⟩, hc29, hm⟩ := bd_some hm
            refine cV_X7_125_3 (pc := 149) X [.int 61] [] 1 rfl (f_X7_take_e l g ad 61 S23 _ _ hc29) (by decide) (by decide) (Nat.le_of_ble_eq_true rfl) rfl dX7_header_149 ?_
            refine iv_if_eq (pc := 152) X dX7_header_152 (tgt := 159) rfl (fun hb30 => ?_) (fun hb30 => ?_)
            · rw [if_pos hb30] at hm
              refine iv_iconst (pc := 159) X dX7_header_159 ic_0 ?_
              cases hm
              exact is_zret (pc := 160) X dX7_header_160 rfl
            · rw [if_neg hb30] at hm
              refine iv_iconst (pc := 155) X dX7_header_155 ic_1 ?_
              refine iv_goto (pc := 156) X dX7_header_156 (tgt := 160) rfl ?_
              cases hm
              exact is_zret (pc := 160) X dX7_header_160 rfl
    · rw [if_neg hb8] at hm
      refine iv_aload_n (pc := 41) X dX7_header_41 rfl ?_
      refine gF_X7_12_3 (pc := 42) X dX7_header_42 ?_
      refine iv_iconst (pc := 45) X dX7_header_45 ic_2 ?_
      refine iv_aload_n (pc := 46) X dX7_header_46 rfl ?_
      obtain ⟨⟨r32, S31⟩, hc33, hm⟩ := bd_some hm
      refine cV_X7_96_3 (pc := 47) X [] [.int 2, .ref (ad 5)] 0 rfl (f_X7_placeHere_e l g ad  S5 _ _ hc33) (by decide) (by decide) (Nat.le_of_ble_eq_true rfl) rfl dX7_header_47 ?_
      obtain ⟨⟨r35, S34⟩, hc36, hm⟩ := bd_some hm
      refine cV_X7_99_5 (pc := 50) X [.int 2, .int r32] [] 2 rfl (f_X1_note_e l g ad 2 r32 S31 _ _ hc36) (by decide) (by decide) (Nat.le_of_ble_eq_true rfl) rfl dX7_header_50 ?_
      refine iv_aload_n (pc := 53) X dX7_header_53 rfl ?_
      refine gF_X7_21_3 (pc := 54) X dX7_header_54 ?_
      refine gF_X7_86_6 (pc := 57) X dX7_header_57 ?_
      refine iv_lload_n (pc := 60) X dX7_header_60 rfl ?_
      obtain ⟨⟨r38, S37⟩, hc39, hm⟩ := bd_some hm
      refine cV_X7_103_22 (pc := 61) X [.long ((S1.2.1 33) ((S1.1 3 6).toNatClampNeg))] [] 1 rfl (f_X4_addFunction_e l g ad ((S1.2.1 33) ((S1.1 3 6).toNatClampNeg)) S34 _ _ hc39) (by decide) (by decide) (Nat.le_of_ble_eq_true rfl) rfl dX7_header_61 ?_
      refine iv_istore_n (pc := 64) X dX7_header_64 (by decide) (lv' := [(3, .int r38), (1, .long ((S1.2.1 33) ((S1.1 3 6).toNatClampNeg))), (0, .ref (ad 3))]) rfl ?_
      refine iv_aload_n (pc := 65) X dX7_header_65 rfl ?_
      refine iv_dup (pc := 66) X dX7_header_66 rfl ?_
      refine gF_X7_51_3 (pc := 67) X dX7_header_67 (x := S37.1 3 6) rfl ?_
      refine iv_iconst (pc := 70) X dX7_header_70 ic_1 ?_
      refine iv_iadd (pc := 71) X dX7_header_71 ?_
      refine pF_X7_51_3 (pc := 72) X dX7_header_72 ?_
      refine iv_aload_n (pc := 75) X dX7_header_75 rfl ?_
      refine iv_iconst (pc := 76) X dX7_header_76 ic_0 ?_
      refine pF_X7_106_3 (pc := 77) X dX7_header_77 ?_
      refine iv_aload_n (pc := 80) X dX7_header_80 rfl ?_
      refine iv_iconst (pc := 81) X dX7_header_81 ic_0 ?_
      refine pF_X7_109_3 (pc := 82) X dX7_header_82 ?_
      refine iv_aload_n (pc := 85) X dX7_header_85 rfl ?_
      refine gF_X7_35_3 (pc := 86) X dX7_header_86 ?_
      refine iv_iconst (pc := 89) X dX7_header_89 ic_0 ?_
      refine pF_X7_112_34 (pc := 90) X dX7_header_90 ?_
      refine iv_aload_n (pc := 93) X dX7_header_93 rfl ?_
      refine gF_X7_35_3 (pc := 94) X dX7_header_94 ?_
      refine iv_bipush (pc := 97) X dX7_header_97 bc_10 ?_
      refine iv_iload_n (pc := 99) X dX7_header_99 rfl ?_
      refine iv_aload_n (pc := 100) X dX7_header_100 rfl ?_
      refine gF_X7_21_3 (pc := 101) X dX7_header_101 ?_
      refine gF_X7_86_6 (pc := 104) X dX7_header_104 ?_
      refine gF_X7_115_22 (pc := 107) X dX7_header_107 ?_
      refine iv_iload_n (pc := 110) X dX7_header_110 rfl ?_
      obtain ⟨hg, hm⟩ := gd_some hm
      refine aL_24 (pc := 111) X dX7_header_111 hg (x := (S37.1 24) r38.toNatClampNeg) rfl ?_
      obtain ⟨⟨r41, S40⟩, hc42, hm⟩ := bd_some hm
      refine cV_X7_118_34 (pc := 112) X [.int 10, .int r38, .int ((S37.1 24) r38.toNatClampNeg)] [] 3 rfl (f_X6_push_e l g ad 10 r38 ((S37.1 24) r38.toNatClampNeg) (uI (uI (uI (uI S37 3 6 ((S37.1 3 6) + 1)) 3 5 0) 3 9 0) 34 3 0) _ _ hc42) (by decide) (by decide) (Nat.le_of_ble_eq_true rfl) rfl dX7_header_112 ?_
      refine iv_aload_n (pc := 115) X dX7_header_115 rfl ?_
      refine iv_iconst (pc := 116) X dX7_header_116 ic_0 ?_
      refine pF_X7_122_3 (pc := 117) X dX7_header_117 ?_
      refine iv_aload_n (pc := 120) X dX7_header_120 rfl ?_
      refine iv_bipush (pc := 121) X dX7_header_121 bc_40 ?_
      obtain ⟨⟨r44, S43⟩, hc45, hm⟩ := bd_some hm
      refine cV_X7_125_3 (pc := 123) X [.int 40] [] 1 rfl (f_X7_take_e l g ad 40 (uI S40 3 7 0) _ _ hc45) (by decide) (by decide) (Nat.le_of_ble_eq_true rfl) rfl dX7_header_123 ?_
      refine iv_if_eq (pc := 126) X dX7_header_126 (tgt := 159) rfl (fun hb46 => ?_) (fun hb46 => ?_)
      · rw [if_pos hb46] at hm
        refine iv_iconst (pc := 159) X dX7_header_159 ic_0 ?_
        cases hm
        exact is_zret (pc := 160) X dX7_header_160 rfl
      · rw [if_neg hb46] at hm
        refine iv_aload_n (pc := 129) X dX7_header_129 rfl ?_
        refine iv_iload_n (pc := 130) X dX7_header_130 rfl ?_
        obtain ⟨⟨r48, S47⟩, hc49, hm⟩ := bd_some hm
        refine cV_X7_129_3 (pc := 131) X [.int r38] [] 1 rfl (f_X7_parameters_e l g ad fu r38 S43 _ _ hc49) (by decide) (by decide) (Nat.le_of_ble_eq_true rfl) rfl dX7_header_131 ?_
        refine iv_if_eq (pc := 134) X dX7_header_134 (tgt := 159) rfl (fun hb50 => ?_) (fun hb50 => ?_)
        · rw [if_pos hb50] at hm
          refine iv_iconst (pc := 159) X dX7_header_159 ic_0 ?_
          cases hm
          exact is_zret (pc := 160) X dX7_header_160 rfl
        · rw [if_neg hb50] at hm
          refine iv_aload_n (pc := 137) X dX7_header_137 rfl ?_
          refine iv_bipush (pc := 138) X dX7_header_138 bc_41 ?_
          obtain ⟨⟨r52, S51⟩, hc53, hm⟩ := bd_some hm
          refine cV_X7_125_3 (pc := 140) X [.int 41] [] 1 rfl (f_X7_take_e l g ad 41 S47 _ _ hc53) (by decide) (by decide) (Nat.le_of_ble_eq_true rfl) rfl dX7_header_140 ?_
          refine iv_if_eq (pc := 143) X dX7_header_143 (tgt := 159) rfl (fun hb54 => ?_) (fun hb54 => ?_)
          · rw [if_pos hb54] at hm
            refine iv_iconst (pc := 159) X dX7_header_159 ic_0 ?_
            cases hm
            exact is_zret (pc := 160) X dX7_header_160 rfl
          · rw [if_neg hb54] at hm
            refine iv_aload_n (pc := 146) X dX7_header_146 rfl ?_
            refine iv_bipush (pc := 147) X dX7_header_147 bc_61 ?_
            obtain ⟨⟨r56, S55⟩, hc57, hm⟩ := bd_some hm
            refine cV_X7_125_3 (pc := 149) X [.int 61] [] 1 rfl (f_X7_take_e l g ad 61 S51 _ _ hc57) (by decide) (by decide) (Nat.le_of_ble_eq_true rfl) rfl dX7_header_149 ?_
            refine iv_if_eq (pc := 152) X dX7_header_152 (tgt := 159) rfl (fun hb58 => ?_) (fun hb58 => ?_)
            · rw [if_pos hb58] at hm
              refine iv_iconst (pc := 159) X dX7_header_159 ic_0 ?_
              cases hm
              exact is_zret (pc := 160) X dX7_header_160 rfl
            · rw [if_neg hb58] at hm
              refine iv_iconst (pc := 155) X dX7_header_155 ic_1 ?_
              refine iv_goto (pc := 156) X dX7_header_156 (tgt := 160) rfl ?_
              cases hm
              exact is_zret (pc := 160) X dX7_header_160 rfl
  · rw [if_neg hb4] at hm
    refine iv_aload_n (pc := 8) X dX7_header_8 rfl ?_
    obtain ⟨⟨r60, S59⟩, hc61, hm⟩ := bd_some hm
    refine cV_X7_66_3 (pc := 9) X [] [] 0 rfl (f_X7_refuse_e l g ad  S1 _ _ hc61) (by decide) (by decide) (Nat.le_of_ble_eq_true rfl) rfl dX7_header_9 ?_
    obtain ⟨hg, hm⟩ := gd_some hm
    cases hm
    exact is_zret (pc := 12) X dX7_header_12 (z_b_n hg)
def f_X7_operand (fu : Nat) (S : im_S) : Option (Int32 × im_S) := if (S.1 3 7 : Int32) ≠ 0 then ((f_X7_kindHere S).bind (fun qS2 => if qS2.1 = (1 : Int32) then (gd (in_b ((qS2.2.1 3 6) + 1) 501) (if ((qS2.2.1 31) (((qS2.2.1 3 6) + 1).toNatClampNeg) : Int32) ≠ 40 then ((f_X7_use fu qS2.2).bind (fun qS7 => gd (z_b qS7.1) (some (qS7.1, qS7.2)))) else ((f_X7_openCall fu qS2.2).bind (fun qS10 => gd (z_b qS10.1) (some (qS10.1, qS10.2)))))) else (if qS2.1 = (2 : Int32) then (gd (in_b (qS2.2.1 3 6) 501) ((f_X7_constant 1 ((qS2.2.2.1 33) ((qS2.2.1 3 6).toNatClampNeg)) qS2.2).bind (fun qS14 => gd (z_b qS14.1) (some (qS14.1, qS14.2))))) else (if qS2.1 = (3 : Int32) then ((f_X7_refuse qS2.2).bind (fun qS18 => gd (z_b qS18.1) (some (qS18.1, qS18.2)))) else (if qS2.1 = (4 : Int32) then (if (qS2.2.1 3 7 : Int32) ≠ 0 then ((f_X7_refuse qS2.2).bind (fun qS23 => gd (z_b qS23.1) (some (qS23.1, qS23.2)))) else ((f_X7_openLet fu qS2.2).bind (fun qS26 => gd (z_b qS26.1) (some (qS26.1, qS26.2))))) else (if qS2.1 = (5 : Int32) then ((f_X7_refuse qS2.2).bind (fun qS30 => gd (z_b qS30.1) (some (qS30.1, qS30.2)))) else (if qS2.1 = (6 : Int32) then (if (qS2.2.1 3 7 : Int32) ≠ 0 then ((f_X7_refuse qS2.2).bind (fun qS35 => gd (z_b qS35.1) (some (qS35.1, qS35.2)))) else ((f_X7_openChoice qS2.2).bind (fun qS38 => gd (z_b qS38.1) (some (qS38.1, qS38.2))))) else (if qS2.1 = (7 : Int32) then ((f_X7_refuse qS2.2).bind (fun qS42 => gd (z_b qS42.1) (some (qS42.1, qS42.2)))) else (if qS2.1 = (8 : Int32) then ((f_X7_refuse qS2.2).bind (fun qS46 => gd (z_b qS46.1) (some (qS46.1, qS46.2)))) else (if qS2.1 = (9 : Int32) then (if (qS2.2.1 3 7 : Int32) ≠ 0 then ((f_X7_refuse qS2.2).bind (fun qS51 => gd (z_b qS51.1) (some (qS51.1, qS51.2)))) else ((f_X7_openLoop qS2.2).bind (fun qS54 => gd (z_b qS54.1) (some (qS54.1, qS54.2))))) else (if qS2.1 = (10 : Int32) then ((f_X7_refuse qS2.2).bind (fun qS58 => gd (z_b qS58.1) (some (qS58.1, qS58.2)))) else (if qS2.1 = (11 : Int32) then ((f_X7_refuse qS2.2).bind (fun qS62 => gd (z_b qS62.1) (some (qS62.1, qS62.2)))) else (if qS2.1 = (12 : Int32) then ((f_X7_refuse qS2.2).bind (fun qS66 => gd (z_b qS66.1) (some (qS66.1, qS66.2)))) else (if qS2.1 = (13 : Int32) then ((f_X7_openTab fu qS2.2).bind (fun qS70 => gd (z_b qS70.1) (some (qS70.1, qS70.2)))) else (if qS2.1 = (14 : Int32) then ((f_X7_refuse qS2.2).bind (fun qS74 => gd (z_b qS74.1) (some (qS74.1, qS74.2)))) else (if qS2.1 = (15 : Int32) then ((f_X7_constant 2 1 qS2.2).bind (fun qS78 => gd (z_b qS78.1) (some (qS78.1, qS78.2)))) else (if qS2.1 = (16 : Int32) then ((f_X7_constant 2 0 qS2.2).bind (fun qS82 => gd (z_b qS82.1) (some (qS82.1, qS82.2)))) else (if qS2.1 = (17 : Int32) then ((f_X7_refuse qS2.2).bind (fun qS86 => gd (z_b qS86.1) (some (qS86.1, qS86.2)))) else (if qS2.1 = (18 : Int32) then ((f_X7_refuse qS2.2).bind (fun qS90 => gd (z_b qS90.1) (some (qS90.1, qS90.2)))) else (if qS2.1 = (19 : Int32) then ((f_X7_refuse qS2.2).bind (fun qS94 => gd (z_b qS94.1) (some (qS94.1, qS94.2)))) else (if qS2.1 = (20 : Int32) then ((f_X7_refuse qS2.2).bind (fun qS98 => gd (z_b qS98.1) (some (qS98.1, qS98.2)))) else (if qS2.1 = (21 : Int32) then ((f_X7_refuse qS2.2).bind (fun qS102 => gd (z_b qS102.1) (some (qS102.1, qS102.2)))) else (if qS2.1 = (22 : Int32) then ((f_X7_refuse qS2.2).bind (fun qS106 => gd (z_b qS106.1) (some (qS106.1, qS106.2)))) else (if qS2.1 = (23 : Int32) then ((f_X7_refuse qS2.2).bind (fun qS110 => gd (z_b qS110.1) (some (qS110.1, qS110.2)))) else (if qS2.1 = (24 : Int32) then ((f_X7_refuse qS2.2).bind (fun qS114 => gd (z_b qS114.1) (some (qS114.1, qS114.2)))) else (if qS2.1 = (25 : Int32) then ((f_X7_refuse qS2.2).bind (fun qS118 => gd (z_b qS118.1) (some (qS118.1, qS118.2)))) else (if qS2.1 = (26 : Int32) then ((f_X7_refuse qS2.2).bind (fun qS122 => gd (z_b qS122.1) (some (qS122.1, qS122.2)))) else (if qS2.1 = (27 : Int32) then ((f_X7_refuse qS2.2).bind (fun qS126 => gd (z_b qS126.1) (some (qS126.1, qS126.2)))) else (if qS2.1 = (28 : Int32) then ((f_X7_refuse qS2.2).bind (fun qS130 => gd (z_b qS130.1) (some (qS130.1, qS130.2)))) else (if qS2.1 = (29 : Int32) then ((f_X7_refuse qS2.2).bind (fun qS134 => gd (z_b qS134.1) (some (qS134.1, qS134.2)))) else (if qS2.1 = (30 : Int32) then ((f_X7_refuse qS2.2).bind (fun qS138 => gd (z_b qS138.1) (some (qS138.1, qS138.2)))) else (if qS2.1 = (31 : Int32) then ((f_X7_refuse qS2.2).bind (fun qS142 => gd (z_b qS142.1) (some (qS142.1, qS142.2)))) else (if qS2.1 = (32 : Int32) then ((f_X7_refuse qS2.2).bind (fun qS146 => gd (z_b qS146.1) (some (qS146.1, qS146.2)))) else (if qS2.1 = (33 : Int32) then ((f_X7_openAhead 2 qS2.2).bind (fun qS150 => gd (z_b qS150.1) (some (qS150.1, qS150.2)))) else (if qS2.1 = (34 : Int32) then ((f_X7_refuse qS2.2).bind (fun qS154 => gd (z_b qS154.1) (some (qS154.1, qS154.2)))) else (if qS2.1 = (35 : Int32) then ((f_X7_refuse qS2.2).bind (fun qS158 => gd (z_b qS158.1) (some (qS158.1, qS158.2)))) else (if qS2.1 = (36 : Int32) then ((f_X7_refuse qS2.2).bind (fun qS162 => gd (z_b qS162.1) (some (qS162.1, qS162.2)))) else (if qS2.1 = (37 : Int32) then ((f_X7_refuse qS2.2).bind (fun qS166 => gd (z_b qS166.1) (some (qS166.1, qS166.2)))) else (if qS2.1 = (38 : Int32) then ((f_X7_refuse qS2.2).bind (fun qS170 => gd (z_b qS170.1) (some (qS170.1, qS170.2)))) else (if qS2.1 = (39 : Int32) then ((f_X7_refuse qS2.2).bind (fun qS174 => gd (z_b qS174.1) (some (qS174.1, qS174.2)))) else (if qS2.1 = (40 : Int32) then ((f_X7_openBracket qS2.2).bind (fun qS178 => gd (z_b qS178.1) (some (qS178.1, qS178.2)))) else (if qS2.1 = (41 : Int32) then ((f_X7_refuse qS2.2).bind (fun qS182 => gd (z_b qS182.1) (some (qS182.1, qS182.2)))) else (if qS2.1 = (42 : Int32) then ((f_X7_refuse qS2.2).bind (fun qS186 => gd (z_b qS186.1) (some (qS186.1, qS186.2)))) else (if qS2.1 = (43 : Int32) then ((f_X7_refuse qS2.2).bind (fun qS190 => gd (z_b qS190.1) (some (qS190.1, qS190.2)))) else (if qS2.1 = (44 : Int32) then ((f_X7_refuse qS2.2).bind (fun qS194 => gd (z_b qS194.1) (some (qS194.1, qS194.2)))) else (if qS2.1 = (45 : Int32) then ((f_X7_openAhead 1 qS2.2).bind (fun qS198 => gd (z_b qS198.1) (some (qS198.1, qS198.2)))) else ((f_X7_refuse qS2.2).bind (fun qS201 => gd (z_b qS201.1) (some (qS201.1, qS201.2)))))))))))))))))))))))))))))))))))))))))))))))))) else (if (S.1 3 9 : Int32) < 20 then ((f_X7_kindHere S).bind (fun qS205 => if qS205.1 = (1 : Int32) then (gd (in_b ((qS205.2.1 3 6) + 1) 501) (if ((qS205.2.1 31) (((qS205.2.1 3 6) + 1).toNatClampNeg) : Int32) ≠ 40 then ((f_X7_use fu qS205.2).bind (fun qS210 => gd (z_b qS210.1) (some (qS210.1, qS210.2)))) else ((f_X7_openCall fu qS205.2).bind (fun qS213 => gd (z_b qS213.1) (some (qS213.1, qS213.2)))))) else (if qS205.1 = (2 : Int32) then (gd (in_b (qS205.2.1 3 6) 501) ((f_X7_constant 1 ((qS205.2.2.1 33) ((qS205.2.1 3 6).toNatClampNeg)) qS205.2).bind (fun qS217 => gd (z_b qS217.1) (some (qS217.1, qS217.2))))) else (if qS205.1 = (3 : Int32) then ((f_X7_refuse qS205.2).bind (fun qS221 => gd (z_b qS221.1) (some (qS221.1, qS221.2)))) else (if qS205.1 = (4 : Int32) then (if (qS205.2.1 3 7 : Int32) ≠ 0 then ((f_X7_refuse qS205.2).bind (fun qS226 => gd (z_b qS226.1) (some (qS226.1, qS226.2)))) else ((f_X7_openLet fu qS205.2).bind (fun qS229 => gd (z_b qS229.1) (some (qS229.1, qS229.2))))) else (if qS205.1 = (5 : Int32) then ((f_X7_refuse qS205.2).bind (fun qS233 => gd (z_b qS233.1) (some (qS233.1, qS233.2)))) else (if qS205.1 = (6 : Int32) then (if (qS205.2.1 3 7 : Int32) ≠ 0 then ((f_X7_refuse qS205.2).bind (fun qS238 => gd (z_b qS238.1) (some (qS238.1, qS238.2)))) else ((f_X7_openChoice qS205.2).bind (fun qS241 => gd (z_b qS241.1) (some (qS241.1, qS241.2))))) else (if qS205.1 = (7 : Int32) then ((f_X7_refuse qS205.2).bind (fun qS245 => gd (z_b qS245.1) (some (qS245.1, qS245.2)))) else (if qS205.1 = (8 : Int32) then ((f_X7_refuse qS205.2).bind (fun qS249 => gd (z_b qS249.1) (some (qS249.1, qS249.2)))) else (if qS205.1 = (9 : Int32) then (if (qS205.2.1 3 7 : Int32) ≠ 0 then ((f_X7_refuse qS205.2).bind (fun qS254 => gd (z_b qS254.1) (some (qS254.1, qS254.2)))) else ((f_X7_openLoop qS205.2).bind (fun qS257 => gd (z_b qS257.1) (some (qS257.1, qS257.2))))) else (if qS205.1 = (10 : Int32) then ((f_X7_refuse qS205.2).bind (fun qS261 => gd (z_b qS261.1) (some (qS261.1, qS261.2)))) else (if qS205.1 = (11 : Int32) then ((f_X7_refuse qS205.2).bind (fun qS265 => gd (z_b qS265.1) (some (qS265.1, qS265.2)))) else (if qS205.1 = (12 : Int32) then ((f_X7_refuse qS205.2).bind (fun qS269 => gd (z_b qS269.1) (some (qS269.1, qS269.2)))) else (if qS205.1 = (13 : Int32) then ((f_X7_openTab fu qS205.2).bind (fun qS273 => gd (z_b qS273.1) (some (qS273.1, qS273.2)))) else (if qS205.1 = (14 : Int32) then ((f_X7_refuse qS205.2).bind (fun qS277 => gd (z_b qS277.1) (some (qS277.1, qS277.2)))) else (if qS205.1 = (15 : Int32) then ((f_X7_constant 2 1 qS205.2).bind (fun qS281 => gd (z_b qS281.1) (some (qS281.1, qS281.2)))) else (if qS205.1 = (16 : Int32) then ((f_X7_constant 2 0 qS205.2).bind (fun qS285 => gd (z_b qS285.1) (some (qS285.1, qS285.2)))) else (if qS205.1 = (17 : Int32) then ((f_X7_refuse qS205.2).bind (fun qS289 => gd (z_b qS289.1) (some (qS289.1, qS289.2)))) else (if qS205.1 = (18 : Int32) then ((f_X7_refuse qS205.2).bind (fun qS293 => gd (z_b qS293.1) (some (qS293.1, qS293.2)))) else (if qS205.1 = (19 : Int32) then ((f_X7_refuse qS205.2).bind (fun qS297 => gd (z_b qS297.1) (some (qS297.1, qS297.2)))) else (if qS205.1 = (20 : Int32) then ((f_X7_refuse qS205.2).bind (fun qS301 => gd (z_b qS301.1) (some (qS301.1, qS301.2)))) else (if qS205.1 = (21 : Int32) then ((f_X7_refuse qS205.2).bind (fun qS305 => gd (z_b qS305.1) (some (qS305.1, qS305.2)))) else (if qS205.1 = (22 : Int32) then ((f_X7_refuse qS205.2).bind (fun qS309 => gd (z_b qS309.1) (some (qS309.1, qS309.2)))) else (if qS205.1 = (23 : Int32) then ((f_X7_refuse qS205.2).bind (fun qS313 => gd (z_b qS313.1) (some (qS313.1, qS313.2)))) else (if qS205.1 = (24 : Int32) then ((f_X7_refuse qS205.2).bind (fun qS317 => gd (z_b qS317.1) (some (qS317.1, qS317.2)))) else (if qS205.1 = (25 : Int32) then ((f_X7_refuse qS205.2).bind (fun qS321 => gd (z_b qS321.1) (some (qS321.1, qS321.2)))) else (if qS205.1 = (26 : Int32) then ((f_X7_refuse qS205.2).bind (fun qS325 => gd (z_b qS325.1) (some (qS325.1, qS325.2)))) else (if qS205.1 = (27 : Int32) then ((f_X7_refuse qS205.2).bind (fun qS329 => gd (z_b qS329.1) (some (qS329.1, qS329.2)))) else (if qS205.1 = (28 : Int32) then ((f_X7_refuse qS205.2).bind (fun qS333 => gd (z_b qS333.1) (some (qS333.1, qS333.2)))) else (if qS205.1 = (29 : Int32) then ((f_X7_refuse qS205.2).bind (fun qS337 => gd (z_b qS337.1) (some (qS337.1, qS337.2)))) else (if qS205.1 = (30 : Int32) then ((f_X7_refuse qS205.2).bind (fun qS341 => gd (z_b qS341.1) (some (qS341.1, qS341.2)))) else (if qS205.1 = (31 : Int32) then ((f_X7_refuse qS205.2).bind (fun qS345 => gd (z_b qS345.1) (some (qS345.1, qS345.2)))) else (if qS205.1 = (32 : Int32) then ((f_X7_refuse qS205.2).bind (fun qS349 => gd (z_b qS349.1) (some (qS349.1, qS349.2)))) else (if qS205.1 = (33 : Int32) then ((f_X7_openAhead 2 qS205.2).bind (fun qS353 => gd (z_b qS353.1) (some (qS353.1, qS353.2)))) else (if qS205.1 = (34 : Int32) then ((f_X7_refuse qS205.2).bind (fun qS357 => gd (z_b qS357.1) (some (qS357.1, qS357.2)))) else (if qS205.1 = (35 : Int32) then ((f_X7_refuse qS205.2).bind (fun qS361 => gd (z_b qS361.1) (some (qS361.1, qS361.2)))) else (if qS205.1 = (36 : Int32) then ((f_X7_refuse qS205.2).bind (fun qS365 => gd (z_b qS365.1) (some (qS365.1, qS365.2)))) else (if qS205.1 = (37 : Int32) then ((f_X7_refuse qS205.2).bind (fun qS369 => gd (z_b qS369.1) (some (qS369.1, qS369.2)))) else (if qS205.1 = (38 : Int32) then ((f_X7_refuse qS205.2).bind (fun qS373 => gd (z_b qS373.1) (some (qS373.1, qS373.2)))) else (if qS205.1 = (39 : Int32) then ((f_X7_refuse qS205.2).bind (fun qS377 => gd (z_b qS377.1) (some (qS377.1, qS377.2)))) else (if qS205.1 = (40 : Int32) then ((f_X7_openBracket qS205.2).bind (fun qS381 => gd (z_b qS381.1) (some (qS381.1, qS381.2)))) else (if qS205.1 = (41 : Int32) then ((f_X7_refuse qS205.2).bind (fun qS385 => gd (z_b qS385.1) (some (qS385.1, qS385.2)))) else (if qS205.1 = (42 : Int32) then ((f_X7_refuse qS205.2).bind (fun qS389 => gd (z_b qS389.1) (some (qS389.1, qS389.2)))) else (if qS205.1 = (43 : Int32) then ((f_X7_refuse qS205.2).bind (fun qS393 => gd (z_b qS393.1) (some (qS393.1, qS393.2)))) else (if qS205.1 = (44 : Int32) then ((f_X7_refuse qS205.2).bind (fun qS397 => gd (z_b qS397.1) (some (qS397.1, qS397.2)))) else (if qS205.1 = (45 : Int32) then ((f_X7_openAhead 1 qS205.2).bind (fun qS401 => gd (z_b qS401.1) (some (qS401.1, qS401.2)))) else ((f_X7_refuse qS205.2).bind (fun qS404 => gd (z_b qS404.1) (some (qS404.1, qS404.2)))))))))))))))))))))))))))))))))))))))))))))))))) else ((f_X7_refuse S).bind (fun qS407 => gd (z_b qS407.1) (some (qS407.1, qS407.2)))))
set_option maxHeartbeats 4000000 in
set_option maxRecDepth 100000 in
theorem f_X7_operand_e (l : Launch) (g : im_G) (ad : Nat → Nat) (fu : Nat) (S : im_S) (r : Int32) (S' : im_S) (hm : f_X7_operand fu  S = some (r, S')) : im_E l g ad 4 yX7_operand cX7_operand 1 (some Jvm.ClassFile.FieldType.boolean) [.ref (ad 3)] S (some (.int r)) S' := by
  unfold f_X7_operand at hm
  refine is_met (own := RX7) (by decide +kernel) rfl (Nat.le_of_ble_eq_true rfl) (fun p e s m below meth c X => ?_)
  refine iv_aload_n (pc := 0) X dX7_operand_0 rfl ?_
  refine gF_X7_122_3 (pc := 1) X dX7_operand_1 (x := S.1 3 7) rfl ?_
  refine iv_if_ne (pc := 4) X dX7_operand_4 (tgt := 21) rfl (fun hb1 => ?_) (fun hb1 => ?_)
  · rw [if_pos hb1] at hm
    refine iv_aload_n (pc := 21) X dX7_operand_21 rfl ?_
    obtain ⟨⟨r3, S2⟩, hc4, hm⟩ := bd_some hm
    refine cV_X7_62_3 (pc := 22) X [] [] 0 rfl (f_X7_kindHere_e l g ad  S _ _ hc4) (by decide) (by decide) (Nat.le_of_ble_eq_true rfl) rfl dX7_operand_22 ?_
    by_cases hb5 : r3 = (1 : Int32)
    · rw [if_pos hb5] at hm
      refine iv_tableIn X dX7_operand_25 (off := 195) (tgt := 220) (by rw [hb5]; decide) (by rw [hb5]; decide) (by rw [hb5]; decide) (by decide) ?_
      refine iv_aload_n (pc := 220) X dX7_operand_220 rfl ?_
      refine gF_X7_28_3 (pc := 221) X dX7_operand_221 ?_
      refine gF_X7_75_30 (pc := 224) X dX7_operand_224 ?_
      refine iv_aload_n (pc := 227) X dX7_operand_227 rfl ?_
      refine gF_X7_51_3 (pc := 228) X dX7_operand_228 (x := S2.1 3 6) rfl ?_
      refine iv_iconst (pc := 231) X dX7_operand_231 ic_1 ?_
      refine iv_iadd (pc := 232) X dX7_operand_232 ?_
      obtain ⟨hg, hm⟩ := gd_some hm
      refine aL_31 (pc := 233) X dX7_operand_233 hg (x := (S2.1 31) (((S2.1 3 6) + 1).toNatClampNeg)) rfl ?_
      refine iv_bipush (pc := 234) X dX7_operand_234 bc_40 ?_
      refine iv_icmp_ne (pc := 236) X dX7_operand_236 (tgt := 246) rfl (fun hb6 => ?_) (fun hb6 => ?_)
      · rw [if_pos hb6] at hm
        refine iv_aload_n (pc := 246) X dX7_operand_246 rfl ?_
        obtain ⟨⟨r8, S7⟩, hc9, hm⟩ := bd_some hm
        refine cV_X7_161_3 (pc := 247) X [] [] 0 rfl (f_X7_use_e l g ad fu  S2 _ _ hc9) (by decide) (by decide) (Nat.le_of_ble_eq_true rfl) rfl dX7_operand_247 ?_
        obtain ⟨hg, hm⟩ := gd_some hm
        cases hm
        exact is_zret (pc := 250) X dX7_operand_250 (z_b_n hg)
      · rw [if_neg hb6] at hm
        refine iv_aload_n (pc := 239) X dX7_operand_239 rfl ?_
        obtain ⟨⟨r11, S10⟩, hc12, hm⟩ := bd_some hm
        refine cV_X7_158_3 (pc := 240) X [] [] 0 rfl (f_X7_openCall_e l g ad fu  S2 _ _ hc12) (by decide) (by decide) (Nat.le_of_ble_eq_true rfl) rfl dX7_operand_240 ?_
        refine iv_goto (pc := 243) X dX7_operand_243 (tgt := 250) rfl ?_
        obtain ⟨hg, hm⟩ := gd_some hm
        cases hm
        exact is_zret (pc := 250) X dX7_operand_250 (z_b_n hg)
    · rw [if_neg hb5] at hm
      by_cases hb13 : r3 = (2 : Int32)
      · rw [if_pos hb13] at hm
        refine iv_tableIn X dX7_operand_25 (off := 226) (tgt := 251) (by rw [hb13]; decide) (by rw [hb13]; decide) (by rw [hb13]; decide) (by decide) ?_
        refine iv_aload_n (pc := 251) X dX7_operand_251 rfl ?_
        refine iv_iconst (pc := 252) X dX7_operand_252 ic_1 ?_
        refine iv_aload_n (pc := 253) X dX7_operand_253 rfl ?_
        refine gF_X7_28_3 (pc := 254) X dX7_operand_254 ?_
        refine gF_X7_82_30 (pc := 257) X dX7_operand_257 ?_
        refine iv_aload_n (pc := 260) X dX7_operand_260 rfl ?_
        refine gF_X7_51_3 (pc := 261) X dX7_operand_261 (x := S2.1 3 6) rfl ?_
        obtain ⟨hg, hm⟩ := gd_some hm
        refine aL_33 (pc := 264) X dX7_operand_264 hg (x := (S2.2.1 33) ((S2.1 3 6).toNatClampNeg)) rfl ?_
        obtain ⟨⟨r15, S14⟩, hc16, hm⟩ := bd_some hm
        refine cV_X7_164_3 (pc := 265) X [.int 1, .long ((S2.2.1 33) ((S2.1 3 6).toNatClampNeg))] [] 2 rfl (f_X7_constant_e l g ad 1 ((S2.2.1 33) ((S2.1 3 6).toNatClampNeg)) S2 _ _ hc16) (by decide) (by decide) (Nat.le_of_ble_eq_true rfl) rfl dX7_operand_265 ?_
        obtain ⟨hg, hm⟩ := gd_some hm
        cases hm
        exact is_zret (pc := 268) X dX7_operand_268 (z_b_n hg)
      · rw [if_neg hb13] at hm
        by_cases hb17 : r3 = (3 : Int32)
        · rw [if_pos hb17] at hm
          refine iv_tableIn X dX7_operand_25 (off := 337) (tgt := 362) (by rw [hb17]; decide) (by rw [hb17]; decide) (by rw [hb17]; decide) (by decide) ?_
          refine iv_aload_n (pc := 362) X dX7_operand_362 rfl ?_
          obtain ⟨⟨r19, S18⟩, hc20, hm⟩ := bd_some hm
          refine cV_X7_66_3 (pc := 363) X [] [] 0 rfl (f_X7_refuse_e l g ad  S2 _ _ hc20) (by decide) (by decide) (Nat.le_of_ble_eq_true rfl) rfl dX7_operand_363 ?_
          obtain ⟨hg, hm⟩ := gd_some hm
          cases hm
          exact is_zret (pc := 366) X dX7_operand_366 (z_b_n hg)
        · rw [if_neg hb17] at hm
          by_cases hb21 : r3 = (4 : Int32)
          · rw [if_pos hb21] at hm
            refine iv_tableIn X dX7_operand_25 (off := 280) (tgt := 305) (by rw [hb21]; decide) (by rw [hb21]; decide) (by rw [hb21]; decide) (by decide) ?_
            refine iv_aload_n (pc := 305) X dX7_operand_305 rfl ?_
            refine gF_X7_122_3 (pc := 306) X dX7_operand_306 (x := S2.1 3 7) rfl ?_
            refine iv_if_ne (pc := 309) X dX7_operand_309 (tgt := 319) rfl (fun hb22 => ?_) (fun hb22 => ?_)
            · rw [if_pos hb22] at hm
              refine iv_aload_n (pc := 319) X dX7_operand_319 rfl ?_
              obtain ⟨⟨r24, S23⟩, hc25, hm⟩ := bd_some hm
              refine cV_X7_66_3 (pc := 320) X [] [] 0 rfl (f_X7_refuse_e l g ad  S2 _ _ hc25) (by decide) (by decide) (Nat.le_of_ble_eq_true rfl) rfl dX7_operand_320 ?_
              obtain ⟨hg, hm⟩ := gd_some hm
              cases hm
              exact is_zret (pc := 323) X dX7_operand_323 (z_b_n hg)
            · rw [if_neg hb22] at hm
              refine iv_aload_n (pc := 312) X dX7_operand_312 rfl ?_
              obtain ⟨⟨r27, S26⟩, hc28, hm⟩ := bd_some hm
              refine cV_X7_177_3 (pc := 313) X [] [] 0 rfl (f_X7_openLet_e l g ad fu  S2 _ _ hc28) (by decide) (by decide) (Nat.le_of_ble_eq_true rfl) rfl dX7_operand_313 ?_
              refine iv_goto (pc := 316) X dX7_operand_316 (tgt := 323) rfl ?_
              obtain ⟨hg, hm⟩ := gd_some hm
              cases hm
              exact is_zret (pc := 323) X dX7_operand_323 (z_b_n hg)
          · rw [if_neg hb21] at hm
            by_cases hb29 : r3 = (5 : Int32)
            · rw [if_pos hb29] at hm
              refine iv_tableIn X dX7_operand_25 (off := 337) (tgt := 362) (by rw [hb29]; decide) (by rw [hb29]; decide) (by rw [hb29]; decide) (by decide) ?_
              refine iv_aload_n (pc := 362) X dX7_operand_362 rfl ?_
              obtain ⟨⟨r31, S30⟩, hc32, hm⟩ := bd_some hm
              refine cV_X7_66_3 (pc := 363) X [] [] 0 rfl (f_X7_refuse_e l g ad  S2 _ _ hc32) (by decide) (by decide) (Nat.le_of_ble_eq_true rfl) rfl dX7_operand_363 ?_
              obtain ⟨hg, hm⟩ := gd_some hm
              cases hm
              exact is_zret (pc := 366) X dX7_operand_366 (z_b_n hg)
            · rw [if_neg hb29] at hm
              by_cases hb33 : r3 = (6 : Int32)
              · rw [if_pos hb33] at hm
                refine iv_tableIn X dX7_operand_25 (off := 299) (tgt := 324) (by rw [hb33]; decide) (by rw [hb33]; decide) (by rw [hb33]; decide) (by decide) ?_
                refine iv_aload_n (pc := 324) X dX7_operand_324 rfl ?_
                refine gF_X7_122_3 (pc := 325) X dX7_operand_325 (x := S2.1 3 7) rfl ?_
                refine iv_if_ne (pc := 328) X dX7_operand_328 (tgt := 338) rfl (fun hb34 => ?_) (fun hb34 => ?_)
                · rw [if_pos hb34] at hm
                  refine iv_aload_n (pc := 338) X dX7_operand_338 rfl ?_
                  obtain ⟨⟨r36, S35⟩, hc37, hm⟩ := bd_some hm
                  refine cV_X7_66_3 (pc := 339) X [] [] 0 rfl (f_X7_refuse_e l g ad  S2 _ _ hc37) (by decide) (by decide) (Nat.le_of_ble_eq_true rfl) rfl dX7_operand_339 ?_
                  obtain ⟨hg, hm⟩ := gd_some hm
                  cases hm
                  exact is_zret (pc := 342) X dX7_operand_342 (z_b_n hg)
                · rw [if_neg hb34] at hm
                  refine iv_aload_n (pc := 331) X dX7_operand_331 rfl ?_
                  obtain ⟨⟨r39, S38⟩, hc40, hm⟩ := bd_some hm
                  refine cV_X7_180_3 (pc := 332) X [] [] 0 rfl (f_X7_openChoice_e l g ad  S2 _ _ hc40) (by decide) (by decide) (Nat.le_of_ble_eq_true rfl) rfl dX7_operand_332 ?_
                  refine iv_goto (pc := 335) X dX7_operand_335 (tgt := 342) rfl ?_
                  obtain ⟨hg, hm⟩ := gd_some hm
                  cases hm
                  exact is_zret (pc := 342) X dX7_operand_342 (z_b_n hg)
              · rw [if_neg hb33] at hm
                by_cases hb41 : r3 = (7 : Int32)
                · rw [if_pos hb41] at hm
                  refine iv_tableIn X dX7_operand_25 (off := 337) (tgt := 362) (by rw [hb41]; decide) (by rw [hb41]; decide) (by rw [hb41]; decide) (by decide) ?_
                  refine iv_aload_n (pc := 362) X dX7_operand_362 rfl ?_
                  obtain ⟨⟨r43, S42⟩, hc44, hm⟩ := bd_some hm
                  refine cV_X7_66_3 (pc := 363) X [] [] 0 rfl (f_X7_refuse_e l g ad  S2 _ _ hc44) (by decide) (by decide) (Nat.le_of_ble_eq_true rfl) rfl dX7_operand_363 ?_
                  obtain ⟨hg, hm⟩ := gd_some hm
                  cases hm
                  exact is_zret (pc := 366) X dX7_operand_366 (z_b_n hg)
                · rw [if_neg hb41] at hm
                  by_cases hb45 : r3 = (8 : Int32)
                  · rw [if_pos hb45] at hm
                    refine iv_tableIn X dX7_operand_25 (off := 337) (tgt := 362) (by rw [hb45]; decide) (by rw [hb45]; decide) (by rw [hb45]; decide) (by decide) ?_
                    refine iv_aload_n (pc := 362) X dX7_operand_362 rfl ?_
                    obtain ⟨⟨r47, S46⟩, hc48, hm⟩ := bd_some hm
                    refine cV_X7_66_3 (pc := 363) X [] [] 0 rfl (f_X7_refuse_e l g ad  S2 _ _ hc48) (by decide) (by decide) (Nat.le_of_ble_eq_true rfl) rfl dX7_operand_363 ?_
                    obtain ⟨hg, hm⟩ := gd_some hm
                    cases hm
                    exact is_zret (pc := 366) X dX7_operand_366 (z_b_n hg)
                  · rw [if_neg hb45] at hm
                    by_cases hb49 : r3 = (9 : Int32)
                    · rw [if_pos hb49] at hm
                      refine iv_tableIn X dX7_operand_25 (off := 318) (tgt := 343) (by rw [hb49]; decide) (by rw [hb49]; decide) (by rw [hb49]; decide) (by decide) ?_
                      refine iv_aload_n (pc := 343) X dX7_operand_343 rfl ?_
                      refine gF_X7_122_3 (pc := 344) X dX7_operand_344 (x := S2.1 3 7) rfl ?_
                      refine iv_if_ne (pc := 347) X dX7_operand_347 (tgt := 357) rfl (fun hb50 => ?_) (fun hb50 => ?_)
                      · rw [if_pos hb50] at hm
                        refine iv_aload_n (pc := 357) X dX7_operand_357 rfl ?_
                        obtain ⟨⟨r52, S51⟩, hc53, hm⟩ := bd_some hm
                        refine cV_X7_66_3 (pc := 358) X [] [] 0 rfl (f_X7_refuse_e l g ad  S2 _ _ hc53) (by decide) (by decide) (Nat.le_of_ble_eq_true rfl) rfl dX7_operand_358 ?_
                        obtain ⟨hg, hm⟩ := gd_some hm
                        cases hm
                        exact is_zret (pc := 361) X dX7_operand_361 (z_b_n hg)
                      · rw [if_neg hb50] at hm
                        refine iv_aload_n (pc := 350) X dX7_operand_350 rfl ?_
                        obtain ⟨⟨r55, S54⟩, hc56, hm⟩ := bd_some hm
                        refine cV_X7_183_3 (pc := 351) X [] [] 0 rfl (f_X7_openLoop_e l g ad  S2 _ _ hc56) (by decide) (by decide) (Nat.le_of_ble_eq_true rfl) rfl dX7_operand_351 ?_
                        refine iv_goto (pc := 354) X dX7_operand_354 (tgt := 361) rfl ?_
                        obtain ⟨hg, hm⟩ := gd_some hm
                        cases hm
                        exact is_zret (pc := 361) X dX7_operand_361 (z_b_n hg)
                    · rw [if_neg hb49] at hm
                      by_cases hb57 : r3 = (10 : Int32)
                      · rw [if_pos hb57] at hm
                        refine iv_tableIn X dX7_operand_25 (off := 337) (tgt := 362) (by rw [hb57]; decide) (by rw [hb57]; decide) (by rw [hb57]; decide) (by decide) ?_
                        refine iv_aload_n (pc := 362) X dX7_operand_362 rfl ?_
                        obtain ⟨⟨r59, S58⟩, hc60, hm⟩ := bd_some hm
                        refine cV_X7_66_3 (pc := 363) X [] [] 0 rfl (f_X7_refuse_e l g ad  S2 _ _ hc60) (by decide) (by decide) (Nat.le_of_ble_eq_true rfl) rfl dX7_operand_363 ?_
                        obtain ⟨hg, hm⟩ := gd_some hm
                        cases hm
                        exact is_zret (pc := 366) X dX7_operand_366 (z_b_n hg)
                      · rw [if_neg hb57] at hm
                        by_cases hb61 : r3 = (11 : Int32)
                        · rw [if_pos hb61] at hm
                          refine iv_tableIn X dX7_operand_25 (off := 337) (tgt := 362) (by rw [hb61]; decide) (by rw [hb61]; decide) (by rw [hb61]; decide) (by decide) ?_
                          refine iv_aload_n (pc := 362) X dX7_operand_362 rfl ?_
                          obtain ⟨⟨r63, S62⟩, hc64, hm⟩ := bd_some hm
                          refine cV_X7_66_3 (pc := 363) X [] [] 0 rfl (f_X7_refuse_e l g ad  S2 _ _ hc64) (by decide) (by decide) (Nat.le_of_ble_eq_true rfl) rfl dX7_operand_363 ?_
                          obtain ⟨hg, hm⟩ := gd_some hm
                          cases hm
                          exact is_zret (pc := 366) X dX7_operand_366 (z_b_n hg)
                        · rw [if_neg hb61] at hm
                          by_cases hb65 : r3 = (12 : Int32)
                          · rw [if_pos hb65] at hm
                            refine iv_tableIn X dX7_operand_25 (off := 337) (tgt := 362) (by rw [hb65]; decide) (by rw [hb65]; decide) (by rw [hb65]; decide) (by decide) ?_
                            refine iv_aload_n (pc := 362) X dX7_operand_362 rfl ?_
                            obtain ⟨⟨r67, S66⟩, hc68, hm⟩ := bd_some hm
                            refine cV_X7_66_3 (pc := 363) X [] [] 0 rfl (f_X7_refuse_e l g ad  S2 _ _ hc68) (by decide) (by decide) (Nat.le_of_ble_eq_true rfl) rfl dX7_operand_363 ?_
                            obtain ⟨hg, hm⟩ := gd_some hm
                            cases hm
                            exact is_zret (pc := 366) X dX7_operand_366 (z_b_n hg)
                          · rw [if_neg hb65] at hm
                            by_cases hb69 : r3 = (13 : Int32)
                            · rw [if_pos hb69] at hm
                              refine iv_tableIn X dX7_operand_25 (off := 275) (tgt := 300) (by rw [hb69]; decide) (by rw [hb69]; decide) (by rw [hb69]; decide) (by decide) ?_
                              refine iv_aload_n (pc := 300) X dX7_operand_300 rfl ?_
                              obtain ⟨⟨r71, S70⟩, hc72, hm⟩ := bd_some hm
                              refine cV_X7_174_3 (pc := 301) X [] [] 0 rfl (f_X7_openTab_e l g ad fu  S2 _ _ hc72) (by decide) (by decide) (Nat.le_of_ble_eq_true rfl) rfl dX7_operand_301 ?_
                              obtain ⟨hg, hm⟩ := gd_some hm
                              cases hm
                              exact is_zret (pc := 304) X dX7_operand_304 (z_b_n hg)
                            · rw [if_neg hb69] at hm
                              by_cases hb73 : r3 = (14 : Int32)
                              · rw [if_pos hb73] at hm
                                refine iv_tableIn X dX7_operand_25 (off := 337) (tgt := 362) (by rw [hb73]; decide) (by rw [hb73]; decide) (by rw [hb73]; decide) (by decide) ?_
                                refine iv_aload_n (pc := 362) X dX7_operand_362 rfl ?_
                                obtain ⟨⟨r75, S74⟩, hc76, hm⟩ := bd_some hm
                                refine cV_X7_66_3 (pc := 363) X [] [] 0 rfl (f_X7_refuse_e l g ad  S2 _ _ hc76) (by decide) (by decide) (Nat.le_of_ble_eq_true rfl) rfl dX7_operand_363 ?_
                                obtain ⟨hg, hm⟩ := gd_some hm
                                cases hm
                                exact is_zret (pc := 366) X dX7_operand_366 (z_b_n hg)
                              · rw [if_neg hb73] at hm
                                by_cases hb77 : r3 = (15 : Int32)
                                · rw [if_pos hb77] at hm
                                  refine iv_tableIn X dX7_operand_25 (off := 244) (tgt := 269) (by rw [hb77]; decide) (by rw [hb77]; decide) (by rw [hb77]; decide) (by decide) ?_
                                  refine iv_aload_n (pc := 269) X dX7_operand_269 rfl ?_
                                  refine iv_iconst (pc := 270) X dX7_operand_270 ic_2 ?_
                                  refine iv_lconst (pc := 271) X dX7_operand_271 lc_1 ?_
                                  obtain ⟨⟨r79, S78⟩, hc80, hm⟩ := bd_some hm
                                  refine cV_X7_164_3 (pc := 272) X [.int 2, .long 1] [] 2 rfl (f_X7_constant_e l g ad 2 1 S2 _ _ hc80) (by decide) (by decide) (Nat.le_of_ble_eq_true rfl) rfl dX7_operand_272 ?_
                                  obtain ⟨hg, hm⟩ := gd_some hm
                                  cases hm
                                  exact is_zret (pc := 275) X dX7_operand_275 (z_b_n hg)
                                · rw [if_neg hb77] at hm
                                  by_cases hb81 : r3 = (16 : Int32)
                                  · rw [if_pos hb81] at hm
                                    refine iv_tableIn X dX7_operand_25 (off := 251) (tgt := 276) (by rw [hb81]; decide) (by rw [hb81]; decide) (by rw [hb81]; decide) (by decide) ?_
                                    refine iv_aload_n (pc := 276) X dX7_operand_276 rfl ?_
                                    refine iv_iconst (pc := 277) X dX7_operand_277 ic_2 ?_
                                    refine iv_lconst (pc := 278) X dX7_operand_278 lc_0 ?_
                                    obtain ⟨⟨r83, S82⟩, hc84, hm⟩ := bd_some hm
                                    refine cV_X7_164_3 (pc := 279) X [.int 2, .long 0] [] 2 rfl (f_X7_constant_e l g ad 2 0 S2 _ _ hc84) (by decide) (by decide) (Nat.le_of_ble_eq_true rfl) rfl dX7_operand_279 ?_
                                    obtain ⟨hg, hm⟩ := gd_some hm
                                    cases hm
                                    exact is_zret (pc := 282) X dX7_operand_282 (z_b_n hg)
                                  · rw [if_neg hb81] at hm
                                    by_cases hb85 : r3 = (17 : Int32)
                                    · rw [if_pos hb85] at hm
                                      refine iv_tableIn X dX7_operand_25 (off := 337) (tgt := 362) (by rw [hb85]; decide) (by rw [hb85]; decide) (by rw [hb85]; decide) (by decide) ?_
                                      refine iv_aload_n (pc := 362) X dX7_operand_362 rfl ?_
                                      obtain ⟨⟨r87, S86⟩, hc88, hm⟩ := bd_some hm
                                      refine cV_X7_66_3 (pc := 363) X [] [] 0 rfl (f_X7_refuse_e l g ad  S2 _ _ hc88) (by decide) (by decide) (Nat.le_of_ble_eq_true rfl) rfl dX7_operand_363 ?_
                                      obtain ⟨hg, hm⟩ := gd_some hm
                                      cases hm
                                      exact is_zret (pc := 366) X dX7_operand_366 (z_b_n hg)
                                    · rw [if_neg hb85] at hm
                                      by_cases hb89 : r3 = (18 : Int32)
                                      · rw [if_pos hb89] at hm
                                        refine iv_tableIn X dX7_operand_25 (off := 337) (tgt := 362) (by rw [hb89]; decide) (by rw [hb89]; decide) (by rw [hb89]; decide) (by decide) ?_
                                        refine iv_aload_n (pc := 362) X dX7_operand_362 rfl ?_
                                        obtain ⟨⟨r91, S90⟩, hc92, hm⟩ := bd_some hm
                                        refine cV_X7_66_3 (pc := 363) X [] [] 0 rfl (f_X7_refuse_e l g ad  S2 _ _ hc92) (by decide) (by decide) (Nat.le_of_ble_eq_true rfl) rfl dX7_operand_363 ?_
                                        obtain ⟨hg, hm⟩ := gd_some hm
                                        cases hm
                                        exact is_zret (pc := 366) X dX7_operand_366 (z_b_n hg)
                                      · rw [if_neg hb89] at hm
                                        by_cases hb93 : r3 = (19 : Int32)
                                        · rw [if_pos hb93] at hm
                                          refine iv_tableIn X dX7_operand_25 (off := 337) (tgt := 362) (by rw [hb93]; decide) (by rw [hb93]; decide) (by rw [hb93]; decide) (by decide) ?_
                                          refine iv_aload_n (pc := 362) X dX7_operand_362 rfl ?_
                                          obtain ⟨⟨r95, S94⟩, hc96, hm⟩ := bd_some hm
                                          refine cV_X7_66_3 (pc := 363) X [] [] 0 rfl (f_X7_refuse_e l g ad  S2 _ _ hc96) (by decide) (by decide) (Nat.le_of_ble_eq_true rfl) rfl dX7_operand_363 ?_
                                          obtain ⟨hg, hm⟩ := gd_some hm
                                          cases hm
                                          exact is_zret (pc := 366) X dX7_operand_366 (z_b_n hg)
                                        · rw [if_neg hb93] at hm
                                          by_cases hb97 : r3 = (20 : Int32)
                                          · rw [if_pos hb97] at hm
                                            refine iv_tableIn X dX7_operand_25 (off := 337) (tgt := 362) (by rw [hb97]; decide) (by rw [hb97]; decide) (by rw [hb97]; decide) (by decide) ?_
                                            refine iv_aload_n (pc := 362) X dX7_operand_362 rfl ?_
                                            obtain ⟨⟨r99, S98⟩, hc100, hm⟩ := bd_some hm
                                            refine cV_X7_66_3 (pc := 363) X [] [] 0 rfl (f_X7_refuse_e l g ad  S2 _ _ hc100) (by decide) (by decide) (Nat.le_of_ble_eq_true rfl) rfl dX7_operand_363 ?_
                                            obtain ⟨hg, hm⟩ := gd_some hm
                                            cases hm
                                            exact is_zret (pc := 366) X dX7_operand_366 (z_b_n hg)
                                          · rw [if_neg hb97] at hm
                                            by_cases hb101 : r3 = (21 : Int32)
                                            · rw [if_pos hb101] at hm
                                              refine iv_tableIn X dX7_operand_25 (off := 337) (tgt := 362) (by rw [hb101]; decide) (by rw [hb101]; decide) (by rw [hb101]; decide) (by decide) ?_
                                              refine iv_aload_n (pc := 362) X dX7_operand_362 rfl ?_
                                              obtain ⟨⟨r103, S102⟩, hc104, hm⟩ := bd_some hm
                                              refine cV_X7_66_3 (pc := 363) X [] [] 0 rfl (f_X7_refuse_e l g ad  S2 _ _ hc104) (by decide) (by decide) (Nat.le_of_ble_eq_true rfl) rfl dX7_operand_363 ?_
                                              obtain ⟨hg, hm⟩ := gd_some hm
                                              cases hm
                                              exact is_zret (pc := 366) X dX7_operand_366 (z_b_n hg)
                                            · rw [if_neg hb101] at hm
                                              by_cases hb105 : r3 = (22 : Int32)
                                              · rw [if_pos hb105] at hm
                                                refine iv_tableIn X dX7_operand_25 (off := 337) (tgt := 362) (by rw [hb105]; decide) (by rw [hb105]; decide) (by rw [hb105]; decide) (by decide) ?_
                                                refine iv_aload_n (pc := 362) X dX7_operand_362 rfl ?_
                                                obtain ⟨⟨r107, S106⟩, hc108, hm⟩ := bd_some hm
                                                refine cV_X7_66_3 (pc := 363) X [] [] 0 rfl (f_X7_refuse_e l g ad  S2 _ _ hc108) (by decide) (by decide) (Nat.le_of_ble_eq_true rfl) rfl dX7_operand_363 ?_
                                                obtain ⟨hg, hm⟩ := gd_some hm
                                                cases hm
                                                exact is_zret (pc := 366) X dX7_operand_366 (z_b_n hg)
                                              · rw [if_neg hb105] at hm
                                                by_cases hb109 : r3 = (23 : Int32)
                                                · rw [if_pos hb109] at hm
                                                  refine iv_tableIn X dX7_operand_25 (off := 337) (tgt := 362) (by rw [hb109]; decide) (by rw [hb109]; decide) (by rw [hb109]; decide) (by decide) ?_
                                                  refine iv_aload_n (pc := 362) X dX7_operand_362 rfl ?_
                                                  obtain ⟨⟨r111, S110⟩, hc112, hm⟩ := bd_some hm
                                                  refine cV_X7_66_3 (pc := 363) X [] [] 0 rfl (f_X7_refuse_e l g ad  S2 _ _ hc112) (by decide) (by decide) (Nat.le_of_ble_eq_true rfl) rfl dX7_operand_363 ?_
                                                  obtain ⟨hg, hm⟩ := gd_some hm
                                                  cases hm
                                                  exact is_zret (pc := 366) X dX7_operand_366 (z_b_n hg)
                                                · rw [if_neg hb109] at hm
                                                  by_cases hb113 : r3 = (24 : Int32)
                                                  · rw [if_pos hb113] at hm
                                                    refine iv_tableIn X dX7_operand_25 (off := 337) (tgt := 362) (by rw [hb113]; decide) (by rw [hb113]; decide) (by rw [hb113]; decide) (by decide) ?_
                                                    refine iv_aload_n (pc := 362) X dX7_operand_362 rfl ?_
                                                    obtain ⟨⟨r115, S114⟩, hc116, hm⟩ := bd_some hm
                                                    refine cV_X7_66_3 (pc := 363) X [] [] 0 rfl (f_X7_refuse_e l g ad  S2 _ _ hc116) (by decide) (by decide) (Nat.le_of_ble_eq_true rfl) rfl dX7_operand_363 ?_
                                                    obtain ⟨hg, hm⟩ := gd_some hm
                                                    cases hm
                                                    exact is_zret (pc := 366) X dX7_operand_366 (z_b_n hg)
                                                  · rw [if_neg hb113] at hm
                                                    by_cases hb117 : r3 = (25 : Int32)
                                                    · rw [if_pos hb117] at hm
                                                      refine iv_tableIn X dX7_operand_25 (off := 337) (tgt := 362) (by rw [hb117]; decide) (by rw [hb117]; decide) (by rw [hb117]; decide) (by decide) ?_
                                                      refine iv_aload_n (pc := 362) X dX7_operand_362 rfl ?_
                                                      obtain ⟨⟨r119, S118⟩, hc120, hm⟩ := bd_some hm
                                                      refine cV_X7_66_3 (pc := 363) X [] [] 0 rfl (f_X7_refuse_e l g ad  S2 _ _ hc120) (by decide) (by decide) (Nat.le_of_ble_eq_true rfl) rfl dX7_operand_363 ?_
                                                      obtain ⟨hg, hm⟩ := gd_some hm
                                                      cases hm
                                                      exact is_zret (pc := 366) X dX7_operand_366 (z_b_n hg)
                                                    · rw [if_neg hb117] at hm
                                                      by_cases hb121 : r3 = (26 : Int32)
                                                      · rw [if_pos hb121] at hm
                                                        refine iv_tableIn X dX7_operand_25 (off := 337) (tgt := 362) (by rw [hb121]; decide) (by rw [hb121]; decide) (by rw [hb121]; decide) (by decide) ?_
                                                        refine iv_aload_n (pc := 362) X dX7_operand_362 rfl ?_
                                                        obtain ⟨⟨r123, S122⟩, hc124, hm⟩ := bd_some hm
                                                        refine cV_X7_66_3 (pc := 363) X [] [] 0 rfl (f_X7_refuse_e l g ad  S2 _ _ hc124) (by decide) (by decide) (Nat.le_of_ble_eq_true rfl) rfl dX7_operand_363 ?_
                                                        obtain ⟨hg, hm⟩ := gd_some hm
                                                        cases hm
                                                        exact is_zret (pc := 366) X dX7_operand_366 (z_b_n hg)
                                                      · rw [if_neg hb121] at hm
                                                        by_cases hb125 : r3 = (27 : Int32)
                                                        · rw [if_pos hb125] at hm
                                                          refine iv_tableIn X dX7_operand_25 (off := 337) (tgt := 362) (by rw [hb125]; decide) (by rw [hb125]; decide) (by rw [hb125]; decide) (by decide) ?_
                                                          refine iv_aload_n (pc := 362) X dX7_operand_362 rfl ?_
                                                          obtain ⟨⟨r127, S126⟩, hc128, hm⟩ := bd_some hm
                                                          refine cV_X7_66_3 (pc := 363) X [] [] 0 rfl (f_X7_refuse_e l g ad  S2 _ _ hc128) (by decide) (by decide) (Nat.le_of_ble_eq_true rfl) rfl dX7_operand_363 ?_
                                                          obtain ⟨hg, hm⟩ := gd_some hm
                                                          cases hm
                                                          exact is_zret (pc := 366) X dX7_operand_366 (z_b_n hg)
                                                        · rw [if_neg hb125] at hm
                                                          by_cases hb129 : r3 = (28 : Int32)
                                                          · rw [if_pos hb129] at hm
                                                            refine iv_tableIn X dX7_operand_25 (off := 337) (tgt := 362) (by rw [hb129]; decide) (by rw [hb129]; decide) (by rw [hb129]; decide) (by decide) ?_
                                                            refine iv_aload_n (pc := 362) X dX7_operand_362 rfl ?_
                                                            obtain ⟨⟨r131, S130⟩, hc132, hm⟩ := bd_some hm
                                                            refine cV_X7_66_3 (pc := 363) X [] [] 0 rfl (f_X7_refuse_e l g ad  S2 _ _ hc132) (by decide) (by decide) (Nat.le_of_ble_eq_true rfl) rfl dX7_operand_363 ?_
                                                            obtain ⟨hg, hm⟩ := gd_some hm
                                                            cases hm
                                                            exact is_zret (pc := 366) X dX7_operand_366 (z_b_n hg)
                                                          · rw [if_neg hb129] at hm
                                                            by_cases hb133 : r3 = (29 : Int32)
                                                            · rw [if_pos hb133] at hm
                                                              refine iv_tableIn X dX7_operand_25 (off := 337) (tgt := 362) (by rw [hb133]; decide) (by rw [hb133]; decide) (by rw [hb133]; decide) (by decide) ?_
                                                              refine iv_aload_n (pc := 362) X dX7_operand_362 rfl ?_
                                                              obtain ⟨⟨r135, S134⟩, hc136, hm⟩ := bd_some hm
                                                              refine cV_X7_66_3 (pc := 363) X [] [] 0 rfl (f_X7_refuse_e l g ad  S2 _ _ hc136) (by decide) (by decide) (Nat.le_of_ble_eq_true rfl) rfl dX7_operand_363 ?_
                                                              obtain ⟨hg, hm⟩ := gd_some hm
                                                              cases hm
                                                              exact is_zret (pc := 366) X dX7_operand_366 (z_b_n hg)
                                                            · rw [if_neg hb133] at hm
                                                              by_cases hb137 : r3 = (30 : Int32)
                                                              · rw [if_pos hb137] at hm
                                                                refine iv_tableIn X dX7_operand_25 (off := 337) (tgt := 362) (by rw [hb137]; decide) (by rw [hb137]; decide) (by rw [hb137]; decide) (by decide) ?_
                                                                refine iv_aload_n (pc := 362) X dX7_operand_362 rfl ?_
                                                                obtain ⟨⟨r139, S138⟩, hc140, hm⟩ := bd_some hm
                                                                refine cV_X7_66_3 (pc := 363) X [] [] 0 rfl (f_X7_refuse_e l g ad  S2 _ _ hc140) (by decide) (by decide) (Nat.le_of_ble_eq_true rfl) rfl dX7_operand_363 ?_
                                                                obtain ⟨hg, hm⟩ := gd_some hm
                                                                cases hm
                                                                exact is_zret (pc := 366) X dX7_operand_366 (z_b_n hg)
                                                              · rw [if_neg hb137] at hm
                                                                by_cases hb141 : r3 = (31 : Int32)
                                                                · rw [if_pos hb141] at hm
                                                                  refine iv_tableIn X dX7_operand_25 (off := 337) (tgt := 362) (by rw [hb141]; decide) (by rw [hb141]; decide) (by rw [hb141]; decide) (by decide) ?_
                                                                  refine iv_aload_n (pc := 362) X dX7_operand_362 rfl ?_
                                                                  obtain ⟨⟨r143, S142⟩, hc144, hm⟩ := bd_some hm
                                                                  refine cV_X7_66_3 (pc := 363) X [] [] 0 rfl (f_X7_refuse_e l g ad  S2 _ _ hc144) (by decide) (by decide) (Nat.le_of_ble_eq_true rfl) rfl dX7_operand_363 ?_
                                                                  obtain ⟨hg, hm⟩ := gd_some hm
                                                                  cases hm
                                                                  exact is_zret (pc := 366) X dX7_operand_366 (z_b_n hg)
                                                                · rw [if_neg hb141] at hm
                                                                  by_cases hb145 : r3 = (32 : Int32)
                                                                  · rw [if_pos hb145] at hm
                                                                    refine iv_tableIn X dX7_operand_25 (off := 337) (tgt := 362) (by rw [hb145]; decide) (by rw [hb145]; decide) (by rw [hb145]; decide) (by decide) ?_
                                                                    refine iv_aload_n (pc := 362) X dX7_operand_362 rfl ?_
                                                                    obtain ⟨⟨r147, S146⟩, hc148, hm⟩ := bd_some hm
                                                                    refine cV_X7_66_3 (pc := 363) X [] [] 0 rfl (f_X7_refuse_e l g ad  S2 _ _ hc148) (by decide) (by decide) (Nat.le_of_ble_eq_true rfl) rfl dX7_operand_363 ?_
                                                                    obtain ⟨hg, hm⟩ := gd_some hm
                                                                    cases hm
                                                                    exact is_zret (pc := 366) X dX7_operand_366 (z_b_n hg)
                                                                  · rw [if_neg hb145] at hm
                                                                    by_cases hb149 : r3 = (33 : Int32)
                                                                    · rw [if_pos hb149] at hm
                                                                      refine iv_tableIn X dX7_operand_25 (off := 264) (tgt := 289) (by rw [hb149]; decide) (by rw [hb149]; decide) (by rw [hb149]; decide) (by decide) ?_
                                                                      refine iv_aload_n (pc := 289) X dX7_operand_289 rfl ?_
                                                                      refine iv_iconst (pc := 290) X dX7_operand_290 ic_2 ?_
                                                                      obtain ⟨⟨r151, S150⟩, hc152, hm⟩ := bd_some hm
                                                                      refine cV_X7_168_3 (pc := 291) X [.int 2] [] 1 rfl (f_X7_openAhead_e l g ad 2 S2 _ _ hc152) (by decide) (by decide) (Nat.le_of_ble_eq_true rfl) rfl dX7_operand_291 ?_
                                                                      obtain ⟨hg, hm⟩ := gd_some hm
                                                                      cases hm
                                                                      exact is_zret (pc := 294) X dX7_operand_294 (z_b_n hg)
                                                                    · rw [if_neg hb149] at hm
                                                                      by_cases hb153 : r3 = (34 : Int32)
                                                                      · rw [if_pos hb153] at hm
                                                                        refine iv_tableIn X dX7_operand_25 (off := 337) (tgt := 362) (by rw [hb153]; decide) (by rw [hb153]; decide) (by rw [hb153]; decide) (by decide) ?_
                                                                        refine iv_aload_n (pc := 362) X dX7_operand_362 rfl ?_
                                                                        obtain ⟨⟨r155, S154⟩, hc156, hm⟩ := bd_some hm
                                                                        refine cV_X7_66_3 (pc := 363) X [] [] 0 rfl (f_X7_refuse_e l g ad  S2 _ _ hc156) (by decide) (by decide) (Nat.le_of_ble_eq_true rfl) rfl dX7_operand_363 ?_
                                                                        obtain ⟨hg, hm⟩ := gd_some hm
                                                                        cases hm
                                                                        exact is_zret (pc := 366) X dX7_operand_366 (z_b_n hg)
                                                                      · rw [if_neg hb153] at hm
                                                                        by_cases hb157 : r3 = (35 : Int32)
                                                                        · rw [if_pos hb157] at hm
                                                                          refine iv_tableIn X dX7_operand_25 (off := 337) (tgt := 362) (by rw [hb157]; decide) (by rw [hb157]; decide) (by rw [hb157]; decide) (by decide) ?_
                                                                          refine iv_aload_n (pc := 362) X dX7_operand_362 rfl ?_
                                                                          obtain ⟨⟨r159, S158⟩, hc160, hm⟩ := bd_some hm
                                                                          refine cV_X7_66_3 (pc := 363) X [] [] 0 rfl (f_X7_refuse_e l g ad  S2 _ _ hc160) (by decide) (by decide) (Nat.le_of_ble_eq_true rfl) rfl dX7_operand_363 ?_
                                                                          obtain ⟨hg, hm⟩ := gd_some hm
                                                                          cases hm
                                                                          exact is_zret (pc := 366) X dX7_operand_366 (z_b_n hg)
                                                                        · rw [if_neg hb157] at hm
                                                                          by_cases hb161 : r3 = (36 : Int32)
                                                                          · rw [if_pos hb161] at hm
                                                                            refine iv_tableIn X dX7_operand_25 (off := 337) (tgt := 362) (by rw [hb161]; decide) (by rw [hb161]; decide) (by rw [hb161]; decide) (by decide) ?_
                                                                            refine iv_aload_n (pc := 362) X dX7_operand_362 rfl ?_
                                                                            obtain ⟨⟨r163, S162⟩, hc164, hm⟩ := bd_some hm
                                                                            refine cV_X7_66_3 (pc := 363) X [] [] 0 rfl (f_X7_refuse_e l g ad  S2 _ _ hc164) (by decide) (by decide) (Nat.le_of_ble_eq_true rfl) rfl dX7_operand_363 ?_
                                                                            obtain ⟨hg, hm⟩ := gd_some hm
                                                                            cases hm
                                                                            exact is_zret (pc := 366) X dX7_operand_366 (z_b_n hg)
                                                                          · rw [if_neg hb161] at hm
                                                                            by_cases hb165 : r3 = (37 : Int32)
                                                                            · rw [if_pos hb165] at hm
                                                                              refine iv_tableIn X dX7_operand_25 (off := 337) (tgt := 362) (by rw [hb165]; decide) (by rw [hb165]; decide) (by rw [hb165]; decide) (by decide) ?_
                                                                              refine iv_aload_n (pc := 362) X dX7_operand_362 rfl ?_
                                                                              obtain ⟨⟨r167, S166⟩, hc168, hm⟩ := bd_some hm
                                                                              refine cV_X7_66_3 (pc := 363) X [] [] 0 rfl (f_X7_refuse_e l g ad  S2 _ _ hc168) (by decide) (by decide) (Nat.le_of_ble_eq_true rfl) rfl dX7_operand_363 ?_
                                                                              obtain ⟨hg, hm⟩ := gd_some hm
                                                                              cases hm
                                                                              exact is_zret (pc := 366) X dX7_operand_366 (z_b_n hg)
                                                                            · rw [if_neg hb165] at hm
                                                                              by_cases hb169 : r3 = (38 : Int32)
                                                                              · rw [if_pos hb169] at hm
                                                                                refine iv_tableIn X dX7_operand_25 (off := 337) (tgt := 362) (by rw [hb169]; decide) (by rw [hb169]; decide) (by rw [hb169]; decide) (by decide) ?_
                                                                                refine iv_aload_n (pc := 362) X dX7_operand_362 rfl ?_
                                                                                obtain ⟨⟨r171, S170⟩, hc172, hm⟩ := bd_some hm
                                                                                refine cV_X7_66_3 (pc := 363) X [] [] 0 rfl (f_X7_refuse_e l g ad  S2 _ _ hc172) (by decide) (by decide) (Nat.le_of_ble_eq_true rfl) rfl dX7_operand_363 ?_
                                                                                obtain ⟨hg, hm⟩ := gd_some hm
                                                                                cases hm
                                                                                exact is_zret (pc := 366) X dX7_operand_366 (z_b_n hg)
                                                                              · rw [if_neg hb169] at hm
                                                                                by_cases hb173 : r3 = (39 : Int32)
                                                                                · rw [if_pos hb173] at hm
                                                                                  refine iv_tableIn X dX7_operand_25 (off := 337) (tgt := 362) (by rw [hb173]; decide) (by rw [hb173]; decide) (by rw [hb173]; decide) (by decide) ?_
                                                                                  refine iv_aload_n (pc := 362) X dX7_operand_362 rfl ?_
                                                                                  obtain ⟨⟨r175, S174⟩, hc176, hm⟩ := bd_some hm
                                                                                  refine cV_X7_66_3 (pc := 363) X [] [] 0 rfl (f_X7_refuse_e l g ad  S2 _ _ hc176) (by decide) (by decide) (Nat.le_of_ble_eq_true rfl) rfl dX7_operand_363 ?_
                                                                                  obtain ⟨hg, hm⟩ := gd_some hm
                                                                                  cases hm
                                                                                  exact is_zret (pc := 366) X dX7_operand_366 (z_b_n hg)
                                                                                · rw [if_neg hb173] at hm
                                                                                  by_cases hb177 : r3 = (40 : Int32)
                                                                                  · rw [if_pos hb177] at hm
                                                                                    refine iv_tableIn X dX7_operand_25 (off := 270) (tgt := 295) (by rw [hb177]; decide) (by rw [hb177]; decide) (by rw [hb177]; decide) (by decide) ?_
                                                                                    refine iv_aload_n (pc := 295) X dX7_operand_295 rfl ?_
                                                                                    obtain ⟨⟨r179, S178⟩, hc180, hm⟩ := bd_some hm
                                                                                    refine cV_X7_171_3 (pc := 296) X [] [] 0 rfl (f_X7_openBracket_e l g ad  S2 _ _ hc180) (by decide) (by decide) (Nat.le_of_ble_eq_true rfl) rfl dX7_operand_296 ?_
                                                                                    obtain ⟨hg, hm⟩ := gd_some hm
                                                                                    cases hm
                                                                                    exact is_zret (pc := 299) X dX7_operand_299 (z_b_n hg)
                                                                                  · rw [if_neg hb177] at hm
                                                                                    by_cases hb181 : r3 = (41 : Int32)
                                                                                    · rw [if_pos hb181] at hm
                                                                                      refine iv_tableIn X dX7_operand_25 (off := 337) (tgt := 362) (by rw [hb181]; decide) (by rw [hb181]; decide) (by rw [hb181]; decide) (by decide) ?_
                                                                                      refine iv_aload_n (pc := 362) X dX7_operand_362 rfl ?_
                                                                                      obtain ⟨⟨r183, S182⟩, hc184, hm⟩ := bd_some hm
                                                                                      refine cV_X7_66_3 (pc := 363) X [] [] 0 rfl (f_X7_refuse_e l g ad  S2 _ _ hc184) (by decide) (by decide) (Nat.le_of_ble_eq_true rfl) rfl dX7_operand_363 ?_
                                                                                      obtain ⟨hg, hm⟩ := gd_some hm
                                                                                      cases hm
                                                                                      exact is_zret (pc := 366) X dX7_operand_366 (z_b_n hg)
                                                                                    · rw [if_neg hb181] at hm
                                                                                      by_cases hb185 : r3 = (42 : Int32)
                                                                                      · rw [if_pos hb185] at hm
                                                                                        refine iv_tableIn X dX7_operand_25 (off := 337) (tgt := 362) (by rw [hb185]; decide) (by rw [hb185]; decide) (by rw [hb185]; decide) (by decide) ?_
                                                                                        refine iv_aload_n (pc := 362) X dX7_operand_362 rfl ?_
                                                                                        obtain ⟨⟨r187, S186⟩, hc188, hm⟩ := bd_some hm
                                                                                        refine cV_X7_66_3 (pc := 363) X [] [] 0 rfl (f_X7_refuse_e l g ad  S2 _ _ hc188) (by decide) (by decide) (Nat.le_of_ble_eq_true rfl) rfl dX7_operand_363 ?_
                                                                                        obtain ⟨hg, hm⟩ := gd_some hm
                                                                                        cases hm
                                                                                        exact is_zret (pc := 366) X dX7_operand_366 (z_b_n hg)
                                                                                      · rw [if_neg hb185] at hm
                                                                                        by_cases hb189 : r3 = (43 : Int32)
                                                                                        · rw [if_pos hb189] at hm
                                                                                          refine iv_tableIn X dX7_operand_25 (off := 337) (tgt := 362) (by rw [hb189]; decide) (by rw [hb189]; decide) (by rw [hb189]; decide) (by decide) ?_
                                                                                          refine iv_aload_n (pc := 362) X dX7_operand_362 rfl ?_
                                                                                          obtain ⟨⟨r191, S190⟩, hc192, hm⟩ := bd_some hm
                                                                                          refine cV_X7_66_3 (pc := 363) X [] [] 0 rfl (f_X7_refuse_e l g ad  S2 _ _ hc192) (by decide) (by decide) (Nat.le_of_ble_eq_true rfl) rfl dX7_operand_363 ?_
                                                                                          obtain ⟨hg, hm⟩ := gd_some hm
                                                                                          cases hm
                                                                                          exact is_zret (pc := 366) X dX7_operand_366 (z_b_n hg)
                                                                                        · rw [if_neg hb189] at hm
                                                                                          by_cases hb193 : r3 = (44 : Int32)
                                                                                          · rw [if_pos hb193] at hm
                                                                                            refine iv_tableIn X dX7_operand_25 (off := 337) (tgt := 362) (by rw [hb193]; decide) (by rw [hb193]; decide) (by rw [hb193]; decide) (by decide) ?_
                                                                                            refine iv_aload_n (pc := 362) X dX7_operand_362 rfl ?_
                                                                                            obtain ⟨⟨r195, S194⟩, hc196, hm⟩ := bd_some hm
                                                                                            refine cV_X7_66_3 (pc := 363) X [] [] 0 rfl (f_X7_refuse_e l g ad  S2 _ _ hc196) (by decide) (by decide) (Nat.le_of_ble_eq_true rfl) rfl dX7_operand_363 ?_
                                                                                            obtain ⟨hg, hm⟩ := gd_some hm
                                                                                            cases hm
                                                                                            exact is_zret (pc := 366) X dX7_operand_366 (z_b_n hg)
                                                                                          · rw [if_neg hb193] at hm
                                                                                            by_cases hb197 : r3 = (45 : Int32)
                                                                                            · rw [if_pos hb197] at hm
                                                                                              refine iv_tableIn X dX7_operand_25 (off := 258) (tgt := 283) (by rw [hb197]; decide) (by rw [hb197]; decide) (by rw [hb197]; decide) (by decide) ?_
                                                                                              refine iv_aload_n (pc := 283) X dX7_operand_283 rfl ?_
                                                                                              refine iv_iconst (pc := 284) X dX7_operand_284 ic_1 ?_
                                                                                              obtain ⟨⟨r199, S198⟩, hc200, hm⟩ := bd_some hm
                                                                                              refine cV_X7_168_3 (pc := 285) X [.int 1] [] 1 rfl (f_X7_openAhead_e l g ad 1 S2 _ _ hc200) (by decide) (by decide) (Nat.le_of_ble_eq_true rfl) rfl dX7_operand_285 ?_
                                                                                              obtain ⟨hg, hm⟩ := gd_some hm
                                                                                              cases hm
                                                                                              exact is_zret (pc := 288) X dX7_operand_288 (z_b_n hg)
                                                                                            · rw [if_neg hb197] at hm
                                                                                              have k0 := sw_ne hb5 (n := 1) (by decide)
                                                                                              have k1 := sw_ne hb13 (n := 2) (by decide)
                                                                                              have k2 := sw_ne hb17 (n := 3) (by decide)
                                                                                              have k3 := sw_ne hb21 (n := 4) (by decide)
                                                                                              have k4 := sw_ne hb29 (n := 5) (by decide)
                                                                                              have k5 := sw_ne hb33 (n := 6) (by decide)
                                                                                              have k6 := sw_ne hb41 (n := 7) (by decide)
                                                                                              have k7 := sw_ne hb45 (n := 8) (by decide)
                                                                                              have k8 := sw_ne hb49 (n := 9) (by decide)
                                                                                              have k9 := sw_ne hb57 (n := 10) (by decide)
                                                                                              have k10 := sw_ne hb61 (n := 11) (by decide)
                                                                                              have k11 := sw_ne hb65 (n := 12) (by decide)
                                                                                              have k12 := sw_ne hb69 (n := 13) (by decide)
                                                                                              have k13 := sw_ne hb73 (n := 14) (by decide)
                                                                                              have k14 := sw_ne hb77 (n := 15) (by decide)
                                                                                              have k15 := sw_ne hb81 (n := 16) (by decide)
                                                                                              have k16 := sw_ne hb85 (n := 17) (by decide)
                                                                                              have k17 := sw_ne hb89 (n := 18) (by decide)
                                                                                              have k18 := sw_ne hb93 (n := 19) (by decide)
                                                                                              have k19 := sw_ne hb97 (n := 20) (by decide)
                                                                                              have k20 := sw_ne hb101 (n := 21) (by decide)
                                                                                              have k21 := sw_ne hb105 (n := 22) (by decide)
                                                                                              have k22 := sw_ne hb109 (n := 23) (by decide)
                                                                                              have k23 := sw_ne hb113 (n := 24) (by decide)
                                                                                              have k24 := sw_ne hb117 (n := 25) (by decide)
                                                                                              have k25 := sw_ne hb121 (n := 26) (by decide)
                                                                                              have k26 := sw_ne hb125 (n := 27) (by decide)
                                                                                              have k27 := sw_ne hb129 (n := 28) (by decide)
                                                                                              have k28 := sw_ne hb133 (n := 29) (by decide)
                                                                                              have k29 := sw_ne hb137 (n := 30) (by decide)
                                                                                              have k30 := sw_ne hb141 (n := 31) (by decide)
                                                                                              have k31 := sw_ne hb145 (n := 32) (by decide)
                                                                                              have k32 := sw_ne hb149 (n := 33) (by decide)
                                                                                              have k33 := sw_ne hb153 (n := 34) (by decide)
                                                                                              have k34 := sw_ne hb157 (n := 35) (by decide)
                                                                                              have k35 := sw_ne hb161 (n := 36) (by decide)
                                                                                              have k36 := sw_ne hb165 (n := 37) (by decide)
                                                                                              have k37 := sw_ne hb169 (n := 38) (by decide)
                                                                                              have k38 := sw_ne hb173 (n := 39) (by decide)
                                                                                              have k39 := sw_ne hb177 (n := 40) (by decide)
                                                                                              have k40 := sw_ne hb181 (n := 41) (by decide)
                                                                                              have k41 := sw_ne hb185 (n := 42) (by decide)
                                                                                              have k42 := sw_ne hb189 (n := 43) (by decide)
                                                                                              have k43 := sw_ne hb193 (n := 44) (by decide)
                                                                                              have k44 := sw_ne hb197 (n := 45) (by decide)
                                                                                              refine iv_tableOut X dX7_operand_25 (tgt := 362) (by omega) (by decide) ?_
                                                                                              refine iv_aload_n (pc := 362) X dX7_operand_362 rfl ?_
                                                                                              obtain ⟨⟨r202, S201⟩, hc203, hm⟩ := bd_some hm
                                                                                              refine cV_X7_66_3 (pc := 363) X [] [] 0 rfl (f_X7_refuse_e l g ad  S2 _ _ hc203) (by decide) (by decide) (Nat.le_of_ble_eq_true rfl) rfl dX7_operand_363 ?_
                                                                                              obtain ⟨hg, hm⟩ := gd_some hm
                                                                                              cases hm
                                                                                              exact is_zret (pc := 366) X dX7_operand_366 (z_b_n hg)
  · rw [if_neg hb1] at hm
    refine iv_aload_n (pc := 7) X dX7_operand_7 rfl ?_
    refine gF_X7_109_3 (pc := 8) X dX7_operand_8 (x := S.1 3 9) rfl ?_
    refine iv_bipush (pc := 11) X dX7_operand_11 bc_20 ?_
    refine iv_icmp_lt (pc := 13) X dX7_operand_13 (tgt := 21) rfl (fun hb204 => ?_) (fun hb204 => ?_)
    · rw [if_pos hb204] at hm
      refine iv_aload_n (pc := 21) X dX7_operand_21 rfl ?_
      obtain ⟨⟨r206, S205⟩, hc207, hm⟩ := bd_some hm
      refine cV_X7_62_3 (pc := 22) X [] [] 0 rfl (f_X7_kindHere_e l g ad  S _ _ hc207) (by decide) (by decide) (Nat.le_of_ble_eq_true rfl) rfl dX7_operand_22 ?_
      by_cases hb208 : r206 = (1 : Int32)
      · rw [if_pos hb208] at hm
        refine iv_tableIn X dX7_operand_25 (off := 195) (tgt := 220) (by rw [hb208]; decide) (by rw [hb208]; decide) (by rw [hb208]; decide) (by decide) ?_
        refine iv_aload_n (pc := 220) X dX7_operand_220 rfl ?_
        refine gF_X7_28_3 (pc := 221) X dX7_operand_221 ?_
        refine gF_X7_75_30 (pc := 224) X dX7_operand_224 ?_
        refine iv_aload_n (pc := 227) X dX7_operand_227 rfl ?_
        refine gF_X7_51_3 (pc := 228) X dX7_operand_228 (x := S205.1 3 6) rfl ?_
        refine iv_iconst (pc := 231) X dX7_operand_231 ic_1 ?_
        refine iv_iadd (pc := 232) X dX7_operand_232 ?_
        obtain ⟨hg, hm⟩ := gd_some hm
        refine aL_31 (pc := 233) X dX7_operand_233 hg (x := (S205.1 31) (((S205.1 3 6) + 1).toNatClampNeg)) rfl ?_
        refine iv_bipush (pc := 234) X dX7_operand_234 bc_40 ?_
        refine iv_icmp_ne (pc := 236) X dX7_operand_236 (tgt := 246) rfl (fun hb209 => ?_) (fun hb209 => ?_)
        · rw [if_pos hb209] at hm
          refine iv_aload_n (pc := 246) X dX7_operand_246 rfl ?_
          obtain ⟨⟨r211, S210⟩, hc212, hm⟩ := bd_some hm
          refine cV_X7_161_3 (pc := 247) X [] [] 0 rfl (f_X7_use_e l g ad fu  S205 _ _ hc212) (by decide) (by decide) (Nat.le_of_ble_eq_true rfl) rfl dX7_operand_247 ?_
          obtain ⟨hg, hm⟩ := gd_some hm
          cases hm
          exact is_zret (pc := 250) X dX7_operand_250 (z_b_n hg)
        · rw [if_neg hb209] at hm
          refine iv_aload_n (pc := 239) X dX7_operand_239 rfl ?_
          obtain ⟨⟨r214, S213⟩, hc215, hm⟩ := bd_some hm
          refine cV_X7_158_3 (pc := 240) X [] [] 0 rfl (f_X7_openCall_e l g ad fu  S205 _ _ hc215) (by decide) (by decide) (Nat.le_of_ble_eq_true rfl) rfl dX7_operand_240 ?_
          refine iv_goto (pc := 243) X dX7_operand_243 (tgt := 250) rfl ?_
          obtain ⟨hg, hm⟩ := gd_some hm
          cases hm
          exact is_zret (pc := 250) X dX7_operand_250 (z_b_n hg)
      · rw [if_neg hb208] at hm
        by_cases hb216 : r206 = (2 : Int32)
        · rw [if_pos hb216] at hm
          refine iv_tableIn X dX7_operand_25 (off := 226) (tgt := 251) (by rw [hb216]; decide) (by rw [hb216]; decide) (by rw [hb216]; decide) (by decide) ?_
          refine iv_aload_n (pc := 251) X dX7_operand_251 rfl ?_
          refine iv_iconst (pc := 252) X dX7_operand_252 ic_1 ?_
          refine iv_aload_n (pc := 253) X dX7_operand_253 rfl ?_
          refine gF_X7_28_3 (pc := 254) X dX7_operand_254 ?_
          refine gF_X7_82_30 (pc := 257) X dX7_operand_257 ?_
          refine iv_aload_n (pc := 260) X dX7_operand_260 rfl ?_
          refine gF_X7_51_3 (pc := 261) X dX7_operand_261 (x := S205.1 3 6) rfl ?_
          obtain ⟨hg, hm⟩ := gd_some hm
          refine aL_33 (pc := 264) X dX7_operand_264 hg (x := (S205.2.1 33) ((S205.1 3 6).toNatClampNeg)) rfl ?_
          obtain ⟨⟨r218, S217⟩, hc219, hm⟩ := bd_some hm
          refine cV_X7_164_3 (pc := 265) X [.int 1, .long ((S205.2.1 33) ((S205.1 3 6).toNatClampNeg))] [] 2 rfl (f_X7_constant_e l g ad 1 ((S205.2.1 33) ((S205.1 3 6).toNatClampNeg)) S205 _ _ hc219) (by decide) (by decide) (Nat.le_of_ble_eq_true rfl) rfl dX7_operand_265 ?_
          obtain ⟨hg, hm⟩ := gd_some hm
          cases hm
          exact is_zret (pc := 268) X dX7_operand_268 (z_b_n hg)
        · rw [if_neg hb216] at hm
          by_cases hb220 : r206 = (3 : Int32)
          · rw [if_pos hb220] at hm
            refine iv_tableIn X dX7_operand_25 (off := 337) (tgt := 362) (by rw [hb220]; decide) (by rw [hb220]; decide) (by rw [hb220]; decide) (by decide) ?_
            refine iv_aload_n (pc := 362) X dX7_operand_362 rfl ?_
            obtain ⟨⟨r222, S221⟩, hc223, hm⟩ := bd_some hm
            refine cV_X7_66_3 (pc := 363) X [] [] 0 rfl (f_X7_refuse_e l g ad  S205 _ _ hc223) (by decide) (by decide) (Nat.le_of_ble_eq_true rfl) rfl dX7_operand_363 ?_
            obtain ⟨hg, hm⟩ := gd_some hm
            cases hm
            exact is_zret (pc := 366) X dX7_operand_366 (z_b_n hg)
          · rw [if_neg hb220] at hm
            by_cases hb224 : r206 = (4 : Int32)
            · rw [if_pos hb224] at hm
              refine iv_tableIn X dX7_operand_25 (off := 280) (tgt := 305) (by rw [hb224]; decide) (by rw [hb224]; decide) (by rw [hb224]; decide) (by decide) ?_
              refine iv_aload_n (pc := 305) X dX7_operand_305 rfl ?_
              refine gF_X7_122_3 (pc := 306) X dX7_operand_306 (x := S205.1 3 7) rfl ?_
              refine iv_if_ne (pc := 309) X dX7_operand_309 (tgt := 319) rfl (fun hb225 => ?_) (fun hb225 => ?_)
              · rw [if_pos hb225] at hm
                refine iv_aload_n (pc := 319) X dX7_operand_319 rfl ?_
                obtain ⟨⟨r227, S226⟩, hc228, hm⟩ := bd_some hm
                refine cV_X7_66_3 (pc := 320) X [] [] 0 rfl (f_X7_refuse_e l g ad  S205 _ _ hc228) (by decide) (by decide) (Nat.le_of_ble_eq_true rfl) rfl dX7_operand_320 ?_
                obtain ⟨hg, hm⟩ := gd_some hm
                cases hm
                exact is_zret (pc := 323) X dX7_operand_323 (z_b_n hg)
              · rw [if_neg hb225] at hm
                refine iv_aload_n (pc := 312) X dX7_operand_312 rfl ?_
                obtain ⟨⟨r230, S229⟩, hc231, hm⟩ := bd_some hm
                refine cV_X7_177_3 (pc := 313) X [] [] 0 rfl (f_X7_openLet_e l g ad fu  S205 _ _ hc231) (by decide) (by decide) (Nat.le_of_ble_eq_true rfl) rfl dX7_operand_313 ?_
                refine iv_goto (pc := 316) X dX7_operand_316 (tgt := 323) rfl ?_
                obtain ⟨hg, hm⟩ := gd_some hm
                cases hm
                exact is_zret (pc := 323) X dX7_operand_323 (z_b_n hg)
            · rw [if_neg hb224] at hm
              by_cases hb232 : r206 = (5 : Int32)
              · rw [if_pos hb232] at hm
                refine iv_tableIn X dX7_operand_25 (off := 337) (tgt := 362) (by rw [hb232]; decide) (by rw [hb232]; decide) (by rw [hb232]; decide) (by decide) ?_
                refine iv_aload_n (pc := 362) X dX7_operand_362 rfl ?_
                obtain ⟨⟨r234, S233⟩, hc235, hm⟩ := bd_some hm
                refine cV_X7_66_3 (pc := 363) X [] [] 0 rfl (f_X7_refuse_e l g ad  S205 _ _ hc235) (by decide) (by decide) (Nat.le_of_ble_eq_true rfl) rfl dX7_operand_363 ?_
                obtain ⟨hg, hm⟩ := gd_some hm
                cases hm
                exact is_zret (pc := 366) X dX7_operand_366 (z_b_n hg)
              · rw [if_neg hb232] at hm
                by_cases hb236 : r206 = (6 : Int32)
                · rw [if_pos hb236] at hm
                  refine iv_tableIn X dX7_operand_25 (off := 299) (tgt := 324) (by rw [hb236]; decide) (by rw [hb236]; decide) (by rw [hb236]; decide) (by decide) ?_
                  refine iv_aload_n (pc := 324) X dX7_operand_324 rfl ?_
                  refine gF_X7_122_3 (pc := 325) X dX7_operand_325 (x := S205.1 3 7) rfl ?_
                  refine iv_if_ne (pc := 328) X dX7_operand_328 (tgt := 338) rfl (fun hb237 => ?_) (fun hb237 => ?_)
                  · rw [if_pos hb237] at hm
                    refine iv_aload_n (pc := 338) X dX7_operand_338 rfl ?_
                    obtain ⟨⟨r239, S238⟩, hc240, hm⟩ := bd_some hm
                    refine cV_X7_66_3 (pc := 339) X [] [] 0 rfl (f_X7_refuse_e l g ad  S205 _ _ hc240) (by decide) (by decide) (Nat.le_of_ble_eq_true rfl) rfl dX7_operand_339 ?_
                    obtain ⟨hg, hm⟩ := gd_some hm
                    cases hm
                    exact is_zret (pc := 342) X dX7_operand_342 (z_b_n hg)
                  · rw [if_neg hb237] at hm
                    refine iv_aload_n (pc := 331) X dX7_operand_331 rfl ?_
                    obtain ⟨⟨r242, S241⟩, hc243, hm⟩ := bd_some hm
                    refine cV_X7_180_3 (pc := 332) X [] [] 0 rfl (f_X7_openChoice_e l g ad  S205 _ _ hc243) (by decide) (by decide) (Nat.le_of_ble_eq_true rfl) rfl dX7_operand_332 ?_
                    refine iv_goto (pc := 335) X dX7_operand_335 (tgt := 342) rfl ?_
                    obtain ⟨hg, hm⟩ := gd_some hm
                    cases hm
                    exact is_zret (pc := 342) X dX7_operand_342 (z_b_n hg)
                · rw [if_neg hb236] at hm
                  by_cases hb244 : r206 = (7 : Int32)
                  · rw [if_pos hb244] at hm
                    refine iv_tableIn X dX7_operand_25 (off := 337) (tgt := 362) (by rw [hb244]; decide) (by rw [hb244]; decide) (by rw [hb244]; decide) (by decide) ?_
                    refine iv_aload_n (pc := 362) X dX7_operand_362 rfl ?_
                    obtain ⟨⟨r246, S245⟩, hc247, hm⟩ := bd_some hm
                    refine cV_X7_66_3 (pc := 363) X [] [] 0 rfl (f_X7_refuse_e l g ad  S205 _ _ hc247) (by decide) (by decide) (Nat.le_of_ble_eq_true rfl) rfl dX7_operand_363 ?_
                    obtain ⟨hg, hm⟩ := gd_some hm
                    cases hm
                    exact is_zret (pc := 366) X dX7_operand_366 (z_b_n hg)
                  · rw [if_neg hb244] at hm
                    by_cases hb248 : r206 = (8 : Int32)
                    · rw [if_pos hb248] at hm
                      refine iv_tableIn X dX7_operand_25 (off := 337) (tgt := 362) (by rw [hb248]; decide) (by rw [hb248]; decide) (by rw [hb248]; decide) (by decide) ?_
                      refine iv_aload_n (pc := 362) X dX7_operand_362 rfl ?_
                      obtain ⟨⟨r250, S249⟩, hc251, hm⟩ := bd_some hm
                      refine cV_X7_66_3 (pc := 363) X [] [] 0 rfl (f_X7_refuse_e l g ad  S205 _ _ hc251) (by decide) (by decide) (Nat.le_of_ble_eq_true rfl) rfl dX7_operand_363 ?_
                      obtain ⟨hg, hm⟩ := gd_some hm
                      cases hm
                      exact is_zret (pc := 366) X dX7_operand_366 (z_b_n hg)
                    · rw [if_neg hb248] at hm
                      by_cases hb252 : r206 = (9 : Int32)
                      · rw [if_pos hb252] at hm
                        refine iv_tableIn X dX7_operand_25 (off := 318) (tgt := 343) (by rw [hb252]; decide) (by rw [hb252]; decide) (by rw [hb252]; decide) (by decide) ?_
                        refine iv_aload_n (pc := 343) X dX7_operand_343 rfl ?_
                        refine gF_X7_122_3 (pc := 344) X dX7_operand_344 (x := S205.1 3 7) rfl ?_
                        refine iv_if_ne (pc := 347) X dX7_operand_347 (tgt := 357) rfl (fun hb253 => ?_) (fun hb253 => ?_)
                        · rw [if_pos hb253] at hm
                          refine iv_aload_n (pc := 357) X dX7_operand_357 rfl ?_
                          obtain ⟨⟨r255, S254⟩, hc256, hm⟩ := bd_some hm
                          refine cV_X7_66_3 (pc := 358) X [] [] 0 rfl (f_X7_refuse_e l g ad  S205 _ _ hc256) (by decide) (by decide) (Nat.le_of_ble_eq_true rfl) rfl dX7_operand_358 ?_
                          obtain ⟨hg, hm⟩ := gd_some hm
                          cases hm
                          exact is_zret (pc := 361) X dX7_operand_361 (z_b_n hg)
                        · rw [if_neg hb253] at hm
                          refine iv_aload_n (pc := 350) X dX7_operand_350 rfl ?_
                          obtain ⟨⟨r258, S257⟩, hc259, hm⟩ := bd_some hm
                          refine cV_X7_183_3 (pc := 351) X [] [] 0 rfl (f_X7_openLoop_e l g ad  S205 _ _ hc259) (by decide) (by decide) (Nat.le_of_ble_eq_true rfl) rfl dX7_operand_351 ?_
                          refine iv_goto (pc := 354) X dX7_operand_354 (tgt := 361) rfl ?_
                          obtain ⟨hg, hm⟩ := gd_some hm
                          cases hm
                          exact is_zret (pc := 361) X dX7_operand_361 (z_b_n hg)
                      · rw [if_neg hb252] at hm
                        by_cases hb260 : r206 = (10 : Int32)
                        · rw [if_pos hb260] at hm
                          refine iv_tableIn X dX7_operand_25 (off := 337) (tgt := 362) (by rw [hb260]; decide) (by rw [hb260]; decide) (by rw [hb260]; decide) (by decide) ?_
                          refine iv_aload_n (pc := 362) X dX7_operand_362 rfl ?_
                          obtain ⟨⟨r262, S261⟩, hc263, hm⟩ := bd_some hm
                          refine cV_X7_66_3 (pc := 363) X [] [] 0 rfl (f_X7_refuse_e l g ad  S205 _ _ hc263) (by decide) (by decide) (Nat.le_of_ble_eq_true rfl) rfl dX7_operand_363 ?_
                          obtain ⟨hg, hm⟩ := gd_some hm
                          cases hm
                          exact is_zret (pc := 366) X dX7_operand_366 (z_b_n hg)
                        · rw [if_neg hb260] at hm
                          by_cases hb264 : r206 = (11 : Int32)
                          · rw [if_pos hb264] at hm
                            refine iv_tableIn X dX7_operand_25 (off := 337) (tgt := 362) (by rw [hb264]; decide) (by rw [hb264]; decide) (by rw [hb264]; decide) (by decide) ?_
                            refine iv_aload_n (pc := 362) X dX7_operand_362 rfl ?_
                            obtain ⟨⟨r266, S265⟩, hc267, hm⟩ := bd_some hm
                            refine cV_X7_66_3 (pc := 363) X [] [] 0 rfl (f_X7_refuse_e l g ad  S205 _ _ hc267) (by decide) (by decide) (Nat.le_of_ble_eq_true rfl) rfl dX7_operand_363 ?_
                            obtain ⟨hg, hm⟩ := gd_some hm
                            cases hm
                            exact is_zret (pc := 366) X dX7_operand_366 (z_b_n hg)
                          · rw [if_neg hb264] at hm
                            by_cases hb268 : r206 = (12 : Int32)
                            · rw [if_pos hb268] at hm
                              refine iv_tableIn X dX7_operand_25 (off := 337) (tgt := 362) (by rw [hb268]; decide) (by rw [hb268]; decide) (by rw [hb268]; decide) (by decide) ?_
                              refine iv_aload_n (pc := 362) X dX7_operand_362 rfl ?_
                              obtain ⟨⟨r270, S269⟩, hc271, hm⟩ := bd_some hm
                              refine cV_X7_66_3 (pc := 363) X [] [] 0 rfl (f_X7_refuse_e l g ad  S205 _ _ hc271) (by decide) (by decide) (Nat.le_of_ble_eq_true rfl) rfl dX7_operand_363 ?_
                              obtain ⟨hg, hm⟩ := gd_some hm
                              cases hm
                              exact is_zret (pc := 366) X dX7_operand_366 (z_b_n hg)
                            · rw [if_neg hb268] at hm
                              by_cases hb272 : r206 = (13 : Int32)
                              · rw [if_pos hb272] at hm
                                refine iv_tableIn X dX7_operand_25 (off := 275) (tgt := 300) (by rw [hb272]; decide) (by rw [hb272]; decide) (by rw [hb272]; decide) (by decide) ?_
                                refine iv_aload_n (pc := 300) X dX7_operand_300 rfl ?_
                                obtain ⟨⟨r274, S273⟩, hc275, hm⟩ := bd_some hm
                                refine cV_X7_174_3 (pc := 301) X [] [] 0 rfl (f_X7_openTab_e l g ad fu  S205 _ _ hc275) (by decide) (by decide) (Nat.le_of_ble_eq_true rfl) rfl dX7_operand_301 ?_
                                obtain ⟨hg, hm⟩ := gd_some hm
                                cases hm
                                exact is_zret (pc := 304) X dX7_operand_304 (z_b_n hg)
                              · rw [if_neg hb272] at hm
                                by_cases hb276 : r206 = (14 : Int32)
                                · rw [if_pos hb276] at hm
                                  refine iv_tableIn X dX7_operand_25 (off := 337) (tgt := 362) (by rw [hb276]; decide) (by rw [hb276]; decide) (by rw [hb276]; decide) (by decide) ?_
                                  refine iv_aload_n (pc := 362) X dX7_operand_362 rfl ?_
                                  obtain ⟨⟨r278, S277⟩, hc279, hm⟩ := bd_some hm
                                  refine cV_X7_66_3 (pc := 363) X [] [] 0 rfl (f_X7_refuse_e l g ad  S205 _ _ hc279) (by decide) (by decide) (Nat.le_of_ble_eq_true rfl) rfl dX7_operand_363 ?_
                                  obtain ⟨hg, hm⟩ := gd_some hm
                                  cases hm
                                  exact is_zret (pc := 366) X dX7_operand_366 (z_b_n hg)
                                · rw [if_neg hb276] at hm
                                  by_cases hb280 : r206 = (15 : Int32)
                                  · rw [if_pos hb280] at hm
                                    refine iv_tableIn X dX7_operand_25 (off := 244) (tgt := 269) (by rw [hb280]; decide) (by rw [hb280]; decide) (by rw [hb280]; decide) (by decide) ?_
                                    refine iv_aload_n (pc := 269) X dX7_operand_269 rfl ?_
                                    refine iv_iconst (pc := 270) X dX7_operand_270 ic_2 ?_
                                    refine iv_lconst (pc := 271) X dX7_operand_271 lc_1 ?_
                                    obtain ⟨⟨r282, S281⟩, hc283, hm⟩ := bd_some hm
                                    refine cV_X7_164_3 (pc := 272) X [.int 2, .long 1] [] 2 rfl (f_X7_constant_e l g ad 2 1 S205 _ _ hc283) (by decide) (by decide) (Nat.le_of_ble_eq_true rfl) rfl dX7_operand_272 ?_
                                    obtain ⟨hg, hm⟩ := gd_some hm
                                    cases hm
                                    exact is_zret (pc := 275) X dX7_operand_275 (z_b_n hg)
                                  · rw [if_neg hb280] at hm
                                    by_cases hb284 : r206 = (16 : Int32)
                                    · rw [if_pos hb284] at hm
                                      refine iv_tableIn X dX7_operand_25 (off := 251) (tgt := 276) (by rw [hb284]; decide) (by rw [hb284]; decide) (by rw [hb284]; decide) (by decide) ?_
                                      refine iv_aload_n (pc := 276) X dX7_operand_276 rfl ?_
                                      refine iv_iconst (pc := 277) X dX7_operand_277 ic_2 ?_
                                      refine iv_lconst (pc := 278) X dX7_operand_278 lc_0 ?_
                                      obtain ⟨⟨r286, S285⟩, hc287, hm⟩ := bd_some hm
                                      refine cV_X7_164_3 (pc := 279) X [.int 2, .long 0] [] 2 rfl (f_X7_constant_e l g ad 2 0 S205 _ _ hc287) (by decide) (by decide) (Nat.le_of_ble_eq_true rfl) rfl dX7_operand_279 ?_
                                      obtain ⟨hg, hm⟩ := gd_some hm
                                      cases hm
                                      exact is_zret (pc := 282) X dX7_operand_282 (z_b_n hg)
                                    · rw [if_neg hb284] at hm
                                      by_cases hb288 : r206 = (17 : Int32)
                                      · rw [if_pos hb288] at hm
                                        refine iv_tableIn X dX7_operand_25 (off := 337) (tgt := 362) (by rw [hb288]; decide) (by rw [hb288]; decide) (by rw [hb288]; decide) (by decide) ?_
                                        refine iv_aload_n (pc := 362) X dX7_operand_362 rfl ?_
                                        obtain ⟨⟨r290, S289⟩, hc291, hm⟩ := bd_some hm
                                        refine cV_X7_66_3 (pc := 363) X [] [] 0 rfl (f_X7_refuse_e l g ad  S205 _ _ hc291) (by decide) (by decide) (Nat.le_of_ble_eq_true rfl) rfl dX7_operand_363 ?_
                                        obtain ⟨hg, hm⟩ := gd_some hm
                                        cases hm
                                        exact is_zret (pc := 366) X dX7_operand_366 (z_b_n hg)
                                      · rw [if_neg hb288] at hm
                                        by_cases hb292 : r206 = (18 : Int32)
                                        · rw [if_pos hb292] at hm
                                          refine iv_tableIn X dX7_operand_25 (off := 337) (tgt := 362) (by rw [hb292]; decide) (by rw [hb292]; decide) (by rw [hb292]; decide) (by decide) ?_
                                          refine iv_aload_n (pc := 362) X dX7_operand_362 rfl ?_
                                          obtain ⟨⟨r294, S293⟩, hc295, hm⟩ := bd_some hm
                                          refine cV_X7_66_3 (pc := 363) X [] [] 0 rfl (f_X7_refuse_e l g ad  S205 _ _ hc295) (by decide) (by decide) (Nat.le_of_ble_eq_true rfl) rfl dX7_operand_363 ?_
                                          obtain ⟨hg, hm⟩ := gd_some hm
                                          cases hm
                                          exact is_zret (pc := 366) X dX7_operand_366 (z_b_n hg)
                                        · rw [if_neg hb292] at hm
                                          by_cases hb296 : r206 = (19 : Int32)
                                          · rw [if_pos hb296] at hm
                                            refine iv_tableIn X dX7_operand_25 (off := 337) (tgt := 362) (by rw [hb296]; decide) (by rw [hb296]; decide) (by rw [hb296]; decide) (by decide) ?_
                                            refine iv_aload_n (pc := 362) X dX7_operand_362 rfl ?_
                                            obtain ⟨⟨r298, S297⟩, hc299, hm⟩ := bd_some hm
                                            refine cV_X7_66_3 (pc := 363) X [] [] 0 rfl (f_X7_refuse_e l g ad  S205 _ _ hc299) (by decide) (by decide) (Nat.le_of_ble_eq_true rfl) rfl dX7_operand_363 ?_
                                            obtain ⟨hg, hm⟩ := gd_some hm
                                            cases hm
                                            exact is_zret (pc := 366) X dX7_operand_366 (z_b_n hg)
                                          · rw [if_neg hb296] at hm
                                            by_cases hb300 : r206 = (20 : Int32)
                                            · rw [if_pos hb300] at hm
                                              refine iv_tableIn X dX7_operand_25 (off := 337) (tgt := 362) (by rw [hb300]; decide) (by rw [hb300]; decide) (by rw [hb300]; decide) (by decide) ?_
                                              refine iv_aload_n (pc := 362) X dX7_operand_362 rfl ?_
                                              obtain ⟨⟨r302, S301⟩, hc303, hm⟩ := bd_some hm
                                              refine cV_X7_66_3 (pc := 363) X [] [] 0 rfl (f_X7_refuse_e l g ad  S205 _ _ hc303) (by decide) (by decide) (Nat.le_of_ble_eq_true rfl) rfl dX7_operand_363 ?_
                                              obtain ⟨hg, hm⟩ := gd_some hm
                                              cases hm
                                              exact is_zret (pc := 366) X dX7_operand_366 (z_b_n hg)
                                            · rw [if_neg hb300] at hm
                                              by_cases hb304 : r206 = (21 : Int32)
                                              · rw [if_pos hb304] at hm
                                                refine iv_tableIn X dX7_operand_25 (off := 337) (tgt := 362) (by rw [hb304]; decide) (by rw [hb304]; decide) (by rw [hb304]; decide) (by decide) ?_
                                                refine iv_aload_n (pc := 362) X dX7_operand_362 rfl ?_
                                                obtain ⟨⟨r306, S305⟩, hc307, hm⟩ := bd_some hm
                                                refine cV_X7_66_3 (pc := 363) X [] [] 0 rfl (f_X7_refuse_e l g ad  S205 _ _ hc307) (by decide) (by decide) (Nat.le_of_ble_eq_true rfl) rfl dX7_operand_363 ?_
                                                obtain ⟨hg, hm⟩ := gd_some hm
                                                cases hm
                                                exact is_zret (pc := 366) X dX7_operand_366 (z_b_n hg)
                                              · rw [if_neg hb304] at hm
                                                by_cases hb308 : r206 = (22 : Int32)
                                                · rw [if_pos hb308] at hm
                                                  refine iv_tableIn X dX7_operand_25 (off := 337) (tgt := 362) (by rw [hb308]; decide) (by rw [hb308]; decide) (by rw [hb308]; decide) (by decide) ?_
                                                  refine iv_aload_n (pc := 362) X dX7_operand_362 rfl ?_
                                                  obtain ⟨⟨r310, S309⟩, hc311, hm⟩ := bd_some hm
                                                  refine cV_X7_66_3 (pc := 363) X [] [] 0 rfl (f_X7_refuse_e l g ad  S205 _ _ hc311) (by decide) (by decide) (Nat.le_of_ble_eq_true rfl) rfl dX7_operand_363 ?_
                                                  obtain ⟨hg, hm⟩ := gd_some hm
                                                  cases hm
                                                  exact is_zret (pc := 366) X dX7_operand_366 (z_b_n hg)
                                                · rw [if_neg hb308] at hm
                                                  by_cases hb312 : r206 = (23 : Int32)
                                                  · rw [if_pos hb312] at hm
                                                    refine iv_tableIn X dX7_operand_25 (off := 337) (tgt := 362) (by rw [hb312]; decide) (by rw [hb312]; decide) (by rw [hb312]; decide) (by decide) ?_
                                                    refine iv_aload_n (pc := 362) X dX7_operand_362 rfl ?_
                                                    obtain ⟨⟨r314, S313⟩, hc315, hm⟩ := bd_some hm
                                                    refine cV_X7_66_3 (pc := 363) X [] [] 0 rfl (f_X7_refuse_e l g ad  S205 _ _ hc315) (by decide) (by decide) (Nat.le_of_ble_eq_true rfl) rfl dX7_operand_363 ?_
                                                    obtain ⟨hg, hm⟩ := gd_some hm
                                                    cases hm
                                                    exact is_zret (pc := 366) X dX7_operand_366 (z_b_n hg)
                                                  · rw [if_neg hb312] at hm
                                                    by_cases hb316 : r206 = (24 : Int32)
                                                    · rw [if_pos hb316] at hm
                                                      refine iv_tableIn X dX7_operand_25 (off := 337) (tgt := 362) (by rw [hb316]; decide) (by rw [hb316]; decide) (by rw [hb316]; decide) (by decide) ?_
                                                      refine iv_aload_n (pc := 362) X dX7_operand_362 rfl ?_
                                                      obtain ⟨⟨r318, S317⟩, hc319, hm⟩ := bd_some hm
                                                      refine cV_X7_66_3 (pc := 363) X [] [] 0 rfl (f_X7_refuse_e l g ad  S205 _ _ hc319) (by decide) (by decide) (Nat.le_of_ble_eq_true rfl) rfl dX7_operand_363 ?_
                                                      obtain ⟨hg, hm⟩ := gd_some hm
                                                      cases hm
                                                      exact is_zret (pc := 366) X dX7_operand_366 (z_b_n hg)
                                                    · rw [if_neg hb316] at hm
                                                      by_cases hb320 : r206 = (25 : Int32)
                                                      · rw [if_pos hb320] at hm
                                                        refine iv_tableIn X dX7_operand_25 (off := 337) (tgt := 362) (by rw [hb320]; decide) (by rw [hb320]; decide) (by rw [hb320]; decide) (by decide) ?_
                                                        refine iv_aload_n (pc := 362) X dX7_operand_362 rfl ?_
                                                        obtain ⟨⟨r322, S321⟩, hc323, hm⟩ := bd_some hm
                                                        refine cV_X7_66_3 (pc := 363) X [] [] 0 rfl (f_X7_refuse_e l g ad  S205 _ _ hc323) (by decide) (by decide) (Nat.le_of_ble_eq_true rfl) rfl dX7_operand_363 ?_
                                                        obtain ⟨hg, hm⟩ := gd_some hm
                                                        cases hm
                                                        exact is_zret (pc := 366) X dX7_operand_366 (z_b_n hg)
                                                      · rw [if_neg hb320] at hm
                                                        by_cases hb324 : r206 = (26 : Int32)
                                                        · rw [if_pos hb324] at hm
                                                          refine iv_tableIn X dX7_operand_25 (off := 337) (tgt := 362) (by rw [hb324]; decide) (by rw [hb324]; decide) (by rw [hb324]; decide) (by decide) ?_
                                                          refine iv_aload_n (pc := 362) X dX7_operand_362 rfl ?_
                                                          obtain ⟨⟨r326, S325⟩, hc327, hm⟩ := bd_some hm
                                                          refine cV_X7_66_3 (pc := 363) X [] [] 0 rfl (f_X7_refuse_e l g ad  S205 _ _ hc327) (by decide) (by decide) (Nat.le_of_ble_eq_true rfl) rfl dX7_operand_363 ?_
                                                          obtain ⟨hg, hm⟩ := gd_some hm
                                                          cases hm
                                                          exact is_zret (pc := 366) X dX7_operand_366 (z_b_n hg)
                                                        · rw [if_neg hb324] at hm
                                                          by_cases hb328 : r206 = (27 : Int32)
                                                          · rw [if_pos hb328] at hm
                                                            refine iv_tableIn X dX7_operand_25 (off := 337) (tgt := 362) (by rw [hb328]; decide) (by rw [hb328]; decide) (by rw [hb328]; decide) (by decide) ?_
                                                            refine iv_aload_n (pc := 362) X dX7_operand_362 rfl ?_
                                                            obtain ⟨⟨r330, S329⟩, hc331, hm⟩ := bd_some hm
                                                            refine cV_X7_66_3 (pc := 363) X [] [] 0 rfl (f_X7_refuse_e l g ad  S205 _ _ hc331) (by decide) (by decide) (Nat.le_of_ble_eq_true rfl) rfl dX7_operand_363 ?_
                                                            obtain ⟨hg, hm⟩ := gd_some hm
                                                            cases hm
                                                            exact is_zret (pc := 366) X dX7_operand_366 (z_b_n hg)
                                                          · rw [if_neg hb328] at hm
                                                            by_cases hb332 : r206 = (28 : Int32)
                                                            · rw [if_pos hb332] at hm
                                                              refine iv_tableIn X dX7_operand_25 (off := 337) (tgt := 362) (by rw [hb332]; decide) (by rw [hb332]; decide) (by rw [hb332]; decide) (by decide) ?_
                                                              refine iv_aload_n (pc := 362) X dX7_operand_362 rfl ?_
                                                              obtain ⟨⟨r334, S333⟩, hc335, hm⟩ := bd_some hm
                                                              refine cV_X7_66_3 (pc := 363) X [] [] 0 rfl (f_X7_refuse_e l g ad  S205 _ _ hc335) (by decide) (by decide) (Nat.le_of_ble_eq_true rfl) rfl dX7_operand_363 ?_
                                                              obtain ⟨hg, hm⟩ := gd_some hm
                                                              cases hm
                                                              exact is_zret (pc := 366) X dX7_operand_366 (z_b_n hg)
                                                            · rw [if_neg hb332] at hm
                                                              by_cases hb336 : r206 = (29 : Int32)
                                                              · rw [if_pos hb336] at hm
                                                                refine iv_tableIn X dX7_operand_25 (off := 337) (tgt := 362) (by rw [hb336]; decide) (by rw [hb336]; decide) (by rw [hb336]; decide) (by decide) ?_
                                                                refine iv_aload_n (pc := 362) X dX7_operand_362 rfl ?_
                                                                obtain ⟨⟨r338, S337⟩, hc339, hm⟩ := bd_some hm
                                                                refine cV_X7_66_3 (pc := 363) X [] [] 0 rfl (f_X7_refuse_e l g ad  S205 _ _ hc339) (by decide) (by decide) (Nat.le_of_ble_eq_true rfl) rfl dX7_operand_363 ?_
                                                                obtain ⟨hg, hm⟩ := gd_some hm
                                                                cases hm
                                                                exact is_zret (pc := 366) X dX7_operand_366 (z_b_n hg)
                                                              · rw [if_neg hb336] at hm
                                                                by_cases hb340 : r206 = (30 : Int32)
                                                                · rw [if_pos hb340] at hm
                                                                  refine iv_tableIn X dX7_operand_25 (off := 337) (tgt := 362) (by rw [hb340]; decide) (by rw [hb340]; decide) (by rw [hb340]; decide) (by decide) ?_
                                                                  refine iv_aload_n (pc := 362) X dX7_operand_362 rfl ?_
                                                                  obtain ⟨⟨r342, S341⟩, hc343, hm⟩ := bd_some hm
                                                                  refine cV_X7_66_3 (pc := 363) X [] [] 0 rfl (f_X7_refuse_e l g ad  S205 _ _ hc343) (by decide) (by decide) (Nat.le_of_ble_eq_true rfl) rfl dX7_operand_363 ?_
                                                                  obtain ⟨hg, hm⟩ := gd_some hm
                                                                  cases hm
                                                                  exact is_zret (pc := 366) X dX7_operand_366 (z_b_n hg)
                                                                · rw [if_neg hb340] at hm
                                                                  by_cases hb344 : r206 = (31 : Int32)
                                                                  · rw [if_pos hb344] at hm
                                                                    refine iv_tableIn X dX7_operand_25 (off := 337) (tgt := 362) (by rw [hb344]; decide) (by rw [hb344]; decide) (by rw [hb344]; decide) (by decide) ?_
                                                                    refine iv_aload_n (pc := 362) X dX7_operand_362 rfl ?_
                                                                    obtain ⟨⟨r346, S345⟩, hc347, hm⟩ := bd_some hm
                                                                    refine cV_X7_66_3 (pc := 363) X [] [] 0 rfl (f_X7_refuse_e l g ad  S205 _ _ hc347) (by decide) (by decide) (Nat.le_of_ble_eq_true rfl) rfl dX7_operand_363 ?_
                                                                    obtain ⟨hg, hm⟩ := gd_some hm
                                                                    cases hm
                                                                    exact is_zret (pc := 366) X dX7_operand_366 (z_b_n hg)
                                                                  · rw [if_neg hb344] at hm
                                                                    by_cases hb348 : r206 = (32 : Int32)
                                                                    · rw [if_pos hb348] at hm
                                                                      refine iv_tableIn X dX7_operand_25 (off := 337) (tgt := 362) (by rw [hb348]; decide) (by rw [hb348]; decide) (by rw [hb348]; decide) (by decide) ?_
                                                                      refine iv_aload_n (pc := 362) X dX7_operand_362 rfl ?_
                                                                      obtain ⟨⟨r350, S349⟩, hc351, hm⟩ := bd_some hm
                                                                      refine cV_X7_66_3 (pc := 363) X [] [] 0 rfl (f_X7_refuse_e l g ad  S205 _ _ hc351) (by decide) (by decide) (Nat.le_of_ble_eq_true rfl) rfl dX7_operand_363 ?_
                                                                      obtain ⟨hg, hm⟩ := gd_some hm
                                                                      cases hm
                                                                      exact is_zret (pc := 366) X dX7_operand_366 (z_b_n hg)
                                                                    · rw [if_neg hb348] at hm
                                                                      by_cases hb352 : r206 = (33 : Int32)
                                                                      · rw [if_pos hb352] at hm
                                                                        refine iv_tableIn X dX7_operand_25 (off := 264) (tgt := 289) (by rw [hb352]; decide) (by rw [hb352]; decide) (by rw [hb352]; decide) (by decide) ?_
                                                                        refine iv_aload_n (pc := 289) X dX7_operand_289 rfl ?_
                                                                        refine iv_iconst (pc := 290) X dX7_operand_290 ic_2 ?_
                                                                        obtain ⟨⟨r354, S353⟩, hc355, hm⟩ := bd_some hm
                                                                        refine cV_X7_168_3 (pc := 291) X [.int 2] [] 1 rfl (f_X7_openAhead_e l g ad 2 S205 _ _ hc355) (by decide) (by decide) (Nat.le_of_ble_eq_true rfl) rfl dX7_operand_291 ?_
                                                                        obtain ⟨hg, hm⟩ := gd_some hm
                                                                        cases hm
                                                                        exact is_zret (pc := 294) X dX7_operand_294 (z_b_n hg)
                                                                      · rw [if_neg hb352] at hm
                                                                        by_cases hb356 : r206 = (34 : Int32)
                                                                        · rw [if_pos hb356] at hm
                                                                          refine iv_tableIn X dX7_operand_25 (off := 337) (tgt := 362) (by rw [hb356]; decide) (by rw [hb356]; decide) (by rw [hb356]; decide) (by decide) ?_
                                                                          refine iv_aload_n (pc := 362) X dX7_operand_362 rfl ?_
                                                                          obtain ⟨⟨r358, S357⟩, hc359, hm⟩ := bd_some hm
                                                                          refine cV_X7_66_3 (pc := 363) X [] [] 0 rfl (f_X7_refuse_e l g ad  S205 _ _ hc359) (by decide) (by decide) (Nat.le_of_ble_eq_true rfl) rfl dX7_operand_363 ?_
                                                                          obtain ⟨hg, hm⟩ := gd_some hm
                                                                          cases hm
                                                                          exact is_zret (pc := 366) X dX7_operand_366 (z_b_n hg)
                                                                        · rw [if_neg hb356] at hm
                                                                          by_cases hb360 : r206 = (35 : Int32)
                                                                          · rw [if_pos hb360] at hm
                                                                            refine iv_tableIn X dX7_operand_25 (off := 337) (tgt := 362) (by rw [hb360]; decide) (by rw [hb360]; decide) (by rw [hb360]; decide) (by decide) ?_
                                                                            refine iv_aload_n (pc := 362) X dX7_operand_362 rfl ?_
                                                                            obtain ⟨⟨r362, S361⟩, hc363, hm⟩ := bd_some hm
                                                                            refine cV_X7_66_3 (pc := 363) X [] [] 0 rfl (f_X7_refuse_e l g ad  S205 _ _ hc363) (by decide) (by decide) (Nat.le_of_ble_eq_true rfl) rfl dX7_operand_363 ?_
                                                                            obtain ⟨hg, hm⟩ := gd_some hm
                                                                            cases hm
                                                                            exact is_zret (pc := 366) X dX7_operand_366 (z_b_n hg)
                                                                          · rw [if_neg hb360] at hm
                                                                            by_cases hb364 : r206 = (36 : Int32)
                                                                            · rw [if_pos hb364] at hm
                                                                              refine iv_tableIn X dX7_operand_25 (off := 337) (tgt := 362) (by rw [hb364]; decide) (by rw [hb364]; decide) (by rw [hb364]; decide) (by decide) ?_
                                                                              refine iv_aload_n (pc := 362) X dX7_operand_362 rfl ?_
                                                                              obtain ⟨⟨r366, S365⟩, hc367, hm⟩ := bd_some hm
                                                                              refine cV_X7_66_3 (pc := 363) X [] [] 0 rfl (f_X7_refuse_e l g ad  S205 _ _ hc367) (by decide) (by decide) (Nat.le_of_ble_eq_true rfl) rfl dX7_operand_363 ?_
                                                                              obtain ⟨hg, hm⟩ := gd_some hm
                                                                              cases hm
                                                                              exact is_zret (pc := 366) X dX7_operand_366 (z_b_n hg)
                                                                            · rw [if_neg hb364] at hm
                                                                              by_cases hb368 : r206 = (37 : Int32)
                                                                              · rw [if_pos hb368] at hm
                                                                                refine iv_tableIn X dX7_operand_25 (off := 337) (tgt := 362) (by rw [hb368]; decide) (by rw [hb368]; decide) (by rw [hb368]; decide) (by decide) ?_
                                                                                refine iv_aload_n (pc := 362) X dX7_operand_362 rfl ?_
                                                                                obtain ⟨⟨r370, S369⟩, hc371, hm⟩ := bd_some hm
                                                                                refine cV_X7_66_3 (pc := 363) X [] [] 0 rfl (f_X7_refuse_e l g ad  S205 _ _ hc371) (by decide) (by decide) (Nat.le_of_ble_eq_true rfl) rfl dX7_operand_363 ?_
                                                                                obtain ⟨hg, hm⟩ := gd_some hm
                                                                                cases hm
                                                                                exact is_zret (pc := 366) X dX7_operand_366 (z_b_n hg)
                                                                              · rw [if_neg hb368] at hm
                                                                                by_cases hb372 : r206 = (38 : Int32)
                                                                                · rw [if_pos hb372] at hm
                                                                                  refine iv_tableIn X dX7_operand_25 (off := 337) (tgt := 362) (by rw [hb372]; decide) (by rw [hb372]; decide) (by rw [hb372]; decide) (by decide) ?_
                                                                                  refine iv_aload_n (pc := 362) X dX7_operand_362 rfl ?_
                                                                                  obtain ⟨⟨r374, S373⟩, hc375, hm⟩ := bd_some hm
                                                                                  refine cV_X7_66_3 (pc := 363) X [] [] 0 rfl (f_X7_refuse_e l g ad  S205 _ _ hc375) (by decide) (by decide) (Nat.le_of_ble_eq_true rfl) rfl dX7_operand_363 ?_
                                                                                  obtain ⟨hg, hm⟩ := gd_some hm
                                                                                  cases hm
                                                                                  exact is_zret (pc := 366) X dX7_operand_366 (z_b_n hg)
                                                                                · rw [if_neg hb372] at hm
                                                                                  by_cases hb376 : r206 = (39 : Int32)
                                                                                  · rw [if_pos hb376] at hm
                                                                                    refine iv_tableIn X dX7_operand_25 (off := 337) (tgt := 362) (by rw [hb376]; decide) (by rw [hb376]; decide) (by rw [hb376]; decide) (by decide) ?_
                                                                                    refine iv_aload_n (pc := 362) X dX7_operand_362 rfl ?_
                                                                                    obtain ⟨⟨r378, S377⟩, hc379, hm⟩ := bd_some hm
                                                                                    refine cV_X7_66_3 (pc := 363) X [] [] 0 rfl (f_X7_refuse_e l g ad  S205 _ _ hc379) (by decide) (by decide) (Nat.le_of_ble_eq_true rfl) rfl dX7_operand_363 ?_
                                                                                    obtain ⟨hg, hm⟩ := gd_some hm
                                                                                    cases hm
                                                                                    exact is_zret (pc := 366) X dX7_operand_366 (z_b_n hg)
                                                                                  · rw [if_neg hb376] at hm
                                                                                    by_cases hb380 : r206 = (40 : Int32)
                                                                                    · rw [if_pos hb380] at hm
                                                                                      refine iv_tableIn X dX7_operand_25 (off := 270) (tgt := 295) (by rw [hb380]; decide) (by rw [hb380]; decide) (by rw [hb380]; decide) (by decide) ?_
                                                                                      refine iv_aload_n (pc := 295) X dX7_operand_295 rfl ?_
                                                                                      obtain ⟨⟨r382, S381⟩, hc383, hm⟩ := bd_some hm
                                                                                      refine cV_X7_171_3 (pc := 296) X [] [] 0 rfl (f_X7_openBracket_e l g ad  S205 _ _ hc383) (by decide) (by decide) (Nat.le_of_ble_eq_true rfl) rfl dX7_operand_296 ?_
                                                                                      obtain ⟨hg, hm⟩ := gd_some hm
                                                                                      cases hm
                                                                                      exact is_zret (pc := 299) X dX7_operand_299 (z_b_n hg)
                                                                                    · rw [if_neg hb380] at hm
                                                                                      by_cases hb384 : r206 = (41 : Int32)
                                                                                      · rw [if_pos hb384] at hm
                                                                                        refine iv_tableIn X dX7_operand_25 (off := 337) (tgt := 362) (by rw [hb384]; decide) (by rw [hb384]; decide) (by rw [hb384]; decide) (by decide) ?_
                                                                                        refine iv_aload_n (pc := 362) X dX7_operand_362 rfl ?_
                                                                                        obtain ⟨⟨r386, S385⟩, hc387, hm⟩ := bd_some hm
                                                                                        refine cV_X7_66_3 (pc := 363) X [] [] 0 rfl (f_X7_refuse_e l g ad  S205 _ _ hc387) (by decide) (by decide) (Nat.le_of_ble_eq_true rfl) rfl dX7_operand_363 ?_
                                                                                        obtain ⟨hg, hm⟩ := gd_some hm
                                                                                        cases hm
                                                                                        exact is_zret (pc := 366) X dX7_operand_366 (z_b_n hg)
                                                                                      · rw [if_neg hb384] at hm
                                                                                        by_cases hb388 : r206 = (42 : Int32)
                                                                                        · rw [if_pos hb388] at hm
                                                                                          refine iv_tableIn X dX7_operand_25 (off := 337) (tgt := 362) (by rw [hb388]; decide) (by rw [hb388]; decide) (by rw [hb388]; decide) (by decide) ?_
                                                                                          refine iv_aload_n (pc := 362) X dX7_operand_362 rfl ?_
                                                                                          obtain ⟨⟨r390, S389⟩, hc391, hm⟩ := bd_some hm
                                                                                          refine cV_X7_66_3 (pc := 363) X [] [] 0 rfl (f_X7_refuse_e l g ad  S205 _ _ hc391) (by decide) (by decide) (Nat.le_of_ble_eq_true rfl) rfl dX7_operand_363 ?_
                                                                                          obtain ⟨hg, hm⟩ := gd_some hm
                                                                                          cases hm
                                                                                          exact is_zret (pc := 366) X dX7_operand_366 (z_b_n hg)
                                                                                        · rw [if_neg hb388] at hm
                                                                                          by_cases hb392 : r206 = (43 : Int32)
                                                                                          · rw [if_pos hb392] at hm
                                                                                            refine iv_tableIn X dX7_operand_25 (off := 337) (tgt := 362) (by rw [hb392]; decide) (by rw [hb392]; decide) (by rw [hb392]; decide) (by decide) ?_
                                                                                            refine iv_aload_n (pc := 362) X dX7_operand_362 rfl ?_
                                                                                            obtain ⟨⟨r394, S393⟩, hc395, hm⟩ := bd_some hm
                                                                                            refine cV_X7_66_3 (pc := 363) X [] [] 0 rfl (f_X7_refuse_e l g ad  S205 _ _ hc395) (by decide) (by decide) (Nat.le_of_ble_eq_true rfl) rfl dX7_operand_363 ?_
                                                                                            obtain ⟨hg, hm⟩ := gd_some hm
                                                                                            cases hm
                                                                                            exact is_zret (pc := 366) X dX7_operand_366 (z_b_n hg)
                                                                                          · rw [if_neg hb392] at hm
                                                                                            by_cases hb396 : r206 = (44 : Int32)
                                                                                            · rw [if_pos hb396] at hm
                                                                                              refine iv_tableIn X dX7_operand_25 (off := 337) (tgt := 362) (by rw [hb396]; decide) (by rw [hb396]; decide) (by rw [hb396]; decide) (by decide) ?_
                                                                                              refine iv_aload_n (pc := 362) X dX7_operand_362 rfl ?_
                                                                                              obtain ⟨⟨r398, S397⟩, hc399, hm⟩ := bd_some hm
                                                                                              refine cV_X7_66_3 (pc := 363) X [] [] 0 rfl (f_X7_refuse_e l g ad  S205 _ _ hc399) (by decide) (by decide) (Nat.le_of_ble_eq_true rfl) rfl dX7_operand_363 ?_
                                                                                              obtain ⟨hg, hm⟩ := gd_some hm
                                                                                              cases hm
                                                                                              exact is_zret (pc := 366) X dX7_operand_366 (z_b_n hg)
                                                                                            · rw [if_neg hb396] at hm
                                                                                              by_cases hb400 : r206 = (45 : Int32)
                                                                                              · rw [if_pos hb400] at hm
                                                                                                refine iv_tableIn X dX7_operand_25 (off := 258) (tgt := 283) (by rw [hb400]; decide) (by rw [hb400]; decide) (by rw [hb400]; decide) (by decide) ?_
                                                                                                refine iv_aload_n (pc := 283) X dX7_operand_283 rfl ?_
                                                                                                refine iv_iconst (pc := 284) X dX7_operand_284 ic_1 ?_
                                                                                                obtain ⟨⟨r402, S401⟩, hc403, hm⟩ := bd_some hm
                                                                                                refine cV_X7_168_3 (pc := 285) X [.int 1] [] 1 rfl (f_X7_openAhead_e l g ad 1 S205 _ _ hc403) (by decide) (by decide) (Nat.le_of_ble_eq_true rfl) rfl dX7_operand_285 ?_
                                                                                                obtain ⟨hg, hm⟩ := gd_some hm
                                                                                                cases hm
                                                                                                exact is_zret (pc := 288) X dX7_operand_288 (z_b_n hg)
                                                                                              · rw [if_neg hb400] at hm
                                                                                                have k0 := sw_ne hb208 (n := 1) (by decide)
                                                                                                have k1 := sw_ne hb216 (n := 2) (by decide)
                                                                                                have k2 := sw_ne hb220 (n := 3) (by decide)
                                                                                                have k3 := sw_ne hb224 (n := 4) (by decide)
                                                                                                have k4 := sw_ne hb232 (n := 5) (by decide)
                                                                                                have k5 := sw_ne hb236 (n := 6) (by decide)
                                                                                                have k6 := sw_ne hb244 (n := 7) (by decide)
                                                                                                have k7 := sw_ne hb248 (n := 8) (by decide)
                                                                                                have k8 := sw_ne hb252 (n := 9) (by decide)
                                                                                                have k9 := sw_ne hb260 (n := 10) (by decide)
                                                                                                have k10 := sw_ne hb264 (n := 11) (by decide)
                                                                                                have k11 := sw_ne hb268 (n := 12) (by decide)
                                                                                                have k12 := sw_ne hb272 (n := 13) (by decide)
                                                                                                have k13 := sw_ne hb276 (n := 14) (by decide)
                                                                                                have k14 := sw_ne hb280 (n := 15) (by decide)
                                                                                                have k15 := sw_ne hb284 (n := 16) (by decide)
                                                                                                have k16 := sw_ne hb288 (n := 17) (by decide)
                                                                                                have k17 := sw_ne hb292 (n := 18) (by decide)
                                                                                                have k18 := sw_ne hb296 (n := 19) (by decide)
                                                                                                have k19 := sw_ne hb300 (n := 20) (by decide)
                                                                                                have k20 := sw_ne hb304 (n := 21) (by decide)
                                                                                                have k21 := sw_ne hb308 (n := 22) (by decide)
                                                                                                have k22 := sw_ne hb312 (n := 23) (by decide)
                                                                                                have k23 := sw_ne hb316 (n := 24) (by decide)
                                                                                                have k24 := sw_ne hb320 (n := 25) (by decide)
                                                                                                have k25 := sw_ne hb324 (n := 26) (by decide)
                                                                                                have k26 := sw_ne hb328 (n := 27) (by decide)
                                                                                                have k27 := sw_ne hb332 (n := 28) (by decide)
                                                                                                have k28 := sw_ne hb336 (n := 29) (by decide)
                                                                                                have k29 := sw_ne hb340 (n := 30) (by decide)
                                                                                                have k30 := sw_ne hb344 (n := 31) (by decide)
                                                                                                have k31 := sw_ne hb348 (n := 32) (by decide)
                                                                                                have k32 := sw_ne hb352 (n := 33) (by decide)
                                                                                                have k33 := sw_ne hb356 (n := 34) (by decide)
                                                                                                have k34 := sw_ne hb360 (n := 35) (by decide)
                                                                                                have k35 := sw_ne hb364 (n := 36) (by decide)
                                                                                                have k36 := sw_ne hb368 (n := 37) (by decide)
                                                                                                have k37 := sw_ne hb372 (n := 38) (by decide)
                                                                                                have k38 := sw_ne hb376 (n := 39) (by decide)
                                                                                                have k39 := sw_ne hb380 (n := 40) (by decide)
                                                                                                have k40 := sw_ne hb384 (n := 41) (by decide)
                                                                                                have k41 := sw_ne hb388 (n := 42) (by decide)
                                                                                                have k42 := sw_ne hb392 (n := 43) (by decide)
                                                                                                have k43 := sw_ne hb396 (n := 44) (by decide)
                                                                                                have k44 := sw_ne hb400 (n := 45) (by decide)
                                                                                                refine iv_tableOut X dX7_operand_25 (tgt := 362) (by omega) (by decide) ?_
                                                                                                refine iv_aload_n (pc := 362) X dX7_operand_362 rfl ?_
                                                                                                obtain ⟨⟨r405, S404⟩, hc406, hm⟩ := bd_some hm
                                                                                                refine cV_X7_66_3 (pc := 363) X [] [] 0 rfl (f_X7_refuse_e l g ad  S205 _ _ hc406) (by decide) (by decide) (Nat.le_of_ble_eq_true rfl) rfl dX7_operand_363 ?_
                                                                                                obtain ⟨hg, hm⟩ := gd_some hm
                                                                                                cases hm
                                                                                                exact is_zret (pc := 366) X dX7_operand_366 (z_b_n hg)
    · rw [if_neg hb204] at hm
      refine iv_aload_n (pc := 16) X dX7_operand_16 rfl ?_
      obtain ⟨⟨r408, S407⟩, hc409, hm⟩ := bd_some hm
      refine cV_X7_66_3 (pc := 17) X [] [] 0 rfl (f_X7_refuse_e l g ad  S _ _ hc409) (by decide) (by decide) (Nat.le_of_ble_eq_true rfl) rfl dX7_operand_17 ?_
      obtain ⟨hg, hm⟩ := gd_some hm
      cases hm
      exact is_zret (pc := 20) X dX7_operand_20 (z_b_n hg)
def f_X7_follow_L32 (fu : Nat) : Nat → Int32 → Int32 → Int32 → Int32 → im_S → Option (Int32 × im_S)
  | 0, _, _, _, _, _ => none
  | nf + 1, z1, z2, z3, z4, S => if (z4 : Int32) ≤ 0 then ((f_X7_refuse S).bind (fun qS2 => gd (z_b qS2.1) (some (qS2.1, qS2.2)))) else ((f_X7_endOperators fu z2 S).bind (fun qS5 => if (z3 : Int32) = 0 then ((f_X7_endOperators fu 0 qS5.2).bind (fun qS9 => (f_X6_topEndsByItself qS9.2).bind (fun qS12 => if (qS12.1 : Int32) ≠ 0 then ((f_X6_topKind qS12.2).bind (fun qS16 => if (qS16.1 : Int32) ≠ 24 then ((f_X7_endByItself fu qS16.2).bind (fun qS20 => f_X7_follow_L32 fu nf z1 z2 0 (z4 + (-1)) qS20.2)) else ((f_X7_endByItself fu qS16.2).bind (fun qS23 => f_X7_follow_L32 fu nf z1 z2 1 (z4 + (-1)) qS23.2)))) else ((f_X7_close fu z1 qS12.2).bind (fun qS26 => gd (z_b qS26.1) (some (qS26.1, qS26.2))))))) else ((f_X6_topStrength qS5.2).bind (fun qS29 => if (z2 : Int32) ≤ qS29.1 then ((f_X7_endOperators fu 0 qS29.2).bind (fun qS33 => (f_X6_topEndsByItself qS33.2).bind (fun qS36 => if (qS36.1 : Int32) ≠ 0 then ((f_X6_topKind qS36.2).bind (fun qS40 => if (qS40.1 : Int32) ≠ 24 then ((f_X7_endByItself fu qS40.2).bind (fun qS44 => f_X7_follow_L32 fu nf z1 z2 0 (z4 + (-1)) qS44.2)) else ((f_X7_endByItself fu qS40.2).bind (fun qS47 => f_X7_follow_L32 fu nf z1 z2 1 (z4 + (-1)) qS47.2)))) else ((f_X7_close fu z1 qS36.2).bind (fun qS50 => gd (z_b qS50.1) (some (qS50.1, qS50.2))))))) else ((f_X7_openBinary z1 z2 qS29.2).bind (fun qS53 => gd (z_b qS53.1) (some (qS53.1, qS53.2))))))))
set_option maxHeartbeats 4000000 in
set_option maxRecDepth 100000 in
theorem f_X7_follow_L32_w {fu : Nat} (l : Launch) (g : im_G) (ad : Nat → Nat) {p : Program} {e : Env} {s : State} {m : MethodId} {below : List Frame} {meth : Method} {c : Code} {args : Array Value} (X : im_X p l s m args meth c g cX7_follow 5 RX7 (some Jvm.ClassFile.FieldType.boolean)) : ∀ (nf : Nat) (z1 : Int32) (z2 : Int32) (z3 : Int32) (z4 : Int32) (S : im_S) (r : Int32) (S' : im_S), f_X7_follow_L32 fu nf z1 z2 z3 z4 S = some (r, S') → im_V p l e (im_R 4 0 0) s m args below meth c g 5 (im_Z below g ad args s (some (.int r)) S') ad im_N (im_cn g ad S) 0 0 32 [(0, .ref (ad 3)), (1, .int z1), (2, .int z2), (3, .int z3), (4, .int z4)] [] := by
  intro nf
  induction nf with
  | zero =>
    intro z1 z2 z3 z4 S r S' hm
    cases hm
  | succ nf ih =>
    intro z1 z2 z3 z4 S r S' hm
    unfold f_X7_follow_L32 at hm
    refine iv_iload (pc := 32) X dX7_follow_32 rfl ?_
    refine iv_if_le (pc := 34) X dX7_follow_34 (tgt := 113) rfl (fun hb1 => ?_) (fun hb1 => ?_)
    · rw [if_pos hb1] at hm
      refine iv_aload_n (pc := 113) X dX7_follow_113 rfl ?_
      obtain ⟨⟨r3, S2⟩, hc4, hm⟩ := bd_some hm
      refine cV_X7_66_3 (pc := 114) X [] [] 0 rfl (f_X7_refuse_e l g ad  S _ _ hc4) (by decide) (by decide) (Nat.le_of_ble_eq_true rfl) rfl dX7_follow_114 ?_
      obtain ⟨hg, hm⟩ := gd_some hm
      cases hm
      exact is_zret (pc := 117) X dX7_follow_117 (z_b_n hg)
    · rw [if_neg hb1] at hm
      refine iv_aload_n (pc := 37) X dX7_follow_37 rfl ?_
      refine iv_iload_n (pc := 38) X dX7_follow_38 rfl ?_
      obtain ⟨⟨r6, S5⟩, hc7, hm⟩ := bd_some hm
      refine cV_X7_274_3 (pc := 39) X [.int z2] [] 1 rfl (f_X7_endOperators_e l g ad fu z2 S _ _ hc7) (by decide) (by decide) (Nat.le_of_ble_eq_true rfl) rfl dX7_follow_39 ?_
      refine iv_iload_n (pc := 42) X dX7_follow_42 rfl ?_
      refine iv_if_eq (pc := 43) X dX7_follow_43 (tgt := 64) rfl (fun hb8 => ?_) (fun hb8 => ?_)
      · rw [if_pos hb8] at hm
        refine iv_aload_n (pc := 64) X dX7_follow_64 rfl ?_
        refine iv_iconst (pc := 65) X dX7_follow_65 ic_0 ?_
        obtain ⟨⟨r10, S9⟩, hc11, hm⟩ := bd_some hm
        refine cV_X7_274_3 (pc := 66) X [.int 0] [] 1 rfl (f_X7_endOperators_e l g ad fu 0 S5 _ _ hc11) (by decide) (by decide) (Nat.le_of_ble_eq_true rfl) rfl dX7_follow_66 ?_
        refine iv_aload_n (pc := 69) X dX7_follow_69 rfl ?_
        refine gF_X7_35_3 (pc := 70) X dX7_follow_70 ?_
        obtain ⟨⟨r13, S12⟩, hc14, hm⟩ := bd_some hm
        refine cV_X7_284_34 (pc := 73) X [] [] 0 rfl (f_X6_topEndsByItself_e l g ad  S9 _ _ hc14) (by decide) (by decide) (Nat.le_of_ble_eq_true rfl) rfl dX7_follow_73 ?_
        refine iv_if_ne (pc := 76) X dX7_follow_76 (tgt := 85) rfl (fun hb15 => ?_) (fun hb15 => ?_)
        · rw [if_pos hb15] at hm
          refine iv_aload_n (pc := 85) X dX7_follow_85 rfl ?_
          refine gF_X7_35_3 (pc := 86) X dX7_follow_86 ?_
          obtain ⟨⟨r17, S16⟩, hc18, hm⟩ := bd_some hm
          refine cV_X7_290_34 (pc := 89) X [] [] 0 rfl (f_X6_topKind_e l g ad  S12 _ _ hc18) (by decide) (by decide) (Nat.le_of_ble_eq_true rfl) rfl dX7_follow_89 ?_
          refine iv_bipush (pc := 92) X dX7_follow_92 bc_24 ?_
          refine iv_icmp_ne (pc := 94) X dX7_follow_94 (tgt := 101) rfl (fun hb19 => ?_) (fun hb19 => ?_)
          · rw [if_pos hb19] at hm
            refine iv_iconst (pc := 101) X dX7_follow_101 ic_0 ?_
            refine iv_istore_n (pc := 102) X dX7_follow_102 (by decide) (lv' := [(3, .int 0), (0, .ref (ad 3)), (1, .int z1), (2, .int z2), (4, .int z4)]) rfl ?_
            refine iv_aload_n (pc := 103) X dX7_follow_103 rfl ?_
            obtain ⟨⟨r21, S20⟩, hc22, hm⟩ := bd_some hm
            refine cV_X7_293_3 (pc := 104) X [] [] 0 rfl (f_X7_endByItself_e l g ad fu  S16 _ _ hc22) (by decide) (by decide) (Nat.le_of_ble_eq_true rfl) rfl dX7_follow_104 ?_
            refine iv_iinc (pc := 107) X dX7_follow_107 rfl (by decide) (v := z4 + (-1)) rfl (lv' := [(4, .int (z4 + (-1))), (3, .int 0), (0, .ref (ad 3)), (1, .int z1), (2, .int z2)]) rfl ?_
            refine iv_goto (pc := 110) X dX7_follow_110 (tgt := 32) rfl ?_
            refine iv_sub [2, 3, 4, 1, 0] (lv2 := [(0, .ref (ad 3)), (1, .int z1), (2, .int z2), (3, .int 0), (4, .int (z4 + (-1)))]) rfl ?_
            exact ih z1 z2 0 (z4 + (-1)) S20 _ _ hm
          · rw [if_neg hb19] at hm
            refine iv_iconst (pc := 97) X dX7_follow_97 ic_1 ?_
            refine iv_goto (pc := 98) X dX7_follow_98 (tgt := 102) rfl ?_
            refine iv_istore_n (pc := 102) X dX7_follow_102 (by decide) (lv' := [(3, .int 1), (0, .ref (ad 3)), (1, .int z1), (2, .int z2), (4, .int z4)]) rfl ?_
            refine iv_aload_n (pc := 103) X dX7_follow_103 rfl ?_
            obtain ⟨⟨r24, S23⟩, hc25, hm⟩ := bd_some hm
            refine cV_X7_293_3 (pc := 104) X [] [] 0 rfl (f_X7_endByItself_e l g ad fu  S16 _ _ hc25) (by decide) (by decide) (Nat.le_of_ble_eq_true rfl) rfl dX7_follow_104 ?_
            refine iv_iinc (pc := 107) X dX7_follow_107 rfl (by decide) (v := z4 + (-1)) rfl (lv' := [(4, .int (z4 + (-1))), (3, .int 1), (0, .ref (ad 3)), (1, .int z1), (2, .int z2)]) rfl ?_
            refine iv_goto (pc := 110) X dX7_follow_110 (tgt := 32) rfl ?_
            refine iv_sub [2, 3, 4, 1, 0] (lv2 := [(0, .ref (ad 3)), (1, .int z1), (2, .int z2), (3, .int 1), (4, .int (z4 + (-1)))]) rfl ?_
            exact ih z1 z2 1 (z4 + (-1)) S23 _ _ hm
        · rw [if_neg hb15] at hm
          refine iv_aload_n (pc := 79) X dX7_follow_79 rfl ?_
          refine iv_iload_n (pc := 80) X dX7_follow_80 rfl ?_
          obtain ⟨⟨r27, S26⟩, hc28, hm⟩ := bd_some hm
          refine cV_X7_287_3 (pc := 81) X [.int z1] [] 1 rfl (f_X7_close_e l g ad fu z1 S12 _ _ hc28) (by decide) (by decide) (Nat.le_of_ble_eq_true rfl) rfl dX7_follow_81 ?_
          obtain ⟨hg, hm⟩ := gd_some hm
          cases hm
          exact is_zret (pc := 84) X dX7_follow_84 (z_b_n hg)
      · rw [if_neg hb8] at hm
        refine iv_aload_n (pc := 46) X dX7_follow_46 rfl ?_
        refine gF_X7_35_3 (pc := 47) X dX7_follow_47 ?_
        obtain ⟨⟨r30, S29⟩, hc31, hm⟩ := bd_some hm
        refine cV_X7_277_34 (pc := 50) X [] [] 0 rfl (f_X6_topStrength_e l g ad  S5 _ _ hc31) (by decide) (by decide) (Nat.le_of_ble_eq_true rfl) rfl dX7_follow_50 ?_
        refine iv_iload_n (pc := 53) X dX7_follow_53 rfl ?_
        refine iv_icmp_ge (pc := 54) X dX7_follow_54 (tgt := 64) rfl (fun hb32 => ?_) (fun hb32 => ?_)
        · rw [if_pos hb32] at hm
          refine iv_aload_n (pc := 64) X dX7_follow_64 rfl ?_
          refine iv_iconst (pc := 65) X dX7_follow_65 ic_0 ?_
          obtain ⟨⟨r34, S33⟩, hc35, hm⟩ := bd_some hm
          refine cV_X7_274_3 (pc := 66) X [.int 0] [] 1 rfl (f_X7_endOperators_e l g ad fu 0 S29 _ _ hc35) (by decide) (by decide) (Nat.le_of_ble_eq_true rfl) rfl dX7_follow_66 ?_
          refine iv_aload_n (pc := 69) X dX7_follow_69 rfl ?_
          refine gF_X7_35_3 (pc := 70) X dX7_follow_70 ?_
          obtain ⟨⟨r37, S36⟩, hc38, hm⟩ := bd_some hm
          refine cV_X7_284_34 (pc := 73) X [] [] 0 rfl (f_X6_topEndsByItself_e l g ad  S33 _ _ hc38) (by decide) (by decide) (Nat.le_of_ble_eq_true rfl) rfl dX7_follow_73 ?_
          refine iv_if_ne (pc := 76) X dX7_follow_76 (tgt := 85) rfl (fun hb39 => ?_) (fun hb39 => ?_)
          · rw [if_pos hb39] at hm
            refine iv_aload_n (pc := 85) X dX7_follow_85 rfl ?_
            refine gF_X7_35_3 (pc := 86) X dX7_follow_86 ?_
            obtain ⟨⟨r41, S40⟩, hc42, hm⟩ := bd_some hm
            refine cV_X7_290_34 (pc := 89) X [] [] 0 rfl (f_X6_topKind_e l g ad  S36 _ _ hc42) (by decide) (by decide) (Nat.le_of_ble_eq_true rfl) rfl dX7_follow_89 ?_
            refine iv_bipush (pc := 92) X dX7_follow_92 bc_24 ?_
            refine iv_icmp_ne (pc := 94) X dX7_follow_94 (tgt := 101) rfl (fun hb43 => ?_) (fun hb43 => ?_)
            · rw [if_pos hb43] at hm
              refine iv_iconst (pc := 101) X dX7_follow_101 ic_0 ?_
              refine iv_istore_n (pc := 102) X dX7_follow_102 (by decide) (lv' := [(3, .int 0), (0, .ref (ad 3)), (1, .int z1), (2, .int z2), (4, .int z4)]) rfl ?_
              refine iv_aload_n (pc := 103) X dX7_follow_103 rfl ?_
              obtain ⟨⟨r45, S44⟩, hc46, hm⟩ := bd_some hm
              refine cV_X7_293_3 (pc := 104) X [] [] 0 rfl (f_X7_endByItself_e l g ad fu  S40 _ _ hc46) (by decide) (by decide) (Nat.le_of_ble_eq_true rfl) rfl dX7_follow_104 ?_
              refine iv_iinc (pc := 107) X dX7_follow_107 rfl (by decide) (v := z4 + (-1)) rfl (lv' := [(4, .int (z4 + (-1))), (3, .int 0), (0, .ref (ad 3)), (1, .int z1), (2, .int z2)]) rfl ?_
              refine iv_goto (pc := 110) X dX7_follow_110 (tgt := 32) rfl ?_
              refine iv_sub [2, 3, 4, 1, 0] (lv2 := [(0, .ref (ad 3)), (1, .int z1), (2, .int z2), (3, .int 0), (4, .int (z4 + (-1)))]) rfl ?_
              exact ih z1 z2 0 (z4 + (-1)) S44 _ _ hm
            · rw [if_neg hb43] at hm
              refine iv_iconst (pc := 97) X dX7_follow_97 ic_1 ?_
              refine iv_goto (pc := 98) X dX7_follow_98 (tgt := 102) rfl ?_
              refine iv_istore_n (pc := 102) X dX7_follow_102 (by decide) (lv' := [(3, .int 1), (0, .ref (ad 3)), (1, .int z1), (2, .int z2), (4, .int z4)]) rfl ?_
              refine iv_aload_n (pc := 103) X dX7_follow_103 rfl ?_
              obtain ⟨⟨r48, S47⟩, hc49, hm⟩ := bd_some hm
              refine cV_X7_293_3 (pc := 104) X [] [] 0 rfl (f_X7_endByItself_e l g ad fu  S40 _ _ hc49) (by decide) (by decide) (Nat.le_of_ble_eq_true rfl) rfl dX7_follow_104 ?_
              refine iv_iinc (pc := 107) X dX7_follow_107 rfl (by decide) (v := z4 + (-1)) rfl (lv' := [(4, .int (z4 + (-1))), (3, .int 1), (0, .ref (ad 3)), (1, .int z1), (2, .int z2)]) rfl ?_
              refine iv_goto (pc := 110) X dX7_follow_110 (tgt := 32) rfl ?_
              refine iv_sub [2, 3, 4, 1, 0] (lv2 := [(0, .ref (ad 3)), (1, .int z1), (2, .int z2), (3, .int 1), (4, .int (z4 + (-1)))]) rfl ?_
              exact ih z1 z2 1 (z4 + (-1)) S47 _ _ hm
          · rw [if_neg hb39] at hm
            refine iv_aload_n (pc := 79) X dX7_follow_79 rfl ?_
            refine iv_iload_n (pc := 80) X dX7_follow_80 rfl ?_
            obtain ⟨⟨r51, S50⟩, hc52, hm⟩ := bd_some hm
            refine cV_X7_287_3 (pc := 81) X [.int z1] [] 1 rfl (f_X7_close_e l g ad fu z1 S36 _ _ hc52) (by decide) (by decide) (Nat.le_of_ble_eq_true rfl) rfl dX7_follow_81 ?_
            obtain ⟨hg, hm⟩ := gd_some hm
            cases hm
            exact is_zret (pc := 84) X dX7_follow_84 (z_b_n hg)
        · rw [if_neg hb32] at hm
          refine iv_aload_n (pc := 57) X dX7_follow_57 rfl ?_
          refine iv_iload_n (pc := 58) X dX7_follow_58 rfl ?_
          refine iv_iload_n (pc := 59) X dX7_follow_59 rfl ?_
          obtain ⟨⟨r54, S53⟩, hc55, hm⟩ := bd_some hm
          refine cV_X7_280_3 (pc := 60) X [.int z1, .int z2] [] 2 rfl (f_X7_openBinary_e l g ad z1 z2 S29 _ _ hc55) (by decide) (by decide) (Nat.le_of_ble_eq_true rfl) rfl dX7_follow_60 ?_
          obtain ⟨hg, hm⟩ := gd_some hm
          cases hm
          exact is_zret (pc := 63) X dX7_follow_63 (z_b_n hg)
def f_X7_follow (fu : Nat) (S : im_S) : Option (Int32 × im_S) := (f_X7_kindHere S).bind (fun qS1 => if (qS1.1 : Int32) ≠ 91 then ((f_X6_strengthOf qS1.1 qS1.2).bind (fun qS5 => f_X7_follow_L32 fu fu qS1.1 qS5.1 1 (qS5.2.1 34 3) qS5.2)) else ((f_X7_openElement qS1.2).bind (fun qS8 => gd (z_b qS8.1) (some (qS8.1, qS8.2)))))
set_option maxHeartbeats 4000000 in
set_option maxRecDepth 100000 in
theorem f_X7_follow_e (l : Launch) (g : im_G) (ad : Nat → Nat) (fu : Nat) (S : im_S) (r : Int32) (S' : im_S) (hm : f_X7_follow fu  S = some (r, S')) : im_E l g ad 4 yX7_follow cX7_follow 5 (some Jvm.ClassFile.FieldType.boolean) [.ref (ad 3)] S (some (.int r)) S' := by
  unfold f_X7_follow at hm
  refine is_met (own := RX7) (by decide +kernel) rfl (Nat.le_of_ble_eq_true rfl) (fun p e s m below meth c X => ?_)
  refine iv_aload_n (pc := 0) X dX7_follow_0 rfl ?_
  obtain ⟨⟨r2, S1⟩, hc3, hm⟩ := bd_some hm
  refine cV_X7_62_3 (pc := 1) X [] [] 0 rfl (f_X7_kindHere_e l g ad  S _ _ hc3) (by decide) (by decide) (Nat.le_of_ble_eq_true rfl) rfl dX7_follow_1 ?_
  refine iv_istore_n (pc := 4) X dX7_follow_4 (by decide) (lv' := [(1, .int r2), (0, .ref (ad 3))]) rfl ?_
  refine iv_iload_n (pc := 5) X dX7_follow_5 rfl ?_
  refine iv_bipush (pc := 6) X dX7_follow_6 bc_91 ?_
  refine iv_icmp_ne (pc := 8) X dX7_follow_8 (tgt := 16) rfl (fun hb4 => ?_) (fun hb4 => ?_)
  · rw [if_pos hb4] at hm
    refine iv_iload_n (pc := 16) X dX7_follow_16 rfl ?_
    obtain ⟨⟨r6, S5⟩, hc7, hm⟩ := bd_some hm
    refine cS_X7_271 (pc := 17) X [.int r2] [] 1 rfl (f_X6_strengthOf_e l g ad r2 S1 _ _ hc7) (by decide) (by decide) (Nat.le_of_ble_eq_true rfl) rfl dX7_follow_17 ?_
    refine iv_istore_n (pc := 20) X dX7_follow_20 (by decide) (lv' := [(2, .int r6), (1, .int r2), (0, .ref (ad 3))]) rfl ?_
    refine iv_iconst (pc := 21) X dX7_follow_21 ic_1 ?_
    refine iv_istore_n (pc := 22) X dX7_follow_22 (by decide) (lv' := [(3, .int 1), (2, .int r6), (1, .int r2), (0, .ref (ad 3))]) rfl ?_
    refine iv_aload_n (pc := 23) X dX7_follow_23 rfl ?_
    refine gF_X7_35_3 (pc := 24) X dX7_follow_24 ?_
    refine gF_X7_112_34 (pc := 27) X dX7_follow_27 (x := S5.1 34 3) rfl ?_
    refine iv_istore (pc := 30) X dX7_follow_30 (by decide) (lv' := [(4, .int (S5.1 34 3)), (3, .int 1), (2, .int r6), (1, .int r2), (0, .ref (ad 3))]) rfl ?_
    refine iv_sub [4, 3, 2, 1, 0] (lv2 := [(0, .ref (ad 3)), (1, .int r2), (2, .int r6), (3, .int 1), (4, .int (S5.1 34 3))]) rfl ?_
    exact f_X7_follow_L32_w (fu := fu) l g ad X fu r2 r6 1 (S5.1 34 3) S5 _ _ hm
  · rw [if_neg hb4] at hm
    refine iv_aload_n (pc := 11) X dX7_follow_11 rfl ?_
    obtain ⟨⟨r9, S8⟩, hc10, hm⟩ := bd_some hm
    refine cV_X7_268_3 (pc := 12) X [] [] 0 rfl (f_X7_openElement_e l g ad  S1 _ _ hc10) (by decide) (by decide) (Nat.le_of_ble_eq_true rfl) rfl dX7_follow_12 ?_
    obtain ⟨hg, hm⟩ := gd_some hm
    cases hm
    exact is_zret (pc := 15) X dX7_follow_15 (z_b_n hg)
def f_X7_expression_L4 (fu : Nat) : Nat → Int32 → Int32 → im_S → Option (Int32 × im_S)
  | 0, _, _, _ => none
  | nf + 1, z1, z2, S => if (500 : Int32) < z2 then (gd (z_b z1) (some (z1, S))) else (if (z1 : Int32) = 0 then (gd (z_b z1) (some (z1, S))) else (if (S.1 3 7 : Int32) = 5 then (gd (z_b z1) (some (z1, S))) else (if (S.1 3 7) = (2 : Int32) then ((f_X7_follow fu S).bind (fun qS5 => f_X7_expression_L4 fu nf qS5.1 (z2 + 1) qS5.2)) else (if (S.1 3 7) = (3 : Int32) then ((f_X7_openFirstValue fu S).bind (fun qS9 => f_X7_expression_L4 fu nf qS9.1 (z2 + 1) qS9.2)) else (if (S.1 3 7) = (4 : Int32) then ((f_X7_openNextValue fu S).bind (fun qS13 => f_X7_expression_L4 fu nf qS13.1 (z2 + 1) qS13.2)) else ((f_X7_operand fu S).bind (fun qS16 => f_X7_expression_L4 fu nf qS16.1 (z2 + 1) qS16.2)))))))
set_option maxHeartbeats 4000000 in
set_option maxRecDepth 100000 in
theorem f_X7_expression_L4_w {fu : Nat} (l : Launch) (g : im_G) (ad : Nat → Nat) {p : Program} {e : Env} {s : State} {m : MethodId} {below : List Frame} {meth : Method} {c : Code} {args : Array Value} (X : im_X p l s m args meth c g cX7_expression 3 RX7 (some Jvm.ClassFile.FieldType.boolean)) : ∀ (nf : Nat) (z1 : Int32) (z2 : Int32) (S : im_S) (r : Int32) (S' : im_S), f_X7_expression_L4 fu nf z1 z2 S = some (r, S') → im_V p l e (im_R 5 0 0) s m args below meth c g 3 (im_Z below g ad args s (some (.int r)) S') ad im_N (im_cn g ad S) 0 0 4 [(0, .ref (ad 3)), (1, .int z1), (2, .int z2)] [] := by
  intro nf
  induction nf with
  | zero =>
    intro z1 z2 S r S' hm
    cases hm
  | succ nf ih =>
    intro z1 z2 S r S' hm
    unfold f_X7_expression_L4 at hm
    refine iv_iload_n (pc := 4) X dX7_expression_4 rfl ?_
    refine iv_sipush (pc := 5) X dX7_expression_5 sc_500 ?_
    refine iv_icmp_gt (pc := 8) X dX7_expression_8 (tgt := 87) rfl (fun hb1 => ?_) (fun hb1 => ?_)
    · rw [if_pos hb1] at hm
      refine iv_iload_n (pc := 87) X dX7_expression_87 rfl ?_
      obtain ⟨hg, hm⟩ := gd_some hm
      cases hm
      exact is_zret (pc := 88) X dX7_expression_88 (z_b_n hg)
    · rw [if_neg hb1] at hm
      refine iv_iload_n (pc := 11) X dX7_expression_11 rfl ?_
      refine iv_if_eq (pc := 12) X dX7_expression_12 (tgt := 87) rfl (fun hb2 => ?_) (fun hb2 => ?_)
      · rw [if_pos hb2] at hm
        refine iv_iload_n (pc := 87) X dX7_expression_87 rfl ?_
        obtain ⟨hg, hm⟩ := gd_some hm
        cases hm
        exact is_zret (pc := 88) X dX7_expression_88 (z_b_n hg)
      · rw [if_neg hb2] at hm
        refine iv_aload_n (pc := 15) X dX7_expression_15 rfl ?_
        refine gF_X7_122_3 (pc := 16) X dX7_expression_16 (x := S.1 3 7) rfl ?_
        refine iv_iconst (pc := 19) X dX7_expression_19 ic_5 ?_
        refine iv_icmp_eq (pc := 20) X dX7_expression_20 (tgt := 87) rfl (fun hb3 => ?_) (fun hb3 => ?_)
        · rw [if_pos hb3] at hm
          refine iv_iload_n (pc := 87) X dX7_expression_87 rfl ?_
          obtain ⟨hg, hm⟩ := gd_some hm
          cases hm
          exact is_zret (pc := 88) X dX7_expression_88 (z_b_n hg)
        · rw [if_neg hb3] at hm
          refine iv_aload_n (pc := 23) X dX7_expression_23 rfl ?_
          refine gF_X7_122_3 (pc := 24) X dX7_expression_24 (x := S.1 3 7) rfl ?_
          by_cases hb4 : (S.1 3 7) = (2 : Int32)
          · rw [if_pos hb4] at hm
            refine iv_tableIn X dX7_expression_27 (off := 25) (tgt := 52) (by rw [hb4]; decide) (by rw [hb4]; decide) (by rw [hb4]; decide) (by decide) ?_
            refine iv_aload_n (pc := 52) X dX7_expression_52 rfl ?_
            obtain ⟨⟨r6, S5⟩, hc7, hm⟩ := bd_some hm
            refine cV_X7_146_3 (pc := 53) X [] [] 0 rfl (f_X7_follow_e l g ad fu  S _ _ hc7) (by decide) (by decide) (Nat.le_of_ble_eq_true rfl) rfl dX7_expression_53 ?_
            refine iv_istore_n (pc := 56) X dX7_expression_56 (by decide) (lv' := [(1, .int r6), (0, .ref (ad 3)), (2, .int z2)]) rfl ?_
            refine iv_goto (pc := 57) X dX7_expression_57 (tgt := 81) rfl ?_
            refine iv_iinc (pc := 81) X dX7_expression_81 rfl (by decide) (v := z2 + 1) rfl (lv' := [(2, .int (z2 + 1)), (1, .int r6), (0, .ref (ad 3))]) rfl ?_
            refine iv_goto (pc := 84) X dX7_expression_84 (tgt := 4) rfl ?_
            refine iv_sub [2, 1, 0] (lv2 := [(0, .ref (ad 3)), (1, .int r6), (2, .int (z2 + 1))]) rfl ?_
            exact ih r6 (z2 + 1) S5 _ _ hm
          · rw [if_neg hb4] at hm
            by_cases hb8 : (S.1 3 7) = (3 : Int32)
            · rw [if_pos hb8] at hm
              refine iv_tableIn X dX7_expression_27 (off := 33) (tgt := 60) (by rw [hb8]; decide) (by rw [hb8]; decide) (by rw [hb8]; decide) (by decide) ?_
              refine iv_aload_n (pc := 60) X dX7_expression_60 rfl ?_
              obtain ⟨⟨r10, S9⟩, hc11, hm⟩ := bd_some hm
              refine cV_X7_149_3 (pc := 61) X [] [] 0 rfl (f_X7_openFirstValue_e l g ad fu  S _ _ hc11) (by decide) (by decide) (Nat.le_of_ble_eq_true rfl) rfl dX7_expression_61 ?_
              refine iv_istore_n (pc := 64) X dX7_expression_64 (by decide) (lv' := [(1, .int r10), (0, .ref (ad 3)), (2, .int z2)]) rfl ?_
              refine iv_goto (pc := 65) X dX7_expression_65 (tgt := 81) rfl ?_
              refine iv_iinc (pc := 81) X dX7_expression_81 rfl (by decide) (v := z2 + 1) rfl (lv' := [(2, .int (z2 + 1)), (1, .int r10), (0, .ref (ad 3))]) rfl ?_
              refine iv_goto (pc := 84) X dX7_expression_84 (tgt := 4) rfl ?_
              refine iv_sub [2, 1, 0] (lv2 := [(0, .ref (ad 3)), (1, .int r10), (2, .int (z2 + 1))]) rfl ?_
              exact ih r10 (z2 + 1) S9 _ _ hm
            · rw [if_neg hb8] at hm
              by_cases hb12 : (S.1 3 7) = (4 : Int32)
              · rw [if_pos hb12] at hm
                refine iv_tableIn X dX7_expression_27 (off := 41) (tgt := 68) (by rw [hb12]; decide) (by rw [hb12]; decide) (by rw [hb12]; decide) (by decide) ?_
                refine iv_aload_n (pc := 68) X dX7_expression_68 rfl ?_
                obtain ⟨⟨r14, S13⟩, hc15, hm⟩ := bd_some hm
                refine cV_X7_152_3 (pc := 69) X [] [] 0 rfl (f_X7_openNextValue_e l g ad fu  S _ _ hc15) (by decide) (by decide) (Nat.le_of_ble_eq_true rfl) rfl dX7_expression_69 ?_
                refine iv_istore_n (pc := 72) X dX7_expression_72 (by decide) (lv' := [(1, .int r14), (0, .ref (ad 3)), (2, .int z2)]) rfl ?_
                refine iv_goto (pc := 73) X dX7_expression_73 (tgt := 81) rfl ?_
                refine iv_iinc (pc := 81) X dX7_expression_81 rfl (by decide) (v := z2 + 1) rfl (lv' := [(2, .int (z2 + 1)), (1, .int r14), (0, .ref (ad 3))]) rfl ?_
                refine iv_goto (pc := 84) X dX7_expression_84 (tgt := 4) rfl ?_
                refine iv_sub [2, 1, 0] (lv2 := [(0, .ref (ad 3)), (1, .int r14), (2, .int (z2 + 1))]) rfl ?_
                exact ih r14 (z2 + 1) S13 _ _ hm
              · rw [if_neg hb12] at hm
                have k0 := sw_ne hb4 (n := 2) (by decide)
                have k1 := sw_ne hb8 (n := 3) (by decide)
                have k2 := sw_ne hb12 (n := 4) (by decide)
                refine iv_tableOut X dX7_expression_27 (tgt := 76) (by omega) (by decide) ?_
                refine iv_aload_n (pc := 76) X dX7_expression_76 rfl ?_
                obtain ⟨⟨r17, S16⟩, hc18, hm⟩ := bd_some hm
                refine cV_X7_155_3 (pc := 77) X [] [] 0 rfl (f_X7_operand_e l g ad fu  S _ _ hc18) (by decide) (by decide) (Nat.le_of_ble_eq_true rfl) rfl dX7_expression_77 ?_
                refine iv_istore_n (pc := 80) X dX7_expression_80 (by decide) (lv' := [(1, .int r17), (0, .ref (ad 3)), (2, .int z2)]) rfl ?_
                refine iv_iinc (pc := 81) X dX7_expression_81 rfl (by decide) (v := z2 + 1) rfl (lv' := [(2, .int (z2 + 1)), (1, .int r17), (0, .ref (ad 3))]) rfl ?_
                refine iv_goto (pc := 84) X dX7_expression_84 (tgt := 4) rfl ?_
                refine iv_sub [2, 1, 0] (lv2 := [(0, .ref (ad 3)), (1, .int r17), (2, .int (z2 + 1))]) rfl ?_
                exact ih r17 (z2 + 1) S16 _ _ hm
def f_X7_expression (fu : Nat) (S : im_S) : Option (Int32 × im_S) := f_X7_expression_L4 fu fu 1 0 S
set_option maxHeartbeats 4000000 in
set_option maxRecDepth 100000 in
theorem f_X7_expression_e (l : Launch) (g : im_G) (ad : Nat → Nat) (fu : Nat) (S : im_S) (r : Int32) (S' : im_S) (hm : f_X7_expression fu  S = some (r, S')) : im_E l g ad 5 yX7_expression cX7_expression 3 (some Jvm.ClassFile.FieldType.boolean) [.ref (ad 3)] S (some (.int r)) S' := by
  unfold f_X7_expression at hm
  refine is_met (own := RX7) (by decide +kernel) rfl (Nat.le_of_ble_eq_true rfl) (fun p e s m below meth c X => ?_)
  refine iv_iconst (pc := 0) X dX7_expression_0 ic_1 ?_
  refine iv_istore_n (pc := 1) X dX7_expression_1 (by decide) (lv' := [(1, .int 1), (0, .ref (ad 3))]) rfl ?_
  refine iv_iconst (pc := 2) X dX7_expression_2 ic_0 ?_
  refine iv_istore_n (pc := 3) X dX7_expression_3 (by decide) (lv' := [(2, .int 0), (1, .int 1), (0, .ref (ad 3))]) rfl ?_
  refine iv_sub [2, 1, 0] (lv2 := [(0, .ref (ad 3)), (1, .int 1), (2, .int 0)]) rfl ?_
  exact f_X7_expression_L4_w (fu := fu) l g ad X fu 1 0 S _ _ hm
