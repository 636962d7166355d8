/-! written by program (wip/whole/walk.py): methods as functions, and their contracts -/
def f_X9_isDigit (x0 : Int32) (S : im_S) : Option (Int32 × im_S) := if (x0 : Int32) < 48 then (some (0, S)) else (if (57 : Int32) < x0 then (some (0, S)) else (some (1, S)))
set_option maxHeartbeats 4000000 in
set_option maxRecDepth 100000 in
theorem f_X9_isDigit_e (l : Launch) (g : im_G) (ad : Nat → Nat) (x0 : Int32) (S : im_S) (r : Int32) (S' : im_S) (hm : f_X9_isDigit x0 S = some (r, S')) : im_E l g ad 0 yX9_isDigit cX9_isDigit 1 (some Jvm.ClassFile.FieldType.boolean) [.int x0] S (some (.int r)) S' := by
  unfold f_X9_isDigit at hm
  refine is_met (own := RX9) (by decide +kernel) rfl (Nat.le_of_ble_eq_true rfl) (fun p e s m below meth c X => ?_)
  refine iv_iload_n (pc := 0) X dX9_isDigit_0 rfl ?_
  refine iv_bipush (pc := 1) X dX9_isDigit_1 bc_48 ?_
  refine iv_icmp_lt (pc := 3) X dX9_isDigit_3 (tgt := 16) rfl (fun hb1 => ?_) (fun hb1 => ?_)
  · rw [if_pos hb1] at hm
    refine iv_iconst (pc := 16) X dX9_isDigit_16 ic_0 ?_
    cases hm
    exact is_zret (pc := 17) X dX9_isDigit_17 rfl
  · rw [if_neg hb1] at hm
    refine iv_iload_n (pc := 6) X dX9_isDigit_6 rfl ?_
    refine iv_bipush (pc := 7) X dX9_isDigit_7 bc_57 ?_
    refine iv_icmp_gt (pc := 9) X dX9_isDigit_9 (tgt := 16) rfl (fun hb2 => ?_) (fun hb2 => ?_)
    · rw [if_pos hb2] at hm
      refine iv_iconst (pc := 16) X dX9_isDigit_16 ic_0 ?_
      cases hm
      exact is_zret (pc := 17) X dX9_isDigit_17 rfl
    · rw [if_neg hb2] at hm
      refine iv_iconst (pc := 12) X dX9_isDigit_12 ic_1 ?_
      refine iv_goto (pc := 13) X dX9_isDigit_13 (tgt := 17) rfl ?_
      cases hm
      exact is_zret (pc := 17) X dX9_isDigit_17 rfl
def f_X9_isLetter (x0 : Int32) (S : im_S) : Option (Int32 × im_S) := if (x0 : Int32) < 97 then (some (0, S)) else (if (122 : Int32) < x0 then (some (0, S)) else (some (1, S)))
set_option maxHeartbeats 4000000 in
set_option maxRecDepth 100000 in
theorem f_X9_isLetter_e (l : Launch) (g : im_G) (ad : Nat → Nat) (x0 : Int32) (S : im_S) (r : Int32) (S' : im_S) (hm : f_X9_isLetter x0 S = some (r, S')) : im_E l g ad 0 yX9_isLetter cX9_isLetter 1 (some Jvm.ClassFile.FieldType.boolean) [.int x0] S (some (.int r)) S' := by
  unfold f_X9_isLetter at hm
  refine is_met (own := RX9) (by decide +kernel) rfl (Nat.le_of_ble_eq_true rfl) (fun p e s m below meth c X => ?_)
  refine iv_iload_n (pc := 0) X dX9_isLetter_0 rfl ?_
  refine iv_bipush (pc := 1) X dX9_isLetter_1 bc_97 ?_
  refine iv_icmp_lt (pc := 3) X dX9_isLetter_3 (tgt := 16) rfl (fun hb1 => ?_) (fun hb1 => ?_)
  · rw [if_pos hb1] at hm
    refine iv_iconst (pc := 16) X dX9_isLetter_16 ic_0 ?_
    cases hm
    exact is_zret (pc := 17) X dX9_isLetter_17 rfl
  · rw [if_neg hb1] at hm
    refine iv_iload_n (pc := 6) X dX9_isLetter_6 rfl ?_
    refine iv_bipush (pc := 7) X dX9_isLetter_7 bc_122 ?_
    refine iv_icmp_gt (pc := 9) X dX9_isLetter_9 (tgt := 16) rfl (fun hb2 => ?_) (fun hb2 => ?_)
    · rw [if_pos hb2] at hm
      refine iv_iconst (pc := 16) X dX9_isLetter_16 ic_0 ?_
      cases hm
      exact is_zret (pc := 17) X dX9_isLetter_17 rfl
    · rw [if_neg hb2] at hm
      refine iv_iconst (pc := 12) X dX9_isLetter_12 ic_1 ?_
      refine iv_goto (pc := 13) X dX9_isLetter_13 (tgt := 17) rfl ?_
      cases hm
      exact is_zret (pc := 17) X dX9_isLetter_17 rfl
def f_X9_add (x1 : Int32) (x2 : Int32) (x3 : Int64) (S : im_S) : Option (Unit × im_S) := gd (in_b (S.1 30 3) 501) (gd (in_b (S.1 30 3) 501) (gd (in_b (S.1 30 3) 501) (some ((), (uI (uJ (uI (uI S 31 ((S.1 30 3).toNatClampNeg) x1) 32 ((S.1 30 3).toNatClampNeg) x2) 33 ((S.1 30 3).toNatClampNeg) x3) 30 3 ((S.1 30 3) + 1))))))
set_option maxHeartbeats 4000000 in
set_option maxRecDepth 100000 in
theorem f_X9_add_e (l : Launch) (g : im_G) (ad : Nat → Nat) (x1 : Int32) (x2 : Int32) (x3 : Int64) (S : im_S) (r : Unit) (S' : im_S) (hm : f_X9_add x1 x2 x3 S = some (r, S')) : im_E l g ad 0 yX9_add cX9_add 5 none [.ref (ad 30), .int x1, .int x2, .long x3] S none S' := by
  unfold f_X9_add at hm
  refine is_met (own := RX9) (by decide +kernel) rfl (Nat.le_of_ble_eq_true rfl) (fun p e s m below meth c X => ?_)
  refine iv_aload_n (pc := 0) X dX9_add_0 rfl ?_
  refine gF_X9_9_30 (pc := 1) X dX9_add_1 ?_
  refine iv_aload_n (pc := 4) X dX9_add_4 rfl ?_
  refine gF_X9_22_30 (pc := 5) X dX9_add_5 (x := S.1 30 3) rfl ?_
  refine iv_iload_n (pc := 8) X dX9_add_8 rfl ?_
  obtain ⟨hg, hm⟩ := gd_some hm
  refine aS_31 (pc := 9) X dX9_add_9 hg ?_
  refine iv_aload_n (pc := 10) X dX9_add_10 rfl ?_
  refine gF_X9_15_30 (pc := 11) X dX9_add_11 ?_
  refine iv_aload_n (pc := 14) X dX9_add_14 rfl ?_
  refine gF_X9_22_30 (pc := 15) X dX9_add_15 (x := S.1 30 3) rfl ?_
  refine iv_iload_n (pc := 18) X dX9_add_18 rfl ?_
  obtain ⟨hg, hm⟩ := gd_some hm
  refine aS_32 (pc := 19) X dX9_add_19 hg ?_
  refine iv_aload_n (pc := 20) X dX9_add_20 rfl ?_
  refine gF_X9_18_30 (pc := 21) X dX9_add_21 ?_
  refine iv_aload_n (pc := 24) X dX9_add_24 rfl ?_
  refine gF_X9_22_30 (pc := 25) X dX9_add_25 (x := S.1 30 3) rfl ?_
  refine iv_lload_n (pc := 28) X dX9_add_28 rfl ?_
  obtain ⟨hg, hm⟩ := gd_some hm
  refine aS_33 (pc := 29) X dX9_add_29 hg ?_
  refine iv_aload_n (pc := 30) X dX9_add_30 rfl ?_
  refine iv_dup (pc := 31) X dX9_add_31 rfl ?_
  refine gF_X9_22_30 (pc := 32) X dX9_add_32 (x := S.1 30 3) rfl ?_
  refine iv_iconst (pc := 35) X dX9_add_35 ic_1 ?_
  refine iv_iadd (pc := 36) X dX9_add_36 ?_
  refine pF_X9_22_30 (pc := 37) X dX9_add_37 ?_
  cases hm
  exact is_vret (pc := 40) X dX9_add_40
def f_X9_readNumeral_L6 (fu : Nat) : Nat → Int32 → Int32 → Int64 → Int32 → im_S → Option (Int32 × im_S)
  | 0, _, _, _, _, _ => none
  | nf + 1, z2, z3, z4, z6, S => if (z2 : Int32) ≤ z6 then (if (z6 - z3 : Int32) ≤ 10 then ((f_X9_add 2 z3 z4 S).bind (fun qS3 => some (z6, qS3.2))) else ((f_X9_add 3 z3 z4 S).bind (fun qS6 => some (z6, qS6.2)))) else (gd (in_b z6 500) ((f_X9_isDigit ((S.1 1) z6.toNatClampNeg) S).bind (fun qS9 => if (qS9.1 : Int32) = 0 then (if (z6 - z3 : Int32) ≤ 10 then ((f_X9_add 2 z3 z4 qS9.2).bind (fun qS14 => some (z6, qS14.2))) else ((f_X9_add 3 z3 z4 qS9.2).bind (fun qS17 => some (z6, qS17.2)))) else (gd (in_b z6 500) (f_X9_readNumeral_L6 fu nf z2 z3 ((z4 * 10) + ((((qS9.2.1 1) z6.toNatClampNeg) - 48).toInt64)) (z6 + 1) qS9.2)))))
set_option maxHeartbeats 4000000 in
set_option maxRecDepth 100000 in
theorem f_X9_readNumeral_L6_w {fu : Nat} (l : Launch) (g : im_G) (ad : Nat → Nat) {p : Program} {e : Env} {s : State} {m : MethodId} {below : List Frame} {meth : Method} {c : Code} {args : Array Value} (X : im_X p l s m args meth c g cX9_readNumeral 7 RX9 (some Jvm.ClassFile.FieldType.int)) : ∀ (nf : Nat) (z2 : Int32) (z3 : Int32) (z4 : Int64) (z6 : Int32) (S : im_S) (r : Int32) (S' : im_S), f_X9_readNumeral_L6 fu nf z2 z3 z4 z6 S = some (r, S') → im_V p l e (im_R 1 0 0) s m args below meth c g 7 (im_Z below g ad args s (some (.int r)) S') ad im_N (im_cn g ad S) 0 0 6 [(0, .ref (ad 30)), (1, .ref (ad 1)), (2, .int z2), (3, .int z3), (4, .long z4), (6, .int z6)] [] := by
  intro nf
  induction nf with
  | zero =>
    intro z2 z3 z4 z6 S r S' hm
    cases hm
  | succ nf ih =>
    intro z2 z3 z4 z6 S r S' hm
    unfold f_X9_readNumeral_L6 at hm
    refine iv_iload (pc := 6) X dX9_readNumeral_6 rfl ?_
    refine iv_iload_n (pc := 8) X dX9_readNumeral_8 rfl ?_
    refine iv_icmp_ge (pc := 9) X dX9_readNumeral_9 (tgt := 45) rfl (fun hb1 => ?_) (fun hb1 => ?_)
    · rw [if_pos hb1] at hm
      refine iv_aload_n (pc := 45) X dX9_readNumeral_45 rfl ?_
      refine iv_iload (pc := 46) X dX9_readNumeral_46 rfl ?_
      refine iv_iload_n (pc := 48) X dX9_readNumeral_48 rfl ?_
      refine iv_isub (pc := 49) X dX9_readNumeral_49 ?_
      refine iv_bipush (pc := 50) X dX9_readNumeral_50 bc_10 ?_
      refine iv_icmp_le (pc := 52) X dX9_readNumeral_52 (tgt := 59) rfl (fun hb2 => ?_) (fun hb2 => ?_)
      · rw [if_pos hb2] at hm
        refine iv_iconst (pc := 59) X dX9_readNumeral_59 ic_2 ?_
        refine iv_iload_n (pc := 60) X dX9_readNumeral_60 rfl ?_
        refine iv_lload (pc := 61) X dX9_readNumeral_61 rfl ?_
        obtain ⟨⟨r4, S3⟩, hc5, hm⟩ := bd_some hm
        refine cV_X9_30_30 (pc := 63) X [.int 2, .int z3, .long z4] [] 3 rfl (f_X9_add_e l g ad 2 z3 z4 S _ _ hc5) (by decide) (by decide) (Nat.le_of_ble_eq_true rfl) rfl dX9_readNumeral_63 ?_
        refine iv_iload (pc := 66) X dX9_readNumeral_66 rfl ?_
        cases hm
        exact is_iret (pc := 68) X dX9_readNumeral_68
      · rw [if_neg hb2] at hm
        refine iv_iconst (pc := 55) X dX9_readNumeral_55 ic_3 ?_
        refine iv_goto (pc := 56) X dX9_readNumeral_56 (tgt := 60) rfl ?_
        refine iv_iload_n (pc := 60) X dX9_readNumeral_60 rfl ?_
        refine iv_lload (pc := 61) X dX9_readNumeral_61 rfl ?_
        obtain ⟨⟨r7, S6⟩, hc8, hm⟩ := bd_some hm
        refine cV_X9_30_30 (pc := 63) X [.int 3, .int z3, .long z4] [] 3 rfl (f_X9_add_e l g ad 3 z3 z4 S _ _ hc8) (by decide) (by decide) (Nat.le_of_ble_eq_true rfl) rfl dX9_readNumeral_63 ?_
        refine iv_iload (pc := 66) X dX9_readNumeral_66 rfl ?_
        cases hm
        exact is_iret (pc := 68) X dX9_readNumeral_68
    · rw [if_neg hb1] at hm
      refine iv_aload_n (pc := 12) X dX9_readNumeral_12 rfl ?_
      refine iv_iload (pc := 13) X dX9_readNumeral_13 rfl ?_
      obtain ⟨hg, hm⟩ := gd_some hm
      refine aL_1 (pc := 15) X dX9_readNumeral_15 hg (x := (S.1 1) z6.toNatClampNeg) rfl ?_
      obtain ⟨⟨r10, S9⟩, hc11, hm⟩ := bd_some hm
      refine cS_X9_34 (pc := 16) X [.int ((S.1 1) z6.toNatClampNeg)] [] 1 rfl (f_X9_isDigit_e l g ad ((S.1 1) z6.toNatClampNeg) S _ _ hc11) (by decide) (by decide) (Nat.le_of_ble_eq_true rfl) rfl dX9_readNumeral_16 ?_
      refine iv_if_eq (pc := 19) X dX9_readNumeral_19 (tgt := 45) rfl (fun hb12 => ?_) (fun hb12 => ?_)
      · rw [if_pos hb12] at hm
        refine iv_aload_n (pc := 45) X dX9_readNumeral_45 rfl ?_
        refine iv_iload (pc := 46) X dX9_readNumeral_46 rfl ?_
        refine iv_iload_n (pc := 48) X dX9_readNumeral_48 rfl ?_
        refine iv_isub (pc := 49) X dX9_readNumeral_49 ?_
        refine iv_bipush (pc := 50) X dX9_readNumeral_50 bc_10 ?_
        refine iv_icmp_le (pc := 52) X dX9_readNumeral_52 (tgt := 59) rfl (fun hb13 => ?_) (fun hb13 => ?_)
        · rw [if_pos hb13] at hm
          refine iv_iconst (pc := 59) X dX9_readNumeral_59 ic_2 ?_
          refine iv_iload_n (pc := 60) X dX9_readNumeral_60 rfl ?_
          refine iv_lload (pc := 61) X dX9_readNumeral_61 rfl ?_
          obtain ⟨⟨r15, S14⟩, hc16, hm⟩ := bd_some hm
          refine cV_X9_30_30 (pc := 63) X [.int 2, .int z3, .long z4] [] 3 rfl (f_X9_add_e l g ad 2 z3 z4 S9 _ _ hc16) (by decide) (by decide) (Nat.le_of_ble_eq_true rfl) rfl dX9_readNumeral_63 ?_
          refine iv_iload (pc := 66) X dX9_readNumeral_66 rfl ?_
          cases hm
          exact is_iret (pc := 68) X dX9_readNumeral_68
        · rw [if_neg hb13] at hm
          refine iv_iconst (pc := 55) X dX9_readNumeral_55 ic_3 ?_
          refine iv_goto (pc := 56) X dX9_readNumeral_56 (tgt := 60) rfl ?_
          refine iv_iload_n (pc := 60) X dX9_readNumeral_60 rfl ?_
          refine iv_lload (pc := 61) X dX9_readNumeral_61 rfl ?_
          obtain ⟨⟨r18, S17⟩, hc19, hm⟩ := bd_some hm
          refine cV_X9_30_30 (pc := 63) X [.int 3, .int z3, .long z4] [] 3 rfl (f_X9_add_e l g ad 3 z3 z4 S9 _ _ hc19) (by decide) (by decide) (Nat.le_of_ble_eq_true rfl) rfl dX9_readNumeral_63 ?_
          refine iv_iload (pc := 66) X dX9_readNumeral_66 rfl ?_
          cases hm
          exact is_iret (pc := 68) X dX9_readNumeral_68
      · rw [if_neg hb12] at hm
        refine iv_lload (pc := 22) X dX9_readNumeral_22 rfl ?_
        refine iv_ldc2 (pc := 24) X wk_X9_55 dX9_readNumeral_24 ?_
        refine iv_lmul (pc := 27) X dX9_readNumeral_27 ?_
        refine iv_aload_n (pc := 28) X dX9_readNumeral_28 rfl ?_
        refine iv_iload (pc := 29) X dX9_readNumeral_29 rfl ?_
        obtain ⟨hg, hm⟩ := gd_some hm
        refine aL_1 (pc := 31) X dX9_readNumeral_31 hg (x := (S9.1 1) z6.toNatClampNeg) rfl ?_
        refine iv_bipush (pc := 32) X dX9_readNumeral_32 bc_48 ?_
        refine iv_isub (pc := 34) X dX9_readNumeral_34 ?_
        refine iv_i2l (pc := 35) X dX9_readNumeral_35 rfl ?_
        refine iv_ladd (pc := 36) X dX9_readNumeral_36 ?_
        refine iv_lstore (pc := 37) X dX9_readNumeral_37 (by decide) (lv' := [(4, .long ((z4 * 10) + ((((S9.1 1) z6.toNatClampNeg) - 48).toInt64))), (0, .ref (ad 30)), (1, .ref (ad 1)), (2, .int z2), (3, .int z3), (6, .int z6)]) rfl ?_
        refine iv_iinc (pc := 39) X dX9_readNumeral_39 rfl (by decide) (v := z6 + 1) rfl (lv' := [(6, .int (z6 + 1)), (4, .long ((z4 * 10) + ((((S9.1 1) z6.toNatClampNeg) - 48).toInt64))), (0, .ref (ad 30)), (1, .ref (ad 1)), (2, .int z2), (3, .int z3)]) rfl ?_
        refine iv_goto (pc := 42) X dX9_readNumeral_42 (tgt := 6) rfl ?_
        refine iv_sub [2, 3, 4, 5, 1, 0] (lv2 := [(0, .ref (ad 30)), (1, .ref (ad 1)), (2, .int z2), (3, .int z3), (4, .long ((z4 * 10) + ((((S9.1 1) z6.toNatClampNeg) - 48).toInt64))), (6, .int (z6 + 1))]) rfl ?_
        exact ih z2 z3 ((z4 * 10) + ((((S9.1 1) z6.toNatClampNeg) - 48).toInt64)) (z6 + 1) S9 _ _ hm
def f_X9_readNumeral (fu : Nat) (x2 : Int32) (x3 : Int32) (S : im_S) : Option (Int32 × im_S) := f_X9_readNumeral_L6 fu fu x2 x3 0 x3 S
set_option maxHeartbeats 4000000 in
set_option maxRecDepth 100000 in
theorem f_X9_readNumeral_e (l : Launch) (g : im_G) (ad : Nat → Nat) (fu : Nat) (x2 : Int32) (x3 : Int32) (S : im_S) (r : Int32) (S' : im_S) (hm : f_X9_readNumeral fu x2 x3 S = some (r, S')) : im_E l g ad 1 yX9_readNumeral cX9_readNumeral 7 (some Jvm.ClassFile.FieldType.int) [.ref (ad 30), .ref (ad 1), .int x2, .int x3] S (some (.int r)) S' := by
  unfold f_X9_readNumeral at hm
  refine is_met (own := RX9) (by decide +kernel) rfl (Nat.le_of_ble_eq_true rfl) (fun p e s m below meth c X => ?_)
  refine iv_lconst (pc := 0) X dX9_readNumeral_0 lc_0 ?_
  refine iv_lstore (pc := 1) X dX9_readNumeral_1 (by decide) (lv' := [(4, .long 0), (0, .ref (ad 30)), (1, .ref (ad 1)), (2, .int x2), (3, .int x3)]) rfl ?_
  refine iv_iload_n (pc := 3) X dX9_readNumeral_3 rfl ?_
  refine iv_istore (pc := 4) X dX9_readNumeral_4 (by decide) (lv' := [(6, .int x3), (4, .long 0), (0, .ref (ad 30)), (1, .ref (ad 1)), (2, .int x2), (3, .int x3)]) rfl ?_
  refine iv_sub [2, 3, 4, 5, 1, 0] (lv2 := [(0, .ref (ad 30)), (1, .ref (ad 1)), (2, .int x2), (3, .int x3), (4, .long 0), (6, .int x3)]) rfl ?_
  exact f_X9_readNumeral_L6_w (fu := fu) l g ad X fu x2 x3 0 x3 S _ _ hm
