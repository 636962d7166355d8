/-! written by program (wip/whole/walk.py): methods that read the words -/
theorem cS_X9_41 {p : Program} {l : Launch} {e : Env} {R : Room} {s : State} {m : MethodId} {args : Array Value} {below : List Frame} {meth : Method} {c : Code} {g : im_G} {cc : ByteArray} {nL : Nat} {ret : Option FieldType} {Q : State → Prop} {ad : Nat → Nat} {bc bs pc : Nat} {lv : List (Nat × Value)} {st : List Value} {S : im_S} (X : im_X p l s m args meth c g cc nL RX9 ret) {S2 : im_S} {r : Option Value} {dd : Nat} (As rest : List Value) (na : Nat) (hna : As.length = 1) (hM : im_E l g ad dd yX9_isLetter cX9_isLetter 1 (some Jvm.ClassFile.FieldType.boolean) As S r S2) (hR1 : dd + 1 ≤ R.frames) (hR2 : 8 + (1 + 11) + 40 * dd ≤ R.locals) (hst : (rest.map fun v => v.category).sum ≤ 8) (hstk : st = As.reverse ++ rest) (hd : decode cc pc = .ok (.invokestatic 41, 3)) (kk : im_V p l e R s m args below meth c g nL Q ad im_N (im_cn g ad S2) bc bs (pc + 3) lv (r.toList ++ rest)) : im_V p l e R s m args below meth c g nL Q ad im_N (im_cn g ad S) bc bs pc lv st := is_callS X As rest 1 hna hM wm_X9_41 ws_yX9_isLetter wn_X9 wc_yX9_isLetter (by decide) hR1 hR2 hst hstk hd kk
theorem cS_X9_57 {p : Program} {l : Launch} {e : Env} {R : Room} {s : State} {m : MethodId} {args : Array Value} {below : List Frame} {meth : Method} {c : Code} {g : im_G} {cc : ByteArray} {nL : Nat} {ret : Option FieldType} {Q : State → Prop} {ad : Nat → Nat} {bc bs pc : Nat} {lv : List (Nat × Value)} {st : List Value} {S : im_S} (X : im_X p l s m args meth c g cc nL RX9 ret) {S2 : im_S} {r : Option Value} {dd : Nat} (As rest : List Value) (na : Nat) (hna : As.length = 1) (hM : im_E l g ad dd yX9_nameOrWord cX9_nameOrWord 3 (some Jvm.ClassFile.FieldType.int) As S r S2) (hR1 : dd + 1 ≤ R.frames) (hR2 : 8 + (3 + 11) + 40 * dd ≤ R.locals) (hst : (rest.map fun v => v.category).sum ≤ 8) (hstk : st = As.reverse ++ rest) (hd : decode cc pc = .ok (.invokestatic 57, 3)) (kk : im_V p l e R s m args below meth c g nL Q ad im_N (im_cn g ad S2) bc bs (pc + 3) lv (r.toList ++ rest)) : im_V p l e R s m args below meth c g nL Q ad im_N (im_cn g ad S) bc bs pc lv st := is_callS X As rest 1 hna hM wm_X9_57 ws_yX9_nameOrWord wn_X9 wc_yX9_nameOrWord (by decide) hR1 hR2 hst hstk hd kk
def f_X9_readLetters_L6 (fu : Nat) : Nat → Int32 → Int32 → Int64 → Int32 → im_S → Option (Int32 × im_S)
  | 0, _, _, _, _, _ => none
  | nf + 1, z2, z3, z4, z6, S => if (z2 : Int32) ≤ z6 then (if (z6 - z3 : Int32) ≤ 6 then ((f_X9_nameOrWord z4 S).bind (fun qS3 => (f_X9_add qS3.1 z3 z4 qS3.2).bind (fun qS6 => some (z6, qS6.2)))) else ((f_X9_add 3 z3 z4 S).bind (fun qS9 => some (z6, qS9.2)))) else (gd (in_b z6 500) ((f_X9_isLetter ((S.1 1) z6.toNatClampNeg) S).bind (fun qS12 => if (qS12.1 : Int32) ≠ 0 then (gd (in_b z6 500) (f_X9_readLetters_L6 fu nf z2 z3 ((z4 <<< ((8 : Int32).toInt64 &&& 63)) ||| (((qS12.2.1 1) z6.toNatClampNeg).toInt64)) (z6 + 1) qS12.2)) else (gd (in_b z6 500) ((f_X9_isDigit ((qS12.2.1 1) z6.toNatClampNeg) qS12.2).bind (fun qS16 => if (qS16.1 : Int32) = 0 then (if (z6 - z3 : Int32) ≤ 6 then ((f_X9_nameOrWord z4 qS16.2).bind (fun qS21 => (f_X9_add qS21.1 z3 z4 qS21.2).bind (fun qS24 => some (z6, qS24.2)))) else ((f_X9_add 3 z3 z4 qS16.2).bind (fun qS27 => some (z6, qS27.2)))) else (gd (in_b z6 500) (f_X9_readLetters_L6 fu nf z2 z3 ((z4 <<< ((8 : Int32).toInt64 &&& 63)) ||| (((qS16.2.1 1) z6.toNatClampNeg).toInt64)) (z6 + 1) qS16.2))))))))
set_option maxHeartbeats 4000000 in
set_option maxRecDepth 100000 in
theorem f_X9_readLetters_L6_w {fu : Nat} (l : Launch) (g : im_G) (ad : Nat → Nat) (hZt : ∀ V, g.2.2.2 V → im_Zt g V) {p : Program} {e : Env} {s : State} {m : MethodId} {below : List Frame} {meth : Method} {c : Code} {args : Array Value} (X : im_X p l s m args meth c g cX9_readLetters 7 RX9 (some Jvm.ClassFile.FieldType.int)) : ∀ (nf : Nat) (z2 : Int32) (z3 : Int32) (z4 : Int64) (z6 : Int32) (S : im_S) (r : Int32) (S' : im_S), f_X9_readLetters_L6 fu nf z2 z3 z4 z6 S = some (r, S') → im_V p l e (im_R 1 0 0) s m args below meth c g 7 (im_Z below g ad args s (some (.int r)) S') ad im_N (im_cn g ad S) 0 0 6 [(0, .ref (ad 30)), (1, .ref (ad 1)), (2, .int z2), (3, .int z3), (4, .long z4), (6, .int z6)] [] := by
  intro nf
  induction nf with
  | zero =>
    intro z2 z3 z4 z6 S r S' hm
    cases hm
  | succ nf ih =>
    intro z2 z3 z4 z6 S r S' hm
    unfold f_X9_readLetters_L6 at hm
    refine iv_iload (pc := 6) X dX9_readLetters_6 rfl ?_
    refine iv_iload_n (pc := 8) X dX9_readLetters_8 rfl ?_
    refine iv_icmp_ge (pc := 9) X dX9_readLetters_9 (tgt := 51) rfl (fun hb1 => ?_) (fun hb1 => ?_)
    · rw [if_pos hb1] at hm
      refine iv_aload_n (pc := 51) X dX9_readLetters_51 rfl ?_
      refine iv_iload (pc := 52) X dX9_readLetters_52 rfl ?_
      refine iv_iload_n (pc := 54) X dX9_readLetters_54 rfl ?_
      refine iv_isub (pc := 55) X dX9_readLetters_55 ?_
      refine iv_bipush (pc := 56) X dX9_readLetters_56 bc_6 ?_
      refine iv_icmp_le (pc := 58) X dX9_readLetters_58 (tgt := 65) rfl (fun hb2 => ?_) (fun hb2 => ?_)
      · rw [if_pos hb2] at hm
        refine iv_lload (pc := 65) X dX9_readLetters_65 rfl ?_
        obtain ⟨⟨r4, S3⟩, hc5, hm⟩ := bd_some hm
        refine cS_X9_57 (pc := 67) X [.long z4] [.ref (ad 30)] 1 rfl (f_X9_nameOrWord_e l g ad hZt z4 S _ _ hc5) (by decide) (by decide) (Nat.le_of_ble_eq_true rfl) rfl dX9_readLetters_67 ?_
        refine iv_iload_n (pc := 70) X dX9_readLetters_70 rfl ?_
        refine iv_lload (pc := 71) X dX9_readLetters_71 rfl ?_
        obtain ⟨⟨r7, S6⟩, hc8, hm⟩ := bd_some hm
        refine cV_X9_30_30 (pc := 73) X [.int r4, .int z3, .long z4] [] 3 rfl (f_X9_add_e l g ad r4 z3 z4 S3 _ _ hc8) (by decide) (by decide) (Nat.le_of_ble_eq_true rfl) rfl dX9_readLetters_73 ?_
        refine iv_iload (pc := 76) X dX9_readLetters_76 rfl ?_
        cases hm
        exact is_iret (pc := 78) X dX9_readLetters_78
      · rw [if_neg hb2] at hm
        refine iv_iconst (pc := 61) X dX9_readLetters_61 ic_3 ?_
        refine iv_goto (pc := 62) X dX9_readLetters_62 (tgt := 70) rfl ?_
        refine iv_iload_n (pc := 70) X dX9_readLetters_70 rfl ?_
        refine iv_lload (pc := 71) X dX9_readLetters_71 rfl ?_
        obtain ⟨⟨r10, S9⟩, hc11, hm⟩ := bd_some hm
        refine cV_X9_30_30 (pc := 73) X [.int 3, .int z3, .long z4] [] 3 rfl (f_X9_add_e l g ad 3 z3 z4 S _ _ hc11) (by decide) (by decide) (Nat.le_of_ble_eq_true rfl) rfl dX9_readLetters_73 ?_
        refine iv_iload (pc := 76) X dX9_readLetters_76 rfl ?_
        cases hm
        exact is_iret (pc := 78) X dX9_readLetters_78
    · rw [if_neg hb1] at hm
      refine iv_aload_n (pc := 12) X dX9_readLetters_12 rfl ?_
      refine iv_iload (pc := 13) X dX9_readLetters_13 rfl ?_
      obtain ⟨hg, hm⟩ := gd_some hm
      refine aL_1 (pc := 15) X dX9_readLetters_15 hg (x := (S.1 1) z6.toNatClampNeg) rfl ?_
      obtain ⟨⟨r13, S12⟩, hc14, hm⟩ := bd_some hm
      refine cS_X9_41 (pc := 16) X [.int ((S.1 1) z6.toNatClampNeg)] [] 1 rfl (f_X9_isLetter_e l g ad ((S.1 1) z6.toNatClampNeg) S _ _ hc14) (by decide) (by decide) (Nat.le_of_ble_eq_true rfl) rfl dX9_readLetters_16 ?_
      refine iv_if_ne (pc := 19) X dX9_readLetters_19 (tgt := 32) rfl (fun hb15 => ?_) (fun hb15 => ?_)
      · rw [if_pos hb15] at hm
        refine iv_lload (pc := 32) X dX9_readLetters_32 rfl ?_
        refine iv_bipush (pc := 34) X dX9_readLetters_34 bc_8 ?_
        refine iv_lshl (pc := 36) X dX9_readLetters_36 rfl ?_
        refine iv_aload_n (pc := 37) X dX9_readLetters_37 rfl ?_
        refine iv_iload (pc := 38) X dX9_readLetters_38 rfl ?_
        obtain ⟨hg, hm⟩ := gd_some hm
        refine aL_1 (pc := 40) X dX9_readLetters_40 hg (x := (S12.1 1) z6.toNatClampNeg) rfl ?_
        refine iv_i2l (pc := 41) X dX9_readLetters_41 rfl ?_
        refine iv_lor (pc := 42) X dX9_readLetters_42 ?_
        refine iv_lstore (pc := 43) X dX9_readLetters_43 (by decide) (lv' := [(4, .long ((z4 <<< ((8 : Int32).toInt64 &&& 63)) ||| (((S12.1 1) z6.toNatClampNeg).toInt64))), (0, .ref (ad 30)), (1, .ref (ad 1)), (2, .int z2), (3, .int z3), (6, .int z6)]) rfl ?_
        refine iv_iinc (pc := 45) X dX9_readLetters_45 rfl (by decide) (v := z6 + 1) rfl (lv' := [(6, .int (z6 + 1)), (4, .long ((z4 <<< ((8 : Int32).toInt64 &&& 63)) ||| (((S12.1 1) z6.toNatClampNeg).toInt64))), (0, .ref (ad 30)), (1, .ref (ad 1)), (2, .int z2), (3, .int z3)]) rfl ?_
        refine iv_goto (pc := 48) X dX9_readLetters_48 (tgt := 6) rfl ?_
        refine iv_sub [2, 3, 4, 5, 1, 0] (lv2 := [(0, .ref (ad 30)), (1, .ref (ad 1)), (2, .int z2), (3, .int z3), (4, .long ((z4 <<< ((8 : Int32).toInt64 &&& 63)) ||| (((S12.1 1) z6.toNatClampNeg).toInt64))), (6, .int (z6 + 1))]) rfl ?_
        exact ih z2 z3 ((z4 <<< ((8 : Int32).toInt64 &&& 63)) ||| (((S12.1 1) z6.toNatClampNeg).toInt64)) (z6 + 1) S12 _ _ hm
      · rw [if_neg hb15] at hm
        refine iv_aload_n (pc := 22) X dX9_readLetters_22 rfl ?_
        refine iv_iload (pc := 23) X dX9_readLetters_23 rfl ?_
        obtain ⟨hg, hm⟩ := gd_some hm
        refine aL_1 (pc := 25) X dX9_readLetters_25 hg (x := (S12.1 1) z6.toNatClampNeg) rfl ?_
        obtain ⟨⟨r17, S16⟩, hc18, hm⟩ := bd_some hm
        refine cS_X9_34 (pc := 26) X [.int ((S12.1 1) z6.toNatClampNeg)] [] 1 rfl (f_X9_isDigit_e l g ad ((S12.1 1) z6.toNatClampNeg) S12 _ _ hc18) (by decide) (by decide) (Nat.le_of_ble_eq_true rfl) rfl dX9_readLetters_26 ?_
        refine iv_if_eq (pc := 29) X dX9_readLetters_29 (tgt := 51) rfl (fun hb19 => ?_) (fun hb19 => ?_)
        · rw [if_pos hb19] at hm
          refine iv_aload_n (pc := 51) X dX9_readLetters_51 rfl ?_
          refine iv_iload (pc := 52) X dX9_readLetters_52 rfl ?_
          refine iv_iload_n (pc := 54) X dX9_readLetters_54 rfl ?_
          refine iv_isub (pc := 55) X dX9_readLetters_55 ?_
          refine iv_bipush (pc := 56) X dX9_readLetters_56 bc_6 ?_
          refine iv_icmp_le (pc := 58) X dX9_readLetters_58 (tgt := 65) rfl (fun hb20 => ?_) (fun hb20 => ?_)
          · rw [if_pos hb20] at hm
            refine iv_lload (pc := 65) X dX9_readLetters_65 rfl ?_
            obtain ⟨⟨r22, S21⟩, hc23, hm⟩ := bd_some hm
            refine cS_X9_57 (pc := 67) X [.long z4] [.ref (ad 30)] 1 rfl (f_X9_nameOrWord_e l g ad hZt z4 S16 _ _ hc23) (by decide) (by decide) (Nat.le_of_ble_eq_true rfl) rfl dX9_readLetters_67 ?_
            refine iv_iload_n (pc := 70) X dX9_readLetters_70 rfl ?_
            refine iv_lload (pc := 71) X dX9_readLetters_71 rfl ?_
            obtain ⟨⟨r25, S24⟩, hc26, hm⟩ := bd_some hm
            refine cV_X9_30_30 (pc := 73) X [.int r22, .int z3, .long z4] [] 3 rfl (f_X9_add_e l g ad r22 z3 z4 S21 _ _ hc26) (by decide) (by decide) (Nat.le_of_ble_eq_true rfl) rfl dX9_readLetters_73 ?_
            refine iv_iload (pc := 76) X dX9_readLetters_76 rfl ?_
            cases hm
            exact is_iret (pc := 78) X dX9_readLetters_78
          · rw [if_neg hb20] at hm
            refine iv_iconst (pc := 61) X dX9_readLetters_61 ic_3 ?_
            refine iv_goto (pc := 62) X dX9_readLetters_62 (tgt := 70) rfl ?_
            refine iv_iload_n (pc := 70) X dX9_readLetters_70 rfl ?_
            refine iv_lload (pc := 71) X dX9_readLetters_71 rfl ?_
            obtain ⟨⟨r28, S27⟩, hc29, hm⟩ := bd_some hm
            refine cV_X9_30_30 (pc := 73) X [.int 3, .int z3, .long z4] [] 3 rfl (f_X9_add_e l g ad 3 z3 z4 S16 _ _ hc29) (by decide) (by decide) (Nat.le_of_ble_eq_true rfl) rfl dX9_readLetters_73 ?_
            refine iv_iload (pc := 76) X dX9_readLetters_76 rfl ?_
            cases hm
            exact is_iret (pc := 78) X dX9_readLetters_78
        · rw [if_neg hb19] at hm
          refine iv_lload (pc := 32) X dX9_readLetters_32 rfl ?_
          refine iv_bipush (pc := 34) X dX9_readLetters_34 bc_8 ?_
          refine iv_lshl (pc := 36) X dX9_readLetters_36 rfl ?_
          refine iv_aload_n (pc := 37) X dX9_readLetters_37 rfl ?_
          refine iv_iload (pc := 38) X dX9_readLetters_38 rfl ?_
          obtain ⟨hg, hm⟩ := gd_some hm
          refine aL_1 (pc := 40) X dX9_readLetters_40 hg (x := (S16.1 1) z6.toNatClampNeg) rfl ?_
          refine iv_i2l (pc := 41) X dX9_readLetters_41 rfl ?_
          refine iv_lor (pc := 42) X dX9_readLetters_42 ?_
          refine iv_lstore (pc := 43) X dX9_readLetters_43 (by decide) (lv' := [(4, .long ((z4 <<< ((8 : Int32).toInt64 &&& 63)) ||| (((S16.1 1) z6.toNatClampNeg).toInt64))), (0, .ref (ad 30)), (1, .ref (ad 1)), (2, .int z2), (3, .int z3), (6, .int z6)]) rfl ?_
          refine iv_iinc (pc := 45) X dX9_readLetters_45 rfl (by decide) (v := z6 + 1) rfl (lv' := [(6, .int (z6 + 1)), (4, .long ((z4 <<< ((8 : Int32).toInt64 &&& 63)) ||| (((S16.1 1) z6.toNatClampNeg).toInt64))), (0, .ref (ad 30)), (1, .ref (ad 1)), (2, .int z2), (3, .int z3)]) rfl ?_
          refine iv_goto (pc := 48) X dX9_readLetters_48 (tgt := 6) rfl ?_
          refine iv_sub [2, 3, 4, 5, 1, 0] (lv2 := [(0, .ref (ad 30)), (1, .ref (ad 1)), (2, .int z2), (3, .int z3), (4, .long ((z4 <<< ((8 : Int32).toInt64 &&& 63)) ||| (((S16.1 1) z6.toNatClampNeg).toInt64))), (6, .int (z6 + 1))]) rfl ?_
          exact ih z2 z3 ((z4 <<< ((8 : Int32).toInt64 &&& 63)) ||| (((S16.1 1) z6.toNatClampNeg).toInt64)) (z6 + 1) S16 _ _ hm
def f_X9_readLetters (fu : Nat) (x2 : Int32) (x3 : Int32) (S : im_S) : Option (Int32 × im_S) := f_X9_readLetters_L6 fu fu x2 x3 0 x3 S
set_option maxHeartbeats 4000000 in
set_option maxRecDepth 100000 in
theorem f_X9_readLetters_e (l : Launch) (g : im_G) (ad : Nat → Nat) (hZt : ∀ V, g.2.2.2 V → im_Zt g V) (fu : Nat) (x2 : Int32) (x3 : Int32) (S : im_S) (r : Int32) (S' : im_S) (hm : f_X9_readLetters fu x2 x3 S = some (r, S')) : im_E l g ad 1 yX9_readLetters cX9_readLetters 7 (some Jvm.ClassFile.FieldType.int) [.ref (ad 30), .ref (ad 1), .int x2, .int x3] S (some (.int r)) S' := by
  unfold f_X9_readLetters at hm
  refine is_met (own := RX9) (by decide +kernel) rfl (Nat.le_of_ble_eq_true rfl) (fun p e s m below meth c X => ?_)
  refine iv_lconst (pc := 0) X dX9_readLetters_0 lc_0 ?_
  refine iv_lstore (pc := 1) X dX9_readLetters_1 (by decide) (lv' := [(4, .long 0), (0, .ref (ad 30)), (1, .ref (ad 1)), (2, .int x2), (3, .int x3)]) rfl ?_
  refine iv_iload_n (pc := 3) X dX9_readLetters_3 rfl ?_
  refine iv_istore (pc := 4) X dX9_readLetters_4 (by decide) (lv' := [(6, .int x3), (4, .long 0), (0, .ref (ad 30)), (1, .ref (ad 1)), (2, .int x2), (3, .int x3)]) rfl ?_
  refine iv_sub [2, 3, 4, 5, 1, 0] (lv2 := [(0, .ref (ad 30)), (1, .ref (ad 1)), (2, .int x2), (3, .int x3), (4, .long 0), (6, .int x3)]) rfl ?_
  exact f_X9_readLetters_L6_w (fu := fu) l g ad hZt X fu x2 x3 0 x3 S _ _ hm
