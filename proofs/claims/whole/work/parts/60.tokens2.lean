/-! written by program (wip/whole/walk.py): methods that read the words -/
theorem cS_X9_41 {p : Program} {l : Launch} {e : Env} {R : Room} {s : State} {m : MethodId} {args : Array Value} {below : List Frame} {meth : Method} {c : Code} {g : im_G} {cc : ByteArray} {nL : Nat} {ret : Option FieldType} {Q : State → Prop} {ad : Nat → Nat} {bc bs pc : Nat} {lv : List (Nat × Value)} {st : List Value} {S : im_S} (X : im_X p l s m args meth c g cc nL RX9 ret) {S2 : im_S} {r : Option Value} {dd : Nat} (As rest : List Value) (na : Nat) (hna : As.length = 1) (hM : im_E l g ad dd yX9_isLetter cX9_isLetter 1 (some Jvm.ClassFile.FieldType.boolean) As S r S2) (hR1 : dd + 1 ≤ R.frames) (hR2 : 8 + (1 + 11) + 40 * dd ≤ R.locals) (hst : (rest.map fun v => v.category).sum ≤ 8) (hstk : st = As.reverse ++ rest) (hd : decode cc pc = .ok (.invokestatic 41, 3)) (kk : im_V p l e R s m args below meth c g nL Q ad im_N (im_cn g ad S2) bc bs (pc + 3) lv (r.toList ++ rest)) : im_V p l e R s m args below meth c g nL Q ad im_N (im_cn g ad S) bc bs pc lv st := is_callS X As rest 1 hna hM wm_X9_41 ws_yX9_isLetter wn_X9 wc_yX9_isLetter (by decide) hR1 hR2 hst hstk hd kk
theorem cS_X9_57 {p : Program} {l : Launch} {e : Env} {R : Room} {s : State} {m : MethodId} {args : Array Value} {below : List Frame} {meth : Method} {c : Code} {g : im_G} {cc : ByteArray} {nL : Nat} {ret : Option FieldType} {Q : State → Prop} {ad : Nat → Nat} {bc bs pc : Nat} {lv : List (Nat × Value)} {st : List Value} {S : im_S} (X : im_X p l s m args meth c g cc nL RX9 ret) {S2 : im_S} {r : Option Value} {dd : Nat} (As rest : List Value) (na : Nat) (hna : As.length = 1) (hM : im_E l g ad dd yX9_nameOrWord cX9_nameOrWord 3 (some Jvm.ClassFile.FieldType.int) As S r S2) (hR1 : dd + 1 ≤ R.frames) (hR2 : 8 + (3 + 11) + 40 * dd ≤ R.locals) (hst : (rest.map fun v => v.category).sum ≤ 8) (hstk : st = As.reverse ++ rest) (hd : decode cc pc = .ok (.invokestatic 57, 3)) (kk : im_V p l e R s m args below meth c g nL Q ad im_N (im_cn g ad S2) bc bs (pc + 3) lv (r.toList ++ rest)) : im_V p l e R s m args below meth c g nL Q ad im_N (im_cn g ad S) bc bs pc lv st := is_callS X As rest 1 hna hM wm_X9_57 ws_yX9_nameOrWord wn_X9 wc_yX9_nameOrWord (by decide) hR1 hR2 hst hstk hd kk
theorem cV_X9_26_30 {p : Program} {l : Launch} {e : Env} {R : Room} {s : State} {m : MethodId} {args : Array Value} {below : List Frame} {meth : Method} {c : Code} {g : im_G} {cc : ByteArray} {nL : Nat} {ret : Option FieldType} {Q : State → Prop} {ad : Nat → Nat} {bc bs pc : Nat} {lv : List (Nat × Value)} {st : List Value} {S : im_S} (X : im_X p l s m args meth c g cc nL RX9 ret) {S2 : im_S} {r : Option Value} {dd : Nat} (As rest : List Value) (na : Nat) (hna : As.length = 3) (hM : im_E l g ad dd yX9_readAt cX9_readAt 5 (some Jvm.ClassFile.FieldType.int) (.ref (ad 30) :: As) S r S2) (hR1 : dd + 1 ≤ R.frames) (hR2 : 8 + (5 + 11) + 40 * dd ≤ R.locals) (hst : (rest.map fun v => v.category).sum ≤ 8) (hstk : st = As.reverse ++ .ref (ad 30) :: rest) (hd : decode cc pc = .ok (.invokevirtual 26, 3)) (kk : im_V p l e R s m args below meth c g nL Q ad im_N (im_cn g ad S2) bc bs (pc + 3) lv (r.toList ++ rest)) : im_V p l e R s m args below meth c g nL Q ad im_N (im_cn g ad S) bc bs pc lv st := is_callV X 11 As rest 3 hna hM rfl (by decide) rfl wm_X9_26 wi_yX9_readAt we_yX9_readAt wn_X9 wc_yX9_readAt (by decide) hR1 hR2 hst hstk hd kk
theorem cV_X9_38_30 {p : Program} {l : Launch} {e : Env} {R : Room} {s : State} {m : MethodId} {args : Array Value} {below : List Frame} {meth : Method} {c : Code} {g : im_G} {cc : ByteArray} {nL : Nat} {ret : Option FieldType} {Q : State → Prop} {ad : Nat → Nat} {bc bs pc : Nat} {lv : List (Nat × Value)} {st : List Value} {S : im_S} (X : im_X p l s m args meth c g cc nL RX9 ret) {S2 : im_S} {r : Option Value} {dd : Nat} (As rest : List Value) (na : Nat) (hna : As.length = 3) (hM : im_E l g ad dd yX9_readNumeral cX9_readNumeral 7 (some Jvm.ClassFile.FieldType.int) (.ref (ad 30) :: As) S r S2) (hR1 : dd + 1 ≤ R.frames) (hR2 : 8 + (7 + 11) + 40 * dd ≤ R.locals) (hst : (rest.map fun v => v.category).sum ≤ 8) (hstk : st = As.reverse ++ .ref (ad 30) :: rest) (hd : decode cc pc = .ok (.invokevirtual 38, 3)) (kk : im_V p l e R s m args below meth c g nL Q ad im_N (im_cn g ad S2) bc bs (pc + 3) lv (r.toList ++ rest)) : im_V p l e R s m args below meth c g nL Q ad im_N (im_cn g ad S) bc bs pc lv st := is_callV X 11 As rest 3 hna hM rfl (by decide) rfl wm_X9_38 wi_yX9_readNumeral we_yX9_readNumeral wn_X9 wc_yX9_readNumeral (by decide) hR1 hR2 hst hstk hd kk
theorem cV_X9_44_30 {p : Program} {l : Launch} {e : Env} {R : Room} {s : State} {m : MethodId} {args : Array Value} {below : List Frame} {meth : Method} {c : Code} {g : im_G} {cc : ByteArray} {nL : Nat} {ret : Option FieldType} {Q : State → Prop} {ad : Nat → Nat} {bc bs pc : Nat} {lv : List (Nat × Value)} {st : List Value} {S : im_S} (X : im_X p l s m args meth c g cc nL RX9 ret) {S2 : im_S} {r : Option Value} {dd : Nat} (As rest : List Value) (na : Nat) (hna : As.length = 3) (hM : im_E l g ad dd yX9_readLetters cX9_readLetters 7 (some Jvm.ClassFile.FieldType.int) (.ref (ad 30) :: As) S r S2) (hR1 : dd + 1 ≤ R.frames) (hR2 : 8 + (7 + 11) + 40 * dd ≤ R.locals) (hst : (rest.map fun v => v.category).sum ≤ 8) (hstk : st = As.reverse ++ .ref (ad 30) :: rest) (hd : decode cc pc = .ok (.invokevirtual 44, 3)) (kk : im_V p l e R s m args below meth c g nL Q ad im_N (im_cn g ad S2) bc bs (pc + 3) lv (r.toList ++ rest)) : im_V p l e R s m args below meth c g nL Q ad im_N (im_cn g ad S) bc bs pc lv st := is_callV X 11 As rest 3 hna hM rfl (by decide) rfl wm_X9_44 wi_yX9_readLetters we_yX9_readLetters wn_X9 wc_yX9_readLetters (by decide) hR1 hR2 hst hstk hd kk
def f_X9_readLetters_L6 (fu : Nat) : Nat → Int32 → Int32 → Int64 → Int32 → im_S → Option (Int32 × im_S)
  | 0, _, _, _, _, _ => none
  | nf + 1, z2, z3, z4, z6, S => if (z2 : Int32) ≤ z6 then (if (z6 - z3 : Int32) ≤ 6 then ((f_X9_nameOrWord z4 S).bind (fun qS3 => (f_X9_add qS3.1 z3 z4 qS3.2).bind (fun qS6 => some (z6, qS6.2)))) else ((f_X9_add 3 z3 z4 S).bind (fun qS9 => some (z6, qS9.2)))) else (gd (in_b z6 500) ((f_X9_isLetter ((S.1 1) z6.toNatClampNeg) S).bind (fun qS12 => if (qS12.1 : Int32) ≠ 0 then (gd (in_b z6 500) (f_X9_readLetters_L6 fu nf z2 z3 ((z4 <<< ((8 : Int32).toInt64 &&& 63)) ||| (((qS12.2.1 1) z6.toNatClampNeg).toInt64)) (z6 + 1) qS12.2)) else (gd (in_b z6 500) ((f_X9_isDigit ((qS12.2.1 1) z6.toNatClampNeg) qS12.2).bind (fun qS16 => if (qS16.1 : Int32) = 0 then (if (z6 - z3 : Int32) ≤ 6 then ((f_X9_nameOrWord z4 qS16.2).bind (fun qS21 => (f_X9_add qS21.1 z3 z4 qS21.2).bind (fun qS24 => some (z6, qS24.2)))) else ((f_X9_add 3 z3 z4 qS16.2).bind (fun qS27 => some (z6, qS27.2)))) else (gd (in_b z6 500) (f_X9_readLetters_L6 fu nf z2 z3 ((z4 <<< ((8 : Int32).toInt64 &&& 63)) ||| (((qS16.2.1 1) z6.toNatClampNeg).toInt64)) (z6 + 1) qS16.2))))))))
set_option maxHeartbeats 4000000 in
set_option maxRecDepth 100000 in
theorem f_X9_readLetters_L6_w {fu : Nat} (l : Launch) (g : im_G) (ad : Nat → Nat) (hZt : ∀ V, g.2.2.2 V → im_Zt g V) {q w : Nat} (hZu : ∀ V, g.2.2.2 V → im_Zu q w g V) {p : Program} {e : Env} {s : State} {m : MethodId} {below : List Frame} {meth : Method} {c : Code} {args : Array Value} (X : im_X p l s m args meth c g cX9_readLetters 7 RX9 (some Jvm.ClassFile.FieldType.int)) : ∀ (nf : Nat) (z2 : Int32) (z3 : Int32) (z4 : Int64) (z6 : Int32) (S : im_S) (r : Int32) (S' : im_S), f_X9_readLetters_L6 fu nf z2 z3 z4 z6 S = some (r, S') → im_V p l e (im_R 1 0 0) s m args below meth c g 7 (im_Z below g ad args s (some (.int r)) S') ad im_N (im_cn g ad S) 0 0 6 [(0, .ref (ad 30)), (1, .ref (ad 1)), (2, .int z2), (3, .int z3), (4, .long z4), (6, .int z6)] [] := by
  intro nf
  induction nf with
  | zero =>
    intro z2 z3 z4 z6 S r S' hm
    cases hm
  | succ nf ih =>
    intro z2 z3 z4 z6 S r S' hm
    unfold f_X9_readLetters_L6 at hm
    refine iv_iload (pc := 6) X dX9_readLetters_6 rfl ?_
    refine iv_iload_n (pc := 8) X dX9_readLetters_8 rfl ?_
    refine iv_icmp_ge (pc := 9) X dX9_readLetters_9 (tgt := 51) rfl (fun hb1 => ?_) (fun hb1 => ?_)
    · rw [if_pos hb1] at hm
      refine iv_aload_n (pc := 51) X dX9_readLetters_51 rfl ?_
      refine iv_iload (pc := 52) X dX9_readLetters_52 rfl ?_
      refine iv_iload_n (pc := 54) X dX9_readLetters_54 rfl ?_
      refine iv_isub (pc := 55) X dX9_readLetters_55 ?_
      refine iv_bipush (pc := 56) X dX9_readLetters_56 bc_6 ?_
      refine iv_icmp_le (pc := 58) X dX9_readLetters_58 (tgt := 65) rfl (fun hb2 => ?_) (fun hb2 => ?_)
      · rw [if_pos hb2] at hm
        refine iv_lload (pc := 65) X dX9_readLetters_65 rfl ?_
        obtain ⟨⟨r4, S3⟩, hc5, hm⟩ := bd_some hm
        refine cS_X9_57 (pc := 67) X [.long z4] [.ref (ad 30)] 1 rfl (f_X9_nameOrWord_e l g ad hZt z4 S _ _ hc5) (by decide) (by decide) (Nat.le_of_ble_eq_true rfl) rfl dX9_readLetters_67 ?_
        refine iv_iload_n (pc := 70) X dX9_readLetters_70 rfl ?_
        refine iv_lload (pc := 71) X dX9_readLetters_71 rfl ?_
        obtain ⟨⟨r7, S6⟩, hc8, hm⟩ := bd_some hm
        refine cV_X9_30_30 (pc := 73) X [.int r4, .int z3, .long z4] [] 3 rfl (f_X9_add_e l g ad r4 z3 z4 S3 _ _ hc8) (by decide) (by decide) (Nat.le_of_ble_eq_true rfl) rfl dX9_readLetters_73 ?_
        refine iv_iload (pc := 76) X dX9_readLetters_76 rfl ?_
        cases hm
        exact is_iret (pc := 78) X dX9_readLetters_78
      · rw [if_neg hb2] at hm
        refine iv_iconst (pc := 61) X dX9_readLetters_61 ic_3 ?_
        refine iv_goto (pc := 62) X dX9_readLetters_62 (tgt := 70) rfl ?_
        refine iv_iload_n (pc := 70) X dX9_readLetters_70 rfl ?_
        refine iv_lload (pc := 71) X dX9_readLetters_71 rfl ?_
        obtain ⟨⟨r10, S9⟩, hc11, hm⟩ := bd_some hm
        refine cV_X9_30_30 (pc := 73) X [.int 3, .int z3, .long z4] [] 3 rfl (f_X9_add_e l g ad 3 z3 z4 S _ _ hc11) (by decide) (by decide) (Nat.le_of_ble_eq_true rfl) rfl dX9_readLetters_73 ?_
        refine iv_iload (pc := 76) X dX9_readLetters_76 rfl ?_
        cases hm
        exact is_iret (pc := 78) X dX9_readLetters_78
    · rw [if_neg hb1] at hm
      refine iv_aload_n (pc := 12) X dX9_readLetters_12 rfl ?_
      refine iv_iload (pc := 13) X dX9_readLetters_13 rfl ?_
      obtain ⟨hg, hm⟩ := gd_some hm
      refine aL_1 (pc := 15) X dX9_readLetters_15 hg (x := (S.1 1) z6.toNatClampNeg) rfl ?_
      obtain ⟨⟨r13, S12⟩, hc14, hm⟩ := bd_some hm
      refine cS_X9_41 (pc := 16) X [.int ((S.1 1) z6.toNatClampNeg)] [] 1 rfl (f_X9_isLetter_e l g ad ((S.1 1) z6.toNatClampNeg) S _ _ hc14) (by decide) (by decide) (Nat.le_of_ble_eq_true rfl) rfl dX9_readLetters_16 ?_
      refine iv_if_ne (pc := 19) X dX9_readLetters_19 (tgt := 32) rfl (fun hb15 => ?_) (fun hb15 => ?_)
      · rw [if_pos hb15] at hm
        refine iv_lload (pc := 32) X dX9_readLetters_32 rfl ?_
        refine iv_bipush (pc := 34) X dX9_readLetters_34 bc_8 ?_
        refine iv_lshl (pc := 36) X dX9_readLetters_36 rfl ?_
        refine iv_aload_n (pc := 37) X dX9_readLetters_37 rfl ?_
        refine iv_iload (pc := 38) X dX9_readLetters_38 rfl ?_
        obtain ⟨hg, hm⟩ := gd_some hm
        refine aL_1 (pc := 40) X dX9_readLetters_40 hg (x := (S12.1 1) z6.toNatClampNeg) rfl ?_
        refine iv_i2l (pc := 41) X dX9_readLetters_41 rfl ?_
        refine iv_lor (pc := 42) X dX9_readLetters_42 ?_
        refine iv_lstore (pc := 43) X dX9_readLetters_43 (by decide) (lv' := [(4, .long ((z4 <<< ((8 : Int32).toInt64 &&& 63)) ||| (((S12.1 1) z6.toNatClampNeg).toInt64))), (0, .ref (ad 30)), (1, .ref (ad 1)), (2, .int z2), (3, .int z3), (6, .int z6)]) rfl ?_
        refine iv_iinc (pc := 45) X dX9_readLetters_45 rfl (by decide) (v := z6 + 1) rfl (lv' := [(6, .int (z6 + 1)), (4, .long ((z4 <<< ((8 : Int32).toInt64 &&& 63)) ||| (((S12.1 1) z6.toNatClampNeg).toInt64))), (0, .ref (ad 30)), (1, .ref (ad 1)), (2, .int z2), (3, .int z3)]) rfl ?_
        refine iv_goto (pc := 48) X dX9_readLetters_48 (tgt := 6) rfl ?_
        refine iv_sub [2, 3, 4, 5, 1, 0] (lv2 := [(0, .ref (ad 30)), (1, .ref (ad 1)), (2, .int z2), (3, .int z3), (4, .long ((z4 <<< ((8 : Int32).toInt64 &&& 63)) ||| (((S12.1 1) z6.toNatClampNeg).toInt64))), (6, .int (z6 + 1))]) rfl ?_
        exact ih z2 z3 ((z4 <<< ((8 : Int32).toInt64 &&& 63)) ||| (((S12.1 1) z6.toNatClampNeg).toInt64)) (z6 + 1) S12 _ _ hm
      · rw [if_neg hb15] at hm
        refine iv_aload_n (pc := 22) X dX9_readLetters_22 rfl ?_
        refine iv_iload (pc := 23) X dX9_readLetters_23 rfl ?_
        obtain ⟨hg, hm⟩ := gd_some hm
        refine aL_1 (pc := 25) X dX9_readLetters_25 hg (x := (S12.1 1) z6.toNatClampNeg) rfl ?_
        obtain ⟨⟨r17, S16⟩, hc18, hm⟩ := bd_some hm
        refine cS_X9_34 (pc := 26) X [.int ((S12.1 1) z6.toNatClampNeg)] [] 1 rfl (f_X9_isDigit_e l g ad ((S12.1 1) z6.toNatClampNeg) S12 _ _ hc18) (by decide) (by decide) (Nat.le_of_ble_eq_true rfl) rfl dX9_readLetters_26 ?_
        refine iv_if_eq (pc := 29) X dX9_readLetters_29 (tgt := 51) rfl (fun hb19 => ?_) (fun hb19 => ?_)
        · rw [if_pos hb19] at hm
          refine iv_aload_n (pc := 51) X dX9_readLetters_51 rfl ?_
          refine iv_iload (pc := 52) X dX9_readLetters_52 rfl ?_
          refine iv_iload_n (pc := 54) X dX9_readLetters_54 rfl ?_
          refine iv_isub (pc := 55) X dX9_readLetters_55 ?_
          refine iv_bipush (pc := 56) X dX9_readLetters_56 bc_6 ?_
          refine iv_icmp_le (pc := 58) X dX9_readLetters_58 (tgt := 65) rfl (fun hb20 => ?_) (fun hb20 => ?_)
          · rw [if_pos hb20] at hm
            refine iv_lload (pc := 65) X dX9_readLetters_65 rfl ?_
            obtain ⟨⟨r22, S21⟩, hc23, hm⟩ := bd_some hm
            refine cS_X9_57 (pc := 67) X [.long z4] [.ref (ad 30)] 1 rfl (f_X9_nameOrWord_e l g ad hZt z4 S16 _ _ hc23) (by decide) (by decide) (Nat.le_of_ble_eq_true rfl) rfl dX9_readLetters_67 ?_
            refine iv_iload_n (pc := 70) X dX9_readLetters_70 rfl ?_
            refine iv_lload (pc := 71) X dX9_readLetters_71 rfl ?_
            obtain ⟨⟨r25, S24⟩, hc26, hm⟩ := bd_some hm
            refine cV_X9_30_30 (pc := 73) X [.int r22, .int z3, .long z4] [] 3 rfl (f_X9_add_e l g ad r22 z3 z4 S21 _ _ hc26) (by decide) (by decide) (Nat.le_of_ble_eq_true rfl) rfl dX9_readLetters_73 ?_
            refine iv_iload (pc := 76) X dX9_readLetters_76 rfl ?_
            cases hm
            exact is_iret (pc := 78) X dX9_readLetters_78
          · rw [if_neg hb20] at hm
            refine iv_iconst (pc := 61) X dX9_readLetters_61 ic_3 ?_
            refine iv_goto (pc := 62) X dX9_readLetters_62 (tgt := 70) rfl ?_
            refine iv_iload_n (pc := 70) X dX9_readLetters_70 rfl ?_
            refine iv_lload (pc := 71) X dX9_readLetters_71 rfl ?_
            obtain ⟨⟨r28, S27⟩, hc29, hm⟩ := bd_some hm
            refine cV_X9_30_30 (pc := 73) X [.int 3, .int z3, .long z4] [] 3 rfl (f_X9_add_e l g ad 3 z3 z4 S16 _ _ hc29) (by decide) (by decide) (Nat.le_of_ble_eq_true rfl) rfl dX9_readLetters_73 ?_
            refine iv_iload (pc := 76) X dX9_readLetters_76 rfl ?_
            cases hm
            exact is_iret (pc := 78) X dX9_readLetters_78
        · rw [if_neg hb19] at hm
          refine iv_lload (pc := 32) X dX9_readLetters_32 rfl ?_
          refine iv_bipush (pc := 34) X dX9_readLetters_34 bc_8 ?_
          refine iv_lshl (pc := 36) X dX9_readLetters_36 rfl ?_
          refine iv_aload_n (pc := 37) X dX9_readLetters_37 rfl ?_
          refine iv_iload (pc := 38) X dX9_readLetters_38 rfl ?_
          obtain ⟨hg, hm⟩ := gd_some hm
          refine aL_1 (pc := 40) X dX9_readLetters_40 hg (x := (S16.1 1) z6.toNatClampNeg) rfl ?_
          refine iv_i2l (pc := 41) X dX9_readLetters_41 rfl ?_
          refine iv_lor (pc := 42) X dX9_readLetters_42 ?_
          refine iv_lstore (pc := 43) X dX9_readLetters_43 (by decide) (lv' := [(4, .long ((z4 <<< ((8 : Int32).toInt64 &&& 63)) ||| (((S16.1 1) z6.toNatClampNeg).toInt64))), (0, .ref (ad 30)), (1, .ref (ad 1)), (2, .int z2), (3, .int z3), (6, .int z6)]) rfl ?_
          refine iv_iinc (pc := 45) X dX9_readLetters_45 rfl (by decide) (v := z6 + 1) rfl (lv' := [(6, .int (z6 + 1)), (4, .long ((z4 <<< ((8 : Int32).toInt64 &&& 63)) ||| (((S16.1 1) z6.toNatClampNeg).toInt64))), (0, .ref (ad 30)), (1, .ref (ad 1)), (2, .int z2), (3, .int z3)]) rfl ?_
          refine iv_goto (pc := 48) X dX9_readLetters_48 (tgt := 6) rfl ?_
          refine iv_sub [2, 3, 4, 5, 1, 0] (lv2 := [(0, .ref (ad 30)), (1, .ref (ad 1)), (2, .int z2), (3, .int z3), (4, .long ((z4 <<< ((8 : Int32).toInt64 &&& 63)) ||| (((S16.1 1) z6.toNatClampNeg).toInt64))), (6, .int (z6 + 1))]) rfl ?_
          exact ih z2 z3 ((z4 <<< ((8 : Int32).toInt64 &&& 63)) ||| (((S16.1 1) z6.toNatClampNeg).toInt64)) (z6 + 1) S16 _ _ hm
def f_X9_readLetters (fu : Nat) (x2 : Int32) (x3 : Int32) (S : im_S) : Option (Int32 × im_S) := f_X9_readLetters_L6 fu fu x2 x3 0 x3 S
set_option maxHeartbeats 4000000 in
set_option maxRecDepth 100000 in
theorem f_X9_readLetters_e (l : Launch) (g : im_G) (ad : Nat → Nat) (hZt : ∀ V, g.2.2.2 V → im_Zt g V) {q w : Nat} (hZu : ∀ V, g.2.2.2 V → im_Zu q w g V) (fu : Nat) (x2 : Int32) (x3 : Int32) (S : im_S) (r : Int32) (S' : im_S) (hm : f_X9_readLetters fu x2 x3 S = some (r, S')) : im_E l g ad 1 yX9_readLetters cX9_readLetters 7 (some Jvm.ClassFile.FieldType.int) [.ref (ad 30), .ref (ad 1), .int x2, .int x3] S (some (.int r)) S' := by
  unfold f_X9_readLetters at hm
  refine is_met (own := RX9) (by decide +kernel) rfl (Nat.le_of_ble_eq_true rfl) (fun p e s m below meth c X => ?_)
  refine iv_lconst (pc := 0) X dX9_readLetters_0 lc_0 ?_
  refine iv_lstore (pc := 1) X dX9_readLetters_1 (by decide) (lv' := [(4, .long 0), (0, .ref (ad 30)), (1, .ref (ad 1)), (2, .int x2), (3, .int x3)]) rfl ?_
  refine iv_iload_n (pc := 3) X dX9_readLetters_3 rfl ?_
  refine iv_istore (pc := 4) X dX9_readLetters_4 (by decide) (lv' := [(6, .int x3), (4, .long 0), (0, .ref (ad 30)), (1, .ref (ad 1)), (2, .int x2), (3, .int x3)]) rfl ?_
  refine iv_sub [2, 3, 4, 5, 1, 0] (lv2 := [(0, .ref (ad 30)), (1, .ref (ad 1)), (2, .int x2), (3, .int x3), (4, .long 0), (6, .int x3)]) rfl ?_
  exact f_X9_readLetters_L6_w (fu := fu) l g ad hZt hZu X fu x2 x3 0 x3 S _ _ hm
def f_X9_readAt (fu : Nat) (x2 : Int32) (x3 : Int32) (S : im_S) : Option (Int32 × im_S) := gd (in_b x3 500) ((f_X9_isDigit ((((S.1 1) x3.toNatClampNeg).toUInt32 % 65536).toInt32) S).bind (fun qS1 => if (qS1.1 : Int32) = 0 then ((f_X9_isLetter ((((S.1 1) x3.toNatClampNeg).toUInt32 % 65536).toInt32) qS1.2).bind (fun qS5 => if (qS5.1 : Int32) = 0 then ((f_sg_indexOf ((((S.1 1) x3.toNatClampNeg).toUInt32 % 65536).toInt32) qS5.2).bind (fun qS9 => if (qS9.1 : Int32) < 0 then ((f_X9_add 3 x3 0 qS9.2).bind (fun qS13 => some (x3 + 1, qS13.2))) else ((f_X9_add ((((S.1 1) x3.toNatClampNeg).toUInt32 % 65536).toInt32) x3 0 qS9.2).bind (fun qS16 => some (x3 + 1, qS16.2))))) else ((f_X9_readLetters fu x2 x3 qS5.2).bind (fun qS19 => some (qS19.1, qS19.2))))) else ((f_X9_readNumeral fu x2 x3 qS1.2).bind (fun qS22 => some (qS22.1, qS22.2)))))
set_option maxHeartbeats 4000000 in
set_option maxRecDepth 100000 in
theorem f_X9_readAt_e (l : Launch) (g : im_G) (ad : Nat → Nat) (hZt : ∀ V, g.2.2.2 V → im_Zt g V) {q w : Nat} (hZu : ∀ V, g.2.2.2 V → im_Zu q w g V) (fu : Nat) (x2 : Int32) (x3 : Int32) (S : im_S) (r : Int32) (S' : im_S) (hm : f_X9_readAt fu x2 x3 S = some (r, S')) : im_E l g ad 4 yX9_readAt cX9_readAt 5 (some Jvm.ClassFile.FieldType.int) [.ref (ad 30), .ref (ad 1), .int x2, .int x3] S (some (.int r)) S' := by
  unfold f_X9_readAt at hm
  refine is_met (own := RX9) (by decide +kernel) rfl (Nat.le_of_ble_eq_true rfl) (fun p e s m below meth c X => ?_)
  refine iv_aload_n (pc := 0) X dX9_readAt_0 rfl ?_
  refine iv_iload_n (pc := 1) X dX9_readAt_1 rfl ?_
  obtain ⟨hg, hm⟩ := gd_some hm
  refine aL_1 (pc := 2) X dX9_readAt_2 hg (x := (S.1 1) x3.toNatClampNeg) rfl ?_
  refine iv_i2c (pc := 3) X dX9_readAt_3 rfl ?_
  refine iv_istore (pc := 4) X dX9_readAt_4 (by decide) (lv' := [(4, .int ((((S.1 1) x3.toNatClampNeg).toUInt32 % 65536).toInt32)), (0, .ref (ad 30)), (1, .ref (ad 1)), (2, .int x2), (3, .int x3)]) rfl ?_
  refine iv_iload (pc := 6) X dX9_readAt_6 rfl ?_
  obtain ⟨⟨r2, S1⟩, hc3, hm⟩ := bd_some hm
  refine cS_X9_34 (pc := 8) X [.int ((((S.1 1) x3.toNatClampNeg).toUInt32 % 65536).toInt32)] [] 1 rfl (f_X9_isDigit_e l g ad ((((S.1 1) x3.toNatClampNeg).toUInt32 % 65536).toInt32) S _ _ hc3) (by decide) (by decide) (Nat.le_of_ble_eq_true rfl) rfl dX9_readAt_8 ?_
  refine iv_if_eq (pc := 11) X dX9_readAt_11 (tgt := 22) rfl (fun hb4 => ?_) (fun hb4 => ?_)
  · rw [if_pos hb4] at hm
    refine iv_iload (pc := 22) X dX9_readAt_22 rfl ?_
    obtain ⟨⟨r6, S5⟩, hc7, hm⟩ := bd_some hm
    refine cS_X9_41 (pc := 24) X [.int ((((S.1 1) x3.toNatClampNeg).toUInt32 % 65536).toInt32)] [] 1 rfl (f_X9_isLetter_e l g ad ((((S.1 1) x3.toNatClampNeg).toUInt32 % 65536).toInt32) S1 _ _ hc7) (by decide) (by decide) (Nat.le_of_ble_eq_true rfl) rfl dX9_readAt_24 ?_
    refine iv_if_eq (pc := 27) X dX9_readAt_27 (tgt := 38) rfl (fun hb8 => ?_) (fun hb8 => ?_)
    · rw [if_pos hb8] at hm
      refine iv_aload_n (pc := 38) X dX9_readAt_38 rfl ?_
      refine iv_sgldc (pc := 39) X (hZu s (X.2.2.2.2.2.2.2.2.1 s (State.WarmedH.refl s))).1 dX9_readAt_39 ?_
      refine iv_iload (pc := 41) X dX9_readAt_41 rfl ?_
      obtain ⟨⟨r10, S9⟩, hc11, hm⟩ := bd_some hm
      refine is_callQ (pc := 43) X [.int ((((S.1 1) x3.toNatClampNeg).toUInt32 % 65536).toInt32)] [.ref (ad 30)] 1 rfl (f_sg_indexOf_e l g ad hZu ((((S.1 1) x3.toNatClampNeg).toUInt32 % 65536).toInt32) S5 _ _ hc11) (hZu s (X.2.2.2.2.2.2.2.2.1 s (State.WarmedH.refl s))).2.1 wm_X9_49 wi_yJ0_indexOf_0f7a4 we_yJ0_indexOf_0f7a4 wn_J0 wc_yJ0_indexOf_0f7a4 (by decide) (by decide) (by decide) (Nat.le_of_ble_eq_true rfl) rfl dX9_readAt_43 ?_
      refine iv_if_lt (pc := 46) X dX9_readAt_46 (tgt := 54) rfl (fun hb12 => ?_) (fun hb12 => ?_)
      · rw [if_pos hb12] at hm
        refine iv_iconst (pc := 54) X dX9_readAt_54 ic_3 ?_
        refine iv_iload_n (pc := 55) X dX9_readAt_55 rfl ?_
        refine iv_lconst (pc := 56) X dX9_readAt_56 lc_0 ?_
        obtain ⟨⟨r14, S13⟩, hc15, hm⟩ := bd_some hm
        refine cV_X9_30_30 (pc := 57) X [.int 3, .int x3, .long 0] [] 3 rfl (f_X9_add_e l g ad 3 x3 0 S9 _ _ hc15) (by decide) (by decide) (Nat.le_of_ble_eq_true rfl) rfl dX9_readAt_57 ?_
        refine iv_iload_n (pc := 60) X dX9_readAt_60 rfl ?_
        refine iv_iconst (pc := 61) X dX9_readAt_61 ic_1 ?_
        refine iv_iadd (pc := 62) X dX9_readAt_62 ?_
        cases hm
        exact is_iret (pc := 63) X dX9_readAt_63
      · rw [if_neg hb12] at hm
        refine iv_iload (pc := 49) X dX9_readAt_49 rfl ?_
        refine iv_goto (pc := 51) X dX9_readAt_51 (tgt := 55) rfl ?_
        refine iv_iload_n (pc := 55) X dX9_readAt_55 rfl ?_
        refine iv_lconst (pc := 56) X dX9_readAt_56 lc_0 ?_
        obtain ⟨⟨r17, S16⟩, hc18, hm⟩ := bd_some hm
        refine cV_X9_30_30 (pc := 57) X [.int ((((S.1 1) x3.toNatClampNeg).toUInt32 % 65536).toInt32), .int x3, .long 0] [] 3 rfl (f_X9_add_e l g ad ((((S.1 1) x3.toNatClampNeg).toUInt32 % 65536).toInt32) x3 0 S9 _ _ hc18) (by decide) (by decide) (Nat.le_of_ble_eq_true rfl) rfl dX9_readAt_57 ?_
        refine iv_iload_n (pc := 60) X dX9_readAt_60 rfl ?_
        refine iv_iconst (pc := 61) X dX9_readAt_61 ic_1 ?_
        refine iv_iadd (pc := 62) X dX9_readAt_62 ?_
        cases hm
        exact is_iret (pc := 63) X dX9_readAt_63
    · rw [if_neg hb8] at hm
      refine iv_aload_n (pc := 30) X dX9_readAt_30 rfl ?_
      refine iv_aload_n (pc := 31) X dX9_readAt_31 rfl ?_
      refine iv_iload_n (pc := 32) X dX9_readAt_32 rfl ?_
      refine iv_iload_n (pc := 33) X dX9_readAt_33 rfl ?_
      obtain ⟨⟨r20, S19⟩, hc21, hm⟩ := bd_some hm
      refine cV_X9_44_30 (pc := 34) X [.ref (ad 1), .int x2, .int x3] [] 3 rfl (f_X9_readLetters_e l g ad hZt hZu fu x2 x3 S5 _ _ hc21) (by decide) (by decide) (Nat.le_of_ble_eq_true rfl) rfl dX9_readAt_34 ?_
      cases hm
      exact is_iret (pc := 37) X dX9_readAt_37
  · rw [if_neg hb4] at hm
    refine iv_aload_n (pc := 14) X dX9_readAt_14 rfl ?_
    refine iv_aload_n (pc := 15) X dX9_readAt_15 rfl ?_
    refine iv_iload_n (pc := 16) X dX9_readAt_16 rfl ?_
    refine iv_iload_n (pc := 17) X dX9_readAt_17 rfl ?_
    obtain ⟨⟨r23, S22⟩, hc24, hm⟩ := bd_some hm
    refine cV_X9_38_30 (pc := 18) X [.ref (ad 1), .int x2, .int x3] [] 3 rfl (f_X9_readNumeral_e l g ad fu x2 x3 S1 _ _ hc24) (by decide) (by decide) (Nat.le_of_ble_eq_true rfl) rfl dX9_readAt_18 ?_
    cases hm
    exact is_iret (pc := 21) X dX9_readAt_21
def f_X9_read_L10 (fu : Nat) : Nat → Int32 → Int32 → Int32 → im_S → Option (Unit × im_S)
  | 0, _, _, _, _ => none
  | nf + 1, z2, z3, z4, S => if (z2 : Int32) ≤ z4 then ((f_X9_add 0 z2 0 S).bind (fun qS2 => some ((), qS2.2))) else (if (z2 : Int32) ≤ z3 then ((f_X9_add 0 z2 0 S).bind (fun qS6 => some ((), qS6.2))) else (gd (in_b z3 500) (if ((S.1 1) z3.toNatClampNeg : Int32) ≠ 32 then ((f_X9_readAt fu z2 z3 S).bind (fun qS10 => f_X9_read_L10 fu nf z2 qS10.1 (z4 + 1) qS10.2)) else (f_X9_read_L10 fu nf z2 (z3 + 1) (z4 + 1) S))))
set_option maxHeartbeats 4000000 in
set_option maxRecDepth 100000 in
theorem f_X9_read_L10_w {fu : Nat} (l : Launch) (g : im_G) (ad : Nat → Nat) (hZt : ∀ V, g.2.2.2 V → im_Zt g V) {q w : Nat} (hZu : ∀ V, g.2.2.2 V → im_Zu q w g V) {p : Program} {e : Env} {s : State} {m : MethodId} {below : List Frame} {meth : Method} {c : Code} {args : Array Value} (X : im_X p l s m args meth c g cX9_read 5 RX9 none) : ∀ (nf : Nat) (z2 : Int32) (z3 : Int32) (z4 : Int32) (S : im_S) (r : Unit) (S' : im_S), f_X9_read_L10 fu nf z2 z3 z4 S = some (r, S') → im_V p l e (im_R 5 0 0) s m args below meth c g 5 (im_Z below g ad args s none S') ad im_N (im_cn g ad S) 0 0 10 [(0, .ref (ad 30)), (1, .ref (ad 1)), (2, .int z2), (3, .int z3), (4, .int z4)] [] := by
  intro nf
  induction nf with
  | zero =>
    intro z2 z3 z4 S r S' hm
    cases hm
  | succ nf ih =>
    intro z2 z3 z4 S r S' hm
    unfold f_X9_read_L10 at hm
    refine iv_iload (pc := 10) X dX9_read_10 rfl ?_
    refine iv_iload_n (pc := 12) X dX9_read_12 rfl ?_
    refine iv_icmp_ge (pc := 13) X dX9_read_13 (tgt := 49) rfl (fun hb1 => ?_) (fun hb1 => ?_)
    · rw [if_pos hb1] at hm
      refine iv_aload_n (pc := 49) X dX9_read_49 rfl ?_
      refine iv_iconst (pc := 50) X dX9_read_50 ic_0 ?_
      refine iv_iload_n (pc := 51) X dX9_read_51 rfl ?_
      refine iv_lconst (pc := 52) X dX9_read_52 lc_0 ?_
      obtain ⟨⟨r3, S2⟩, hc4, hm⟩ := bd_some hm
      refine cV_X9_30_30 (pc := 53) X [.int 0, .int z2, .long 0] [] 3 rfl (f_X9_add_e l g ad 0 z2 0 S _ _ hc4) (by decide) (by decide) (Nat.le_of_ble_eq_true rfl) rfl dX9_read_53 ?_
      cases hm
      exact is_vret (pc := 56) X dX9_read_56
    · rw [if_neg hb1] at hm
      refine iv_iload_n (pc := 16) X dX9_read_16 rfl ?_
      refine iv_iload_n (pc := 17) X dX9_read_17 rfl ?_
      refine iv_icmp_ge (pc := 18) X dX9_read_18 (tgt := 49) rfl (fun hb5 => ?_) (fun hb5 => ?_)
      · rw [if_pos hb5] at hm
        refine iv_aload_n (pc := 49) X dX9_read_49 rfl ?_
        refine iv_iconst (pc := 50) X dX9_read_50 ic_0 ?_
        refine iv_iload_n (pc := 51) X dX9_read_51 rfl ?_
        refine iv_lconst (pc := 52) X dX9_read_52 lc_0 ?_
        obtain ⟨⟨r7, S6⟩, hc8, hm⟩ := bd_some hm
        refine cV_X9_30_30 (pc := 53) X [.int 0, .int z2, .long 0] [] 3 rfl (f_X9_add_e l g ad 0 z2 0 S _ _ hc8) (by decide) (by decide) (Nat.le_of_ble_eq_true rfl) rfl dX9_read_53 ?_
        cases hm
        exact is_vret (pc := 56) X dX9_read_56
      · rw [if_neg hb5] at hm
        refine iv_aload_n (pc := 21) X dX9_read_21 rfl ?_
        refine iv_iload_n (pc := 22) X dX9_read_22 rfl ?_
        obtain ⟨hg, hm⟩ := gd_some hm
        refine aL_1 (pc := 23) X dX9_read_23 hg (x := (S.1 1) z3.toNatClampNeg) rfl ?_
        refine iv_bipush (pc := 24) X dX9_read_24 bc_32 ?_
        refine iv_icmp_ne (pc := 26) X dX9_read_26 (tgt := 35) rfl (fun hb9 => ?_) (fun hb9 => ?_)
        · rw [if_pos hb9] at hm
          refine iv_aload_n (pc := 35) X dX9_read_35 rfl ?_
          refine iv_aload_n (pc := 36) X dX9_read_36 rfl ?_
          refine iv_iload_n (pc := 37) X dX9_read_37 rfl ?_
          refine iv_iload_n (pc := 38) X dX9_read_38 rfl ?_
          obtain ⟨⟨r11, S10⟩, hc12, hm⟩ := bd_some hm
          refine cV_X9_26_30 (pc := 39) X [.ref (ad 1), .int z2, .int z3] [] 3 rfl (f_X9_readAt_e l g ad hZt hZu fu z2 z3 S _ _ hc12) (by decide) (by decide) (Nat.le_of_ble_eq_true rfl) rfl dX9_read_39 ?_
          refine iv_istore_n (pc := 42) X dX9_read_42 (by decide) (lv' := [(3, .int r11), (0, .ref (ad 30)), (1, .ref (ad 1)), (2, .int z2), (4, .int z4)]) rfl ?_
          refine iv_iinc (pc := 43) X dX9_read_43 rfl (by decide) (v := z4 + 1) rfl (lv' := [(4, .int (z4 + 1)), (3, .int r11), (0, .ref (ad 30)), (1, .ref (ad 1)), (2, .int z2)]) rfl ?_
          refine iv_goto (pc := 46) X dX9_read_46 (tgt := 10) rfl ?_
          refine iv_sub [2, 3, 4, 1, 0] (lv2 := [(0, .ref (ad 30)), (1, .ref (ad 1)), (2, .int z2), (3, .int r11), (4, .int (z4 + 1))]) rfl ?_
          exact ih z2 r11 (z4 + 1) S10 _ _ hm
        · rw [if_neg hb9] at hm
          refine iv_iload_n (pc := 29) X dX9_read_29 rfl ?_
          refine iv_iconst (pc := 30) X dX9_read_30 ic_1 ?_
          refine iv_iadd (pc := 31) X dX9_read_31 ?_
          refine iv_goto (pc := 32) X dX9_read_32 (tgt := 42) rfl ?_
          refine iv_istore_n (pc := 42) X dX9_read_42 (by decide) (lv' := [(3, .int (z3 + 1)), (0, .ref (ad 30)), (1, .ref (ad 1)), (2, .int z2), (4, .int z4)]) rfl ?_
          refine iv_iinc (pc := 43) X dX9_read_43 rfl (by decide) (v := z4 + 1) rfl (lv' := [(4, .int (z4 + 1)), (3, .int (z3 + 1)), (0, .ref (ad 30)), (1, .ref (ad 1)), (2, .int z2)]) rfl ?_
          refine iv_goto (pc := 46) X dX9_read_46 (tgt := 10) rfl ?_
          refine iv_sub [2, 3, 4, 1, 0] (lv2 := [(0, .ref (ad 30)), (1, .ref (ad 1)), (2, .int z2), (3, .int (z3 + 1)), (4, .int (z4 + 1))]) rfl ?_
          exact ih z2 (z3 + 1) (z4 + 1) S _ _ hm
def f_X9_read (fu : Nat) (x2 : Int32) (S : im_S) : Option (Unit × im_S) := f_X9_read_L10 fu fu x2 0 0 (uI S 30 3 0)
set_option maxHeartbeats 4000000 in
set_option maxRecDepth 100000 in
theorem f_X9_read_e (l : Launch) (g : im_G) (ad : Nat → Nat) (hZt : ∀ V, g.2.2.2 V → im_Zt g V) {q w : Nat} (hZu : ∀ V, g.2.2.2 V → im_Zu q w g V) (fu : Nat) (x2 : Int32) (S : im_S) (r : Unit) (S' : im_S) (hm : f_X9_read fu x2 S = some (r, S')) : im_E l g ad 5 yX9_read cX9_read 5 none [.ref (ad 30), .ref (ad 1), .int x2] S none S' := by
  unfold f_X9_read at hm
  refine is_met (own := RX9) (by decide +kernel) rfl (Nat.le_of_ble_eq_true rfl) (fun p e s m below meth c X => ?_)
  refine iv_aload_n (pc := 0) X dX9_read_0 rfl ?_
  refine iv_iconst (pc := 1) X dX9_read_1 ic_0 ?_
  refine pF_X9_22_30 (pc := 2) X dX9_read_2 ?_
  refine iv_iconst (pc := 5) X dX9_read_5 ic_0 ?_
  refine iv_istore_n (pc := 6) X dX9_read_6 (by decide) (lv' := [(3, .int 0), (0, .ref (ad 30)), (1, .ref (ad 1)), (2, .int x2)]) rfl ?_
  refine iv_iconst (pc := 7) X dX9_read_7 ic_0 ?_
  refine iv_istore (pc := 8) X dX9_read_8 (by decide) (lv' := [(4, .int 0), (3, .int 0), (0, .ref (ad 30)), (1, .ref (ad 1)), (2, .int x2)]) rfl ?_
  refine iv_sub [2, 3, 4, 1, 0] (lv2 := [(0, .ref (ad 30)), (1, .ref (ad 1)), (2, .int x2), (3, .int 0), (4, .int 0)]) rfl ?_
  exact f_X9_read_L10_w (fu := fu) l g ad hZt hZu X fu x2 0 0 (uI S 30 3 0) _ _ hm
def f_X7_read_L51 (fu : Nat) : Nat → Int32 → Int32 → Int32 → im_S → Option (Int32 × im_S)
  | 0, _, _, _, _ => none
  | nf + 1, z2, z3, z4, S => if (8 : Int32) < z4 then (if (z3 : Int32) = 0 then (if (S.1 5 0 : Int32) ≠ 0 then (some (0, S)) else (some (1, S))) else ((f_X7_linkCalls fu S).bind (fun qS4 => if (qS4.2.1 5 0 : Int32) ≠ 0 then (some (0, qS4.2)) else (some (1, qS4.2))))) else (if (z3 : Int32) = 0 then (if (z3 : Int32) = 0 then (if (S.1 5 0 : Int32) ≠ 0 then (some (0, S)) else (some (1, S))) else ((f_X7_linkCalls fu S).bind (fun qS11 => if (qS11.2.1 5 0 : Int32) ≠ 0 then (some (0, qS11.2)) else (some (1, qS11.2))))) else ((f_X7_kindHere S).bind (fun qS15 => if (qS15.1 : Int32) = 0 then (if (z3 : Int32) = 0 then (if (qS15.2.1 5 0 : Int32) ≠ 0 then (some (0, qS15.2)) else (some (1, qS15.2))) else ((f_X7_linkCalls fu qS15.2).bind (fun qS21 => if (qS21.2.1 5 0 : Int32) ≠ 0 then (some (0, qS21.2)) else (some (1, qS21.2))))) else (if (8 : Int32) ≤ z4 then ((f_X7_refuse qS15.2).bind (fun qS26 => f_X7_read_L51 fu nf z2 qS26.1 (z4 + 1) qS26.2)) else ((f_X7_header fu qS15.2).bind (fun qS29 => if (qS29.1 : Int32) = 0 then (f_X7_read_L51 fu nf z2 0 (z4 + 1) qS29.2) else ((f_X7_expression fu qS29.2).bind (fun qS33 => if (qS33.1 : Int32) = 0 then (f_X7_read_L51 fu nf z2 0 (z4 + 1) qS33.2) else (f_X7_read_L51 fu nf z2 1 (z4 + 1) qS33.2)))))))))
set_option maxHeartbeats 4000000 in
set_option maxRecDepth 100000 in
theorem f_X7_read_L51_w {fu : Nat} (l : Launch) (g : im_G) (ad : Nat → Nat) (hZt : ∀ V, g.2.2.2 V → im_Zt g V) {q w : Nat} (hZu : ∀ V, g.2.2.2 V → im_Zu q w g V) {p : Program} {e : Env} {s : State} {m : MethodId} {below : List Frame} {meth : Method} {c : Code} {args : Array Value} (X : im_X p l s m args meth c g cX7_read 5 RX7 (some Jvm.ClassFile.FieldType.boolean)) : ∀ (nf : Nat) (z2 : Int32) (z3 : Int32) (z4 : Int32) (S : im_S) (r : Int32) (S' : im_S), f_X7_read_L51 fu nf z2 z3 z4 S = some (r, S') → im_V p l e (im_R 6 0 0) s m args below meth c g 5 (im_Z below g ad args s (some (.int r)) S') ad im_N (im_cn g ad S) 0 0 51 [(0, .ref (ad 3)), (1, .ref (ad 1)), (2, .int z2), (3, .int z3), (4, .int z4)] [] := by
  intro nf
  induction nf with
  | zero =>
    intro z2 z3 z4 S r S' hm
    cases hm
  | succ nf ih =>
    intro z2 z3 z4 S r S' hm
    unfold f_X7_read_L51 at hm
    refine iv_iload (pc := 51) X dX7_read_51 rfl ?_
    refine iv_bipush (pc := 53) X dX7_read_53 bc_8 ?_
    refine iv_icmp_gt (pc := 55) X dX7_read_55 (tgt := 109) rfl (fun hb1 => ?_) (fun hb1 => ?_)
    · rw [if_pos hb1] at hm
      refine iv_iload_n (pc := 109) X dX7_read_109 rfl ?_
      refine iv_if_eq (pc := 110) X dX7_read_110 (tgt := 117) rfl (fun hb2 => ?_) (fun hb2 => ?_)
      · rw [if_pos hb2] at hm
        refine iv_aload_n (pc := 117) X dX7_read_117 rfl ?_
        refine gF_X7_12_3 (pc := 118) X dX7_read_118 ?_
        refine gF_X7_72_5 (pc := 121) X dX7_read_121 (x := S.1 5 0) rfl ?_
        refine iv_if_ne (pc := 124) X dX7_read_124 (tgt := 131) rfl (fun hb3 => ?_) (fun hb3 => ?_)
        · rw [if_pos hb3] at hm
          refine iv_iconst (pc := 131) X dX7_read_131 ic_0 ?_
          cases hm
          exact is_zret (pc := 132) X dX7_read_132 rfl
        · rw [if_neg hb3] at hm
          refine iv_iconst (pc := 127) X dX7_read_127 ic_1 ?_
          refine iv_goto (pc := 128) X dX7_read_128 (tgt := 132) rfl ?_
          cases hm
          exact is_zret (pc := 132) X dX7_read_132 rfl
      · rw [if_neg hb2] at hm
        refine iv_aload_n (pc := 113) X dX7_read_113 rfl ?_
        obtain ⟨⟨r5, S4⟩, hc6, hm⟩ := bd_some hm
        refine cV_X7_69_3 (pc := 114) X [] [] 0 rfl (f_X7_linkCalls_e l g ad fu  S _ _ hc6) (by decide) (by decide) (Nat.le_of_ble_eq_true rfl) rfl dX7_read_114 ?_
        refine iv_aload_n (pc := 117) X dX7_read_117 rfl ?_
        refine gF_X7_12_3 (pc := 118) X dX7_read_118 ?_
        refine gF_X7_72_5 (pc := 121) X dX7_read_121 (x := S4.1 5 0) rfl ?_
        refine iv_if_ne (pc := 124) X dX7_read_124 (tgt := 131) rfl (fun hb7 => ?_) (fun hb7 => ?_)
        · rw [if_pos hb7] at hm
          refine iv_iconst (pc := 131) X dX7_read_131 ic_0 ?_
          cases hm
          exact is_zret (pc := 132) X dX7_read_132 rfl
        · rw [if_neg hb7] at hm
          refine iv_iconst (pc := 127) X dX7_read_127 ic_1 ?_
          refine iv_goto (pc := 128) X dX7_read_128 (tgt := 132) rfl ?_
          cases hm
          exact is_zret (pc := 132) X dX7_read_132 rfl
    · rw [if_neg hb1] at hm
      refine iv_iload_n (pc := 58) X dX7_read_58 rfl ?_
      refine iv_if_eq (pc := 59) X dX7_read_59 (tgt := 109) rfl (fun hb8 => ?_) (fun hb8 => ?_)
      · rw [if_pos hb8] at hm
        refine iv_iload_n (pc := 109) X dX7_read_109 rfl ?_
        refine iv_if_eq (pc := 110) X dX7_read_110 (tgt := 117) rfl (fun hb9 => ?_) (fun hb9 => ?_)
        · rw [if_pos hb9] at hm
          refine iv_aload_n (pc := 117) X dX7_read_117 rfl ?_
          refine gF_X7_12_3 (pc := 118) X dX7_read_118 ?_
          refine gF_X7_72_5 (pc := 121) X dX7_read_121 (x := S.1 5 0) rfl ?_
          refine iv_if_ne (pc := 124) X dX7_read_124 (tgt := 131) rfl (fun hb10 => ?_) (fun hb10 => ?_)
          · rw [if_pos hb10] at hm
            refine iv_iconst (pc := 131) X dX7_read_131 ic_0 ?_
            cases hm
            exact is_zret (pc := 132) X dX7_read_132 rfl
          · rw [if_neg hb10] at hm
            refine iv_iconst (pc := 127) X dX7_read_127 ic_1 ?_
            refine iv_goto (pc := 128) X dX7_read_128 (tgt := 132) rfl ?_
            cases hm
            exact is_zret (pc := 132) X dX7_read_132 rfl
        · rw [if_neg hb9] at hm
          refine iv_aload_n (pc := 113) X dX7_read_113 rfl ?_
          obtain ⟨⟨r12, S11⟩, hc13, hm⟩ := bd_some hm
          refine cV_X7_69_3 (pc := 114) X [] [] 0 rfl (f_X7_linkCalls_e l g ad fu  S _ _ hc13) (by decide) (by decide) (Nat.le_of_ble_eq_true rfl) rfl dX7_read_114 ?_
          refine iv_aload_n (pc := 117) X dX7_read_117 rfl ?_
          refine gF_X7_12_3 (pc := 118) X dX7_read_118 ?_
          refine gF_X7_72_5 (pc := 121) X dX7_read_121 (x := S11.1 5 0) rfl ?_
          refine iv_if_ne (pc := 124) X dX7_read_124 (tgt := 131) rfl (fun hb14 => ?_) (fun hb14 => ?_)
          · rw [if_pos hb14] at hm
            refine iv_iconst (pc := 131) X dX7_read_131 ic_0 ?_
            cases hm
            exact is_zret (pc := 132) X dX7_read_132 rfl
          · rw [if_neg hb14] at hm
            refine iv_iconst (pc := 127) X dX7_read_127 ic_1 ?_
            refine iv_goto (pc := 128) X dX7_read_128 (tgt := 132) rfl ?_
            cases hm
            exact is_zret (pc := 132) X dX7_read_132 rfl
      · rw [if_neg hb8] at hm
        refine iv_aload_n (pc := 62) X dX7_read_62 rfl ?_
        obtain ⟨⟨r16, S15⟩, hc17, hm⟩ := bd_some hm
        refine cV_X7_62_3 (pc := 63) X [] [] 0 rfl (f_X7_kindHere_e l g ad  S _ _ hc17) (by decide) (by decide) (Nat.le_of_ble_eq_true rfl) rfl dX7_read_63 ?_
        refine iv_if_eq (pc := 66) X dX7_read_66 (tgt := 109) rfl (fun hb18 => ?_) (fun hb18 => ?_)
        · rw [if_pos hb18] at hm
          refine iv_iload_n (pc := 109) X dX7_read_109 rfl ?_
          refine iv_if_eq (pc := 110) X dX7_read_110 (tgt := 117) rfl (fun hb19 => ?_) (fun hb19 => ?_)
          · rw [if_pos hb19] at hm
            refine iv_aload_n (pc := 117) X dX7_read_117 rfl ?_
            refine gF_X7_12_3 (pc := 118) X dX7_read_118 ?_
            refine gF_X7_72_5 (pc := 121) X dX7_read_121 (x := S15.1 5 0) rfl ?_
            refine iv_if_ne (pc := 124) X dX7_read_124 (tgt := 131) rfl (fun hb20 => ?_) (fun hb20 => ?_)
            · rw [if_pos hb20] at hm
              refine iv_iconst (pc := 131) X dX7_read_131 ic_0 ?_
              cases hm
              exact is_zret (pc := 132) X dX7_read_132 rfl
            · rw [if_neg hb20] at hm
              refine iv_iconst (pc := 127) X dX7_read_127 ic_1 ?_
              refine iv_goto (pc := 128) X dX7_read_128 (tgt := 132) rfl ?_
              cases hm
              exact is_zret (pc := 132) X dX7_read_132 rfl
          · rw [if_neg hb19] at hm
            refine iv_aload_n (pc := 113) X dX7_read_113 rfl ?_
            obtain ⟨⟨r22, S21⟩, hc23, hm⟩ := bd_some hm
            refine cV_X7_69_3 (pc := 114) X [] [] 0 rfl (f_X7_linkCalls_e l g ad fu  S15 _ _ hc23) (by decide) (by decide) (Nat.le_of_ble_eq_true rfl) rfl dX7_read_114 ?_
            refine iv_aload_n (pc := 117) X dX7_read_117 rfl ?_
            refine gF_X7_12_3 (pc := 118) X dX7_read_118 ?_
            refine gF_X7_72_5 (pc := 121) X dX7_read_121 (x := S21.1 5 0) rfl ?_
            refine iv_if_ne (pc := 124) X dX7_read_124 (tgt := 131) rfl (fun hb24 => ?_) (fun hb24 => ?_)
            · rw [if_pos hb24] at hm
              refine iv_iconst (pc := 131) X dX7_read_131 ic_0 ?_
              cases hm
              exact is_zret (pc := 132) X dX7_read_132 rfl
            · rw [if_neg hb24] at hm
              refine iv_iconst (pc := 127) X dX7_read_127 ic_1 ?_
              refine iv_goto (pc := 128) X dX7_read_128 (tgt := 132) rfl ?_
              cases hm
              exact is_zret (pc := 132) X dX7_read_132 rfl
        · rw [if_neg hb18] at hm
          refine iv_iload (pc := 69) X dX7_read_69 rfl ?_
          refine iv_bipush (pc := 71) X dX7_read_71 bc_8 ?_
          refine iv_icmp_ge (pc := 73) X dX7_read_73 (tgt := 98) rfl (fun hb25 => ?_) (fun hb25 => ?_)
          · rw [if_pos hb25] at hm
            refine iv_aload_n (pc := 98) X dX7_read_98 rfl ?_
            obtain ⟨⟨r27, S26⟩, hc28, hm⟩ := bd_some hm
            refine cV_X7_66_3 (pc := 99) X [] [] 0 rfl (f_X7_refuse_e l g ad  S15 _ _ hc28) (by decide) (by decide) (Nat.le_of_ble_eq_true rfl) rfl dX7_read_99 ?_
            refine iv_istore_n (pc := 102) X dX7_read_102 (by decide) (lv' := [(3, .int r27), (0, .ref (ad 3)), (1, .ref (ad 1)), (2, .int z2), (4, .int z4)]) rfl ?_
            refine iv_iinc (pc := 103) X dX7_read_103 rfl (by decide) (v := z4 + 1) rfl (lv' := [(4, .int (z4 + 1)), (3, .int r27), (0, .ref (ad 3)), (1, .ref (ad 1)), (2, .int z2)]) rfl ?_
            refine iv_goto (pc := 106) X dX7_read_106 (tgt := 51) rfl ?_
            refine iv_sub [2, 3, 4, 1, 0] (lv2 := [(0, .ref (ad 3)), (1, .ref (ad 1)), (2, .int z2), (3, .int r27), (4, .int (z4 + 1))]) rfl ?_
            exact ih z2 r27 (z4 + 1) S26 _ _ hm
          · rw [if_neg hb25] at hm
            refine iv_aload_n (pc := 76) X dX7_read_76 rfl ?_
            obtain ⟨⟨r30, S29⟩, hc31, hm⟩ := bd_some hm
            refine cV_X7_55_3 (pc := 77) X [] [] 0 rfl (f_X7_header_e l g ad fu  S15 _ _ hc31) (by decide) (by decide) (Nat.le_of_ble_eq_true rfl) rfl dX7_read_77 ?_
            refine iv_if_eq (pc := 80) X dX7_read_80 (tgt := 94) rfl (fun hb32 => ?_) (fun hb32 => ?_)
            · rw [if_pos hb32] at hm
              refine iv_iconst (pc := 94) X dX7_read_94 ic_0 ?_
              refine iv_goto (pc := 95) X dX7_read_95 (tgt := 102) rfl ?_
              refine iv_istore_n (pc := 102) X dX7_read_102 (by decide) (lv' := [(3, .int 0), (0, .ref (ad 3)), (1, .ref (ad 1)), (2, .int z2), (4, .int z4)]) rfl ?_
              refine iv_iinc (pc := 103) X dX7_read_103 rfl (by decide) (v := z4 + 1) rfl (lv' := [(4, .int (z4 + 1)), (3, .int 0), (0, .ref (ad 3)), (1, .ref (ad 1)), (2, .int z2)]) rfl ?_
              refine iv_goto (pc := 106) X dX7_read_106 (tgt := 51) rfl ?_
              refine iv_sub [2, 3, 4, 1, 0] (lv2 := [(0, .ref (ad 3)), (1, .ref (ad 1)), (2, .int z2), (3, .int 0), (4, .int (z4 + 1))]) rfl ?_
              exact ih z2 0 (z4 + 1) S29 _ _ hm
            · rw [if_neg hb32] at hm
              refine iv_aload_n (pc := 83) X dX7_read_83 rfl ?_
              obtain ⟨⟨r34, S33⟩, hc35, hm⟩ := bd_some hm
              refine cV_X7_59_3 (pc := 84) X [] [] 0 rfl (f_X7_expression_e l g ad fu  S29 _ _ hc35) (by decide) (by decide) (Nat.le_of_ble_eq_true rfl) rfl dX7_read_84 ?_
              refine iv_if_eq (pc := 87) X dX7_read_87 (tgt := 94) rfl (fun hb36 => ?_) (fun hb36 => ?_)
              · rw [if_pos hb36] at hm
                refine iv_iconst (pc := 94) X dX7_read_94 ic_0 ?_
                refine iv_goto (pc := 95) X dX7_read_95 (tgt := 102) rfl ?_
                refine iv_istore_n (pc := 102) X dX7_read_102 (by decide) (lv' := [(3, .int 0), (0, .ref (ad 3)), (1, .ref (ad 1)), (2, .int z2), (4, .int z4)]) rfl ?_
                refine iv_iinc (pc := 103) X dX7_read_103 rfl (by decide) (v := z4 + 1) rfl (lv' := [(4, .int (z4 + 1)), (3, .int 0), (0, .ref (ad 3)), (1, .ref (ad 1)), (2, .int z2)]) rfl ?_
                refine iv_goto (pc := 106) X dX7_read_106 (tgt := 51) rfl ?_
                refine iv_sub [2, 3, 4, 1, 0] (lv2 := [(0, .ref (ad 3)), (1, .ref (ad 1)), (2, .int z2), (3, .int 0), (4, .int (z4 + 1))]) rfl ?_
                exact ih z2 0 (z4 + 1) S33 _ _ hm
              · rw [if_neg hb36] at hm
                refine iv_iconst (pc := 90) X dX7_read_90 ic_1 ?_
                refine iv_goto (pc := 91) X dX7_read_91 (tgt := 102) rfl ?_
                refine iv_istore_n (pc := 102) X dX7_read_102 (by decide) (lv' := [(3, .int 1), (0, .ref (ad 3)), (1, .ref (ad 1)), (2, .int z2), (4, .int z4)]) rfl ?_
                refine iv_iinc (pc := 103) X dX7_read_103 rfl (by decide) (v := z4 + 1) rfl (lv' := [(4, .int (z4 + 1)), (3, .int 1), (0, .ref (ad 3)), (1, .ref (ad 1)), (2, .int z2)]) rfl ?_
                refine iv_goto (pc := 106) X dX7_read_106 (tgt := 51) rfl ?_
                refine iv_sub [2, 3, 4, 1, 0] (lv2 := [(0, .ref (ad 3)), (1, .ref (ad 1)), (2, .int z2), (3, .int 1), (4, .int (z4 + 1))]) rfl ?_
                exact ih z2 1 (z4 + 1) S33 _ _ hm
def f_X7_read (fu : Nat) (x2 : Int32) (S : im_S) : Option (Int32 × im_S) := (f_X3_clear S).bind (fun qS1 => (f_X1_clear qS1.2).bind (fun qS4 => (f_X9_read fu x2 qS4.2).bind (fun qS7 => (f_X7_header fu (uI qS7.2 3 6 0)).bind (fun qS10 => if (qS10.1 : Int32) = 0 then (f_X7_read_L51 fu fu x2 0 1 qS10.2) else ((f_X7_expression fu qS10.2).bind (fun qS14 => if (qS14.1 : Int32) = 0 then (f_X7_read_L51 fu fu x2 0 1 qS14.2) else (f_X7_read_L51 fu fu x2 1 1 qS14.2)))))))
set_option maxHeartbeats 4000000 in
set_option maxRecDepth 100000 in
theorem f_X7_read_e (l : Launch) (g : im_G) (ad : Nat → Nat) (hZt : ∀ V, g.2.2.2 V → im_Zt g V) {q w : Nat} (hZu : ∀ V, g.2.2.2 V → im_Zu q w g V) (fu : Nat) (x2 : Int32) (S : im_S) (r : Int32) (S' : im_S) (hm : f_X7_read fu x2 S = some (r, S')) : im_E l g ad 6 yX7_read cX7_read 5 (some Jvm.ClassFile.FieldType.boolean) [.ref (ad 3), .ref (ad 1), .int x2] S (some (.int r)) S' := by
  unfold f_X7_read at hm
  refine is_met (own := RX7) (by decide +kernel) rfl (Nat.le_of_ble_eq_true rfl) (fun p e s m below meth c X => ?_)
  refine iv_aload_n (pc := 0) X dX7_read_0 rfl ?_
  refine gF_X7_21_3 (pc := 1) X dX7_read_1 ?_
  obtain ⟨⟨r2, S1⟩, hc3, hm⟩ := bd_some hm
  refine cV_X7_43_6 (pc := 4) X [] [] 0 rfl (f_X3_clear_e l g ad  S _ _ hc3) (by decide) (by decide) (Nat.le_of_ble_eq_true rfl) rfl dX7_read_4 ?_
  refine iv_aload_n (pc := 7) X dX7_read_7 rfl ?_
  refine gF_X7_12_3 (pc := 8) X dX7_read_8 ?_
  obtain ⟨⟨r5, S4⟩, hc6, hm⟩ := bd_some hm
  refine cV_X7_46_5 (pc := 11) X [] [] 0 rfl (f_X1_clear_e l g ad  S1 _ _ hc6) (by decide) (by decide) (Nat.le_of_ble_eq_true rfl) rfl dX7_read_11 ?_
  refine iv_aload_n (pc := 14) X dX7_read_14 rfl ?_
  refine gF_X7_28_3 (pc := 15) X dX7_read_15 ?_
  refine iv_aload_n (pc := 18) X dX7_read_18 rfl ?_
  refine iv_iload_n (pc := 19) X dX7_read_19 rfl ?_
  obtain ⟨⟨r8, S7⟩, hc9, hm⟩ := bd_some hm
  refine cV_X7_47_30 (pc := 20) X [.ref (ad 1), .int x2] [] 2 rfl (f_X9_read_e l g ad hZt hZu fu x2 S4 _ _ hc9) (by decide) (by decide) (Nat.le_of_ble_eq_true rfl) rfl dX7_read_20 ?_
  refine iv_aload_n (pc := 23) X dX7_read_23 rfl ?_
  refine iv_iconst (pc := 24) X dX7_read_24 ic_0 ?_
  refine pF_X7_51_3 (pc := 25) X dX7_read_25 ?_
  refine iv_aload_n (pc := 28) X dX7_read_28 rfl ?_
  obtain ⟨⟨r11, S10⟩, hc12, hm⟩ := bd_some hm
  refine cV_X7_55_3 (pc := 29) X [] [] 0 rfl (f_X7_header_e l g ad fu  (uI S7 3 6 0) _ _ hc12) (by decide) (by decide) (Nat.le_of_ble_eq_true rfl) rfl dX7_read_29 ?_
  refine iv_if_eq (pc := 32) X dX7_read_32 (tgt := 46) rfl (fun hb13 => ?_) (fun hb13 => ?_)
  · rw [if_pos hb13] at hm
    refine iv_iconst (pc := 46) X dX7_read_46 ic_0 ?_
    refine iv_istore_n (pc := 47) X dX7_read_47 (by decide) (lv' := [(3, .int 0), (0, .ref (ad 3)), (1, .ref (ad 1)), (2, .int x2)]) rfl ?_
    refine iv_iconst (pc := 48) X dX7_read_48 ic_1 ?_
    refine iv_istore (pc := 49) X dX7_read_49 (by decide) (lv' := [(4, .int 1), (3, .int 0), (0, .ref (ad 3)), (1, .ref (ad 1)), (2, .int x2)]) rfl ?_
    refine iv_sub [2, 3, 4, 1, 0] (lv2 := [(0, .ref (ad 3)), (1, .ref (ad 1)), (2, .int x2), (3, .int 0), (4, .int 1)]) rfl ?_
    exact f_X7_read_L51_w (fu := fu) l g ad hZt hZu X fu x2 0 1 S10 _ _ hm
  · rw [if_neg hb13] at hm
    refine iv_aload_n (pc := 35) X dX7_read_35 rfl ?_
    obtain ⟨⟨r15, S14⟩, hc16, hm⟩ := bd_some hm
    refine cV_X7_59_3 (pc := 36) X [] [] 0 rfl (f_X7_expression_e l g ad fu  S10 _ _ hc16) (by decide) (by decide) (Nat.le_of_ble_eq_true rfl) rfl dX7_read_36 ?_
    refine iv_if_eq (pc := 39) X dX7_read_39 (tgt := 46) rfl (fun hb17 => ?_) (fun hb17 => ?_)
    · rw [if_pos hb17] at hm
      refine iv_iconst (pc := 46) X dX7_read_46 ic_0 ?_
      refine iv_istore_n (pc := 47) X dX7_read_47 (by decide) (lv' := [(3, .int 0), (0, .ref (ad 3)), (1, .ref (ad 1)), (2, .int x2)]) rfl ?_
      refine iv_iconst (pc := 48) X dX7_read_48 ic_1 ?_
      refine iv_istore (pc := 49) X dX7_read_49 (by decide) (lv' := [(4, .int 1), (3, .int 0), (0, .ref (ad 3)), (1, .ref (ad 1)), (2, .int x2)]) rfl ?_
      refine iv_sub [2, 3, 4, 1, 0] (lv2 := [(0, .ref (ad 3)), (1, .ref (ad 1)), (2, .int x2), (3, .int 0), (4, .int 1)]) rfl ?_
      exact f_X7_read_L51_w (fu := fu) l g ad hZt hZu X fu x2 0 1 S14 _ _ hm
    · rw [if_neg hb17] at hm
      refine iv_iconst (pc := 42) X dX7_read_42 ic_1 ?_
      refine iv_goto (pc := 43) X dX7_read_43 (tgt := 47) rfl ?_
      refine iv_istore_n (pc := 47) X dX7_read_47 (by decide) (lv' := [(3, .int 1), (0, .ref (ad 3)), (1, .ref (ad 1)), (2, .int x2)]) rfl ?_
      refine iv_iconst (pc := 48) X dX7_read_48 ic_1 ?_
      refine iv_istore (pc := 49) X dX7_read_49 (by decide) (lv' := [(4, .int 1), (3, .int 1), (0, .ref (ad 3)), (1, .ref (ad 1)), (2, .int x2)]) rfl ?_
      refine iv_sub [2, 3, 4, 1, 0] (lv2 := [(0, .ref (ad 3)), (1, .ref (ad 1)), (2, .int x2), (3, .int 1), (4, .int 1)]) rfl ?_
      exact f_X7_read_L51_w (fu := fu) l g ad hZt hZu X fu x2 1 1 S14 _ _ hm
def f_X10_compile_q (fu : Nat) (S : im_S) : Option ((String ⊕ Int32) × im_S) := (f_X7_read fu (S.1 0 4) (uI S 0 4 0)).bind (fun qS1 => if (qS1.1 : Int32) ≠ 0 then none else (some (.inl xIAE, qS1.2)))
set_option maxHeartbeats 4000000 in
set_option maxRecDepth 100000 in
theorem f_X10_compile_q_x (l : Launch) (g : im_G) (ad : Nat → Nat) (hZt : ∀ V, g.2.2.2 V → im_Zt g V) {q w : Nat} (hZu : ∀ V, g.2.2.2 V → im_Zu q w g V) (hlT : l.stackTraces = false) (hZ : ∀ V, g.2.2.2 V → im_Zs g V) (fu : Nat) (S : im_S) (o : String ⊕ Int32) (S' : im_S) (hm : f_X10_compile_q fu  S = some (o, S')) : im_EX l g ad 7 yX10_compile cX10_compile 3 (some Jvm.ClassFile.FieldType.int) [.ref (ad 0)] S (ox_I o) S' := by
  unfold f_X10_compile_q at hm
  refine is_metX (own := RX10) (by decide +kernel) rfl (Nat.le_of_ble_eq_true rfl) (fun p e s m below meth c X hnt => ?_)
  refine iv_aload_n (pc := 0) X dX10_compile_0 rfl ?_
  refine gF_X10_31_0 (pc := 1) X dX10_compile_1 (x := S.1 0 4) rfl ?_
  refine iv_istore_n (pc := 4) X dX10_compile_4 (by decide) (lv' := [(1, .int (S.1 0 4)), (0, .ref (ad 0))]) rfl ?_
  refine iv_aload_n (pc := 5) X dX10_compile_5 rfl ?_
  refine iv_iconst (pc := 6) X dX10_compile_6 ic_0 ?_
  refine pF_X10_31_0 (pc := 7) X dX10_compile_7 ?_
  refine iv_aload_n (pc := 10) X dX10_compile_10 rfl ?_
  refine gF_X10_20_0 (pc := 11) X dX10_compile_11 ?_
  refine iv_aload_n (pc := 14) X dX10_compile_14 rfl ?_
  refine gF_X10_9_0 (pc := 15) X dX10_compile_15 ?_
  refine iv_iload_n (pc := 18) X dX10_compile_18 rfl ?_
  obtain ⟨⟨r2, S1⟩, hc3, hm⟩ := bd_some hm
  refine cV_X10_39_3 (pc := 19) X [.ref (ad 1), .int (S.1 0 4)] [] 2 rfl (f_X7_read_e l g ad hZt hZu fu (S.1 0 4) (uI S 0 4 0) _ _ hc3) (by decide) (by decide) (Nat.le_of_ble_eq_true rfl) rfl dX10_compile_19 ?_
  refine iv_if_ne (pc := 22) X dX10_compile_22 (tgt := 33) rfl (fun hb4 => ?_) (fun hb4 => ?_)
  · rw [if_pos hb4] at hm
    refine iv_aload_n (pc := 33) X dX10_compile_33 rfl ?_
    refine gF_X10_27_0 (pc := 34) X dX10_compile_34 ?_
    refine gF_X10_46_38 (pc := 37) X dX10_compile_37 ?_
    refine iv_astore_n (pc := 40) X dX10_compile_40 (by decide) (lv' := [(2, .ref (ad 40)), (1, .int (S.1 0 4)), (0, .ref (ad 0))]) rfl ?_
    refine iv_aload_n (pc := 41) X dX10_compile_41 rfl ?_
    refine gF_X10_27_0 (pc := 42) X dX10_compile_42 ?_
    refine iv_aload_n (pc := 45) X dX10_compile_45 rfl ?_
    refine gF_X10_20_0 (pc := 46) X dX10_compile_46 ?_
    refine gF_X10_50_3 (pc := 49) X dX10_compile_49 ?_
    cases hm
  · rw [if_neg hb4] at hm
    cases hm
    exact is_thIAE (pc := 25) X hlT hZ hnt dX10_compile_25 dX10_compile_28 dX10_compile_29 dX10_compile_32 (by decide) (Nat.le_of_ble_eq_true rfl)
