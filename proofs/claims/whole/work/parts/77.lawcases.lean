/-! the ten cases of the law, written by program (wip/whole/lawgen.py) -/
theorem cV_L_39_0 {p : Program} {l : Launch} {e : Env} {R : Room} {s : State} {m : MethodId} {args : Array Value} {below : List Frame} {meth : Method} {c : Code} {g : im_G} {cc : ByteArray} {nL : Nat} {ret : Option FieldType} {Q : State → Prop} {ad : Nat → Nat} {bc bs pc : Nat} {lv : List (Nat × Value)} {st : List Value} {S : im_S} (X : im_X p l s m args meth c g cc nL RL ret) {S2 : im_S} {r : Option Value} {dd : Nat} (As rest : List Value) (na : Nat) (hna : As.length = 2) (hM : im_E l g ad dd yX10_type cX10_type 6 (some Jvm.ClassFile.FieldType.boolean) (.ref (ad 0) :: As) S r S2) (hR1 : dd + 1 ≤ R.frames) (hR2 : 8 + (6 + 11) + 40 * dd ≤ R.locals) (hst : (rest.map fun v => v.category).sum ≤ 8) (hstk : st = As.reverse ++ .ref (ad 0) :: rest) (hd : decode cc pc = .ok (.invokevirtual 39, 3)) (kk : im_V p l e R s m args below meth c g nL Q ad im_N (im_cn g ad S2) bc bs (pc + 3) lv (r.toList ++ rest)) : im_V p l e R s m args below meth c g nL Q ad im_N (im_cn g ad S) bc bs pc lv st := is_callV X 12 As rest 2 hna hM rfl (by decide) rfl wm_L_39 wi_yX10_type we_yX10_type wn_X10 wc_yX10_type (by decide) hR1 hR2 hst hstk hd kk
theorem cV_L_43_75 {p : Program} {l : Launch} {e : Env} {R : Room} {s : State} {m : MethodId} {args : Array Value} {below : List Frame} {meth : Method} {c : Code} {g : im_G} {cc : ByteArray} {nL : Nat} {ret : Option FieldType} {Q : State → Prop} {ad : Nat → Nat} {bc bs pc : Nat} {lv : List (Nat × Value)} {st : List Value} {S : im_S} (X : im_X p l s m args meth c g cc nL RL ret) {S2 : im_S} {r : Option Value} {dd : Nat} (As rest : List Value) (na : Nat) (hna : As.length = 2) (hM : im_E l g ad dd yX11_type cX11_type 6 (some Jvm.ClassFile.FieldType.boolean) (.ref (ad 75) :: As) S r S2) (hR1 : dd + 1 ≤ R.frames) (hR2 : 8 + (6 + 11) + 40 * dd ≤ R.locals) (hst : (rest.map fun v => v.category).sum ≤ 8) (hstk : st = As.reverse ++ .ref (ad 75) :: rest) (hd : decode cc pc = .ok (.invokevirtual 43, 3)) (kk : im_V p l e R s m args below meth c g nL Q ad im_N (im_cn g ad S2) bc bs (pc + 3) lv (r.toList ++ rest)) : im_V p l e R s m args below meth c g nL Q ad im_N (im_cn g ad S) bc bs pc lv st := is_callV X 13 As rest 2 hna hM rfl (by decide) rfl wm_L_43 wi_yX11_type we_yX11_type wn_X11 wc_yX11_type (by decide) hR1 hR2 hst hstk hd kk
theorem cV_L_49_75 {p : Program} {l : Launch} {e : Env} {R : Room} {s : State} {m : MethodId} {args : Array Value} {below : List Frame} {meth : Method} {c : Code} {g : im_G} {cc : ByteArray} {nL : Nat} {ret : Option FieldType} {Q : State → Prop} {ad : Nat → Nat} {bc bs pc : Nat} {lv : List (Nat × Value)} {st : List Value} {S : im_S} (X : im_X p l s m args meth c g cc nL RL ret) {S2 : im_S} {r : Option Value} {dd : Nat} (As rest : List Value) (na : Nat) (hna : As.length = 0) (hM : im_E l g ad dd yX11_compile cX11_compile 3 (some Jvm.ClassFile.FieldType.int) (.ref (ad 75) :: As) S r S2) (hR1 : dd + 1 ≤ R.frames) (hR2 : 8 + (3 + 11) + 40 * dd ≤ R.locals) (hst : (rest.map fun v => v.category).sum ≤ 8) (hstk : st = As.reverse ++ .ref (ad 75) :: rest) (hd : decode cc pc = .ok (.invokevirtual 49, 3)) (kk : im_V p l e R s m args below meth c g nL Q ad im_N (im_cn g ad S2) bc bs (pc + 3) lv (r.toList ++ rest)) : im_V p l e R s m args below meth c g nL Q ad im_N (im_cn g ad S) bc bs pc lv st := is_callV X 13 As rest 0 hna hM rfl (by decide) rfl wm_L_49 wi_yX11_compile we_yX11_compile wn_X11 wc_yX11_compile (by decide) hR1 hR2 hst hstk hd kk
theorem cV_L_50_75 {p : Program} {l : Launch} {e : Env} {R : Room} {s : State} {m : MethodId} {args : Array Value} {below : List Frame} {meth : Method} {c : Code} {g : im_G} {cc : ByteArray} {nL : Nat} {ret : Option FieldType} {Q : State → Prop} {ad : Nat → Nat} {bc bs pc : Nat} {lv : List (Nat × Value)} {st : List Value} {S : im_S} (X : im_X p l s m args meth c g cc nL RL ret) {S2 : im_S} {r : Option Value} {dd : Nat} (As rest : List Value) (na : Nat) (hna : As.length = 0) (hM : im_E l g ad dd yX11_thrown cX11_thrown 1 (some Jvm.ClassFile.FieldType.int) (.ref (ad 75) :: As) S r S2) (hR1 : dd + 1 ≤ R.frames) (hR2 : 8 + (1 + 11) + 40 * dd ≤ R.locals) (hst : (rest.map fun v => v.category).sum ≤ 8) (hstk : st = As.reverse ++ .ref (ad 75) :: rest) (hd : decode cc pc = .ok (.invokevirtual 50, 3)) (kk : im_V p l e R s m args below meth c g nL Q ad im_N (im_cn g ad S2) bc bs (pc + 3) lv (r.toList ++ rest)) : im_V p l e R s m args below meth c g nL Q ad im_N (im_cn g ad S) bc bs pc lv st := is_callV X 13 As rest 0 hna hM rfl (by decide) rfl wm_L_50 wi_yX11_thrown we_yX11_thrown wn_X11 wc_yX11_thrown (by decide) hR1 hR2 hst hstk hd kk
theorem cV_L_53_0 {p : Program} {l : Launch} {e : Env} {R : Room} {s : State} {m : MethodId} {args : Array Value} {below : List Frame} {meth : Method} {c : Code} {g : im_G} {cc : ByteArray} {nL : Nat} {ret : Option FieldType} {Q : State → Prop} {ad : Nat → Nat} {bc bs pc : Nat} {lv : List (Nat × Value)} {st : List Value} {S : im_S} (X : im_X p l s m args meth c g cc nL RL ret) {S2 : im_S} {r : Option Value} {dd : Nat} (As rest : List Value) (na : Nat) (hna : As.length = 1) (hM : im_E l g ad dd yX10_fault cX10_fault 2 (some Jvm.ClassFile.FieldType.int) (.ref (ad 0) :: As) S r S2) (hR1 : dd + 1 ≤ R.frames) (hR2 : 8 + (2 + 11) + 40 * dd ≤ R.locals) (hst : (rest.map fun v => v.category).sum ≤ 8) (hstk : st = As.reverse ++ .ref (ad 0) :: rest) (hd : decode cc pc = .ok (.invokevirtual 53, 3)) (kk : im_V p l e R s m args below meth c g nL Q ad im_N (im_cn g ad S2) bc bs (pc + 3) lv (r.toList ++ rest)) : im_V p l e R s m args below meth c g nL Q ad im_N (im_cn g ad S) bc bs pc lv st := is_callV X 12 As rest 1 hna hM rfl (by decide) rfl wm_L_53 wi_yX10_fault we_yX10_fault wn_X10 wc_yX10_fault (by decide) hR1 hR2 hst hstk hd kk
theorem cV_L_57_75 {p : Program} {l : Launch} {e : Env} {R : Room} {s : State} {m : MethodId} {args : Array Value} {below : List Frame} {meth : Method} {c : Code} {g : im_G} {cc : ByteArray} {nL : Nat} {ret : Option FieldType} {Q : State → Prop} {ad : Nat → Nat} {bc bs pc : Nat} {lv : List (Nat × Value)} {st : List Value} {S : im_S} (X : im_X p l s m args meth c g cc nL RL ret) {S2 : im_S} {r : Option Value} {dd : Nat} (As rest : List Value) (na : Nat) (hna : As.length = 1) (hM : im_E l g ad dd yX11_fault cX11_fault 2 (some Jvm.ClassFile.FieldType.int) (.ref (ad 75) :: As) S r S2) (hR1 : dd + 1 ≤ R.frames) (hR2 : 8 + (2 + 11) + 40 * dd ≤ R.locals) (hst : (rest.map fun v => v.category).sum ≤ 8) (hstk : st = As.reverse ++ .ref (ad 75) :: rest) (hd : decode cc pc = .ok (.invokevirtual 57, 3)) (kk : im_V p l e R s m args below meth c g nL Q ad im_N (im_cn g ad S2) bc bs (pc + 3) lv (r.toList ++ rest)) : im_V p l e R s m args below meth c g nL Q ad im_N (im_cn g ad S) bc bs pc lv st := is_callV X 13 As rest 1 hna hM rfl (by decide) rfl wm_L_57 wi_yX11_fault we_yX11_fault wn_X11 wc_yX11_fault (by decide) hR1 hR2 hst hstk hd kk
theorem cV_L_62_75 {p : Program} {l : Launch} {e : Env} {R : Room} {s : State} {m : MethodId} {args : Array Value} {below : List Frame} {meth : Method} {c : Code} {g : im_G} {cc : ByteArray} {nL : Nat} {ret : Option FieldType} {Q : State → Prop} {ad : Nat → Nat} {bc bs pc : Nat} {lv : List (Nat × Value)} {st : List Value} {S : im_S} (X : im_X p l s m args meth c g cc nL RL ret) {S2 : im_S} {r : Option Value} {dd : Nat} (As rest : List Value) (na : Nat) (hna : As.length = 5) (hM : im_E l g ad dd yX11_start cX11_start 12 (some Jvm.ClassFile.FieldType.boolean) (.ref (ad 75) :: As) S r S2) (hR1 : dd + 1 ≤ R.frames) (hR2 : 8 + (12 + 11) + 40 * dd ≤ R.locals) (hst : (rest.map fun v => v.category).sum ≤ 8) (hstk : st = As.reverse ++ .ref (ad 75) :: rest) (hd : decode cc pc = .ok (.invokevirtual 62, 3)) (kk : im_V p l e R s m args below meth c g nL Q ad im_N (im_cn g ad S2) bc bs (pc + 3) lv (r.toList ++ rest)) : im_V p l e R s m args below meth c g nL Q ad im_N (im_cn g ad S) bc bs pc lv st := is_callV X 13 As rest 5 hna hM rfl (by decide) rfl wm_L_62 wi_yX11_start we_yX11_start wn_X11 wc_yX11_start (by decide) hR1 hR2 hst hstk hd kk
theorem cV_L_66_75 {p : Program} {l : Launch} {e : Env} {R : Room} {s : State} {m : MethodId} {args : Array Value} {below : List Frame} {meth : Method} {c : Code} {g : im_G} {cc : ByteArray} {nL : Nat} {ret : Option FieldType} {Q : State → Prop} {ad : Nat → Nat} {bc bs pc : Nat} {lv : List (Nat × Value)} {st : List Value} {S : im_S} (X : im_X p l s m args meth c g cc nL RL ret) {S2 : im_S} {r : Option Value} {dd : Nat} (As rest : List Value) (na : Nat) (hna : As.length = 2) (hM : im_E l g ad dd yX11_fire cX11_fire 5 (some Jvm.ClassFile.FieldType.int) (.ref (ad 75) :: As) S r S2) (hR1 : dd + 1 ≤ R.frames) (hR2 : 8 + (5 + 11) + 40 * dd ≤ R.locals) (hst : (rest.map fun v => v.category).sum ≤ 8) (hstk : st = As.reverse ++ .ref (ad 75) :: rest) (hd : decode cc pc = .ok (.invokevirtual 66, 3)) (kk : im_V p l e R s m args below meth c g nL Q ad im_N (im_cn g ad S2) bc bs (pc + 3) lv (r.toList ++ rest)) : im_V p l e R s m args below meth c g nL Q ad im_N (im_cn g ad S) bc bs pc lv st := is_callV X 13 As rest 2 hna hM rfl (by decide) rfl wm_L_66 wi_yX11_fire we_yX11_fire wn_X11 wc_yX11_fire (by decide) hR1 hR2 hst hstk hd kk
theorem cV_L_67_0 {p : Program} {l : Launch} {e : Env} {R : Room} {s : State} {m : MethodId} {args : Array Value} {below : List Frame} {meth : Method} {c : Code} {g : im_G} {cc : ByteArray} {nL : Nat} {ret : Option FieldType} {Q : State → Prop} {ad : Nat → Nat} {bc bs pc : Nat} {lv : List (Nat × Value)} {st : List Value} {S : im_S} (X : im_X p l s m args meth c g cc nL RL ret) {S2 : im_S} {r : Option Value} {dd : Nat} (As rest : List Value) (na : Nat) (hna : As.length = 0) (hM : im_E l g ad dd yX10_state cX10_state 1 (some Jvm.ClassFile.FieldType.int) (.ref (ad 0) :: As) S r S2) (hR1 : dd + 1 ≤ R.frames) (hR2 : 8 + (1 + 11) + 40 * dd ≤ R.locals) (hst : (rest.map fun v => v.category).sum ≤ 8) (hstk : st = As.reverse ++ .ref (ad 0) :: rest) (hd : decode cc pc = .ok (.invokevirtual 67, 3)) (kk : im_V p l e R s m args below meth c g nL Q ad im_N (im_cn g ad S2) bc bs (pc + 3) lv (r.toList ++ rest)) : im_V p l e R s m args below meth c g nL Q ad im_N (im_cn g ad S) bc bs pc lv st := is_callV X 12 As rest 0 hna hM rfl (by decide) rfl wm_L_67 wi_yX10_state we_yX10_state wn_X10 wc_yX10_state (by decide) hR1 hR2 hst hstk hd kk
theorem cV_L_70_75 {p : Program} {l : Launch} {e : Env} {R : Room} {s : State} {m : MethodId} {args : Array Value} {below : List Frame} {meth : Method} {c : Code} {g : im_G} {cc : ByteArray} {nL : Nat} {ret : Option FieldType} {Q : State → Prop} {ad : Nat → Nat} {bc bs pc : Nat} {lv : List (Nat × Value)} {st : List Value} {S : im_S} (X : im_X p l s m args meth c g cc nL RL ret) {S2 : im_S} {r : Option Value} {dd : Nat} (As rest : List Value) (na : Nat) (hna : As.length = 0) (hM : im_E l g ad dd yX11_state cX11_state 1 (some Jvm.ClassFile.FieldType.int) (.ref (ad 75) :: As) S r S2) (hR1 : dd + 1 ≤ R.frames) (hR2 : 8 + (1 + 11) + 40 * dd ≤ R.locals) (hst : (rest.map fun v => v.category).sum ≤ 8) (hstk : st = As.reverse ++ .ref (ad 75) :: rest) (hd : decode cc pc = .ok (.invokevirtual 70, 3)) (kk : im_V p l e R s m args below meth c g nL Q ad im_N (im_cn g ad S2) bc bs (pc + 3) lv (r.toList ++ rest)) : im_V p l e R s m args below meth c g nL Q ad im_N (im_cn g ad S) bc bs pc lv st := is_callV X 13 As rest 0 hna hM rfl (by decide) rfl wm_L_70 wi_yX11_state we_yX11_state wn_X11 wc_yX11_state (by decide) hR1 hR2 hst hstk hd kk
theorem cV_L_71_0 {p : Program} {l : Launch} {e : Env} {R : Room} {s : State} {m : MethodId} {args : Array Value} {below : List Frame} {meth : Method} {c : Code} {g : im_G} {cc : ByteArray} {nL : Nat} {ret : Option FieldType} {Q : State → Prop} {ad : Nat → Nat} {bc bs pc : Nat} {lv : List (Nat × Value)} {st : List Value} {S : im_S} (X : im_X p l s m args meth c g cc nL RL ret) {S2 : im_S} {r : Option Value} {dd : Nat} (As rest : List Value) (na : Nat) (hna : As.length = 0) (hM : im_E l g ad dd yX10_kind cX10_kind 1 (some Jvm.ClassFile.FieldType.int) (.ref (ad 0) :: As) S r S2) (hR1 : dd + 1 ≤ R.frames) (hR2 : 8 + (1 + 11) + 40 * dd ≤ R.locals) (hst : (rest.map fun v => v.category).sum ≤ 8) (hstk : st = As.reverse ++ .ref (ad 0) :: rest) (hd : decode cc pc = .ok (.invokevirtual 71, 3)) (kk : im_V p l e R s m args below meth c g nL Q ad im_N (im_cn g ad S2) bc bs (pc + 3) lv (r.toList ++ rest)) : im_V p l e R s m args below meth c g nL Q ad im_N (im_cn g ad S) bc bs pc lv st := is_callV X 12 As rest 0 hna hM rfl (by decide) rfl wm_L_71 wi_yX10_kind we_yX10_kind wn_X10 wc_yX10_kind (by decide) hR1 hR2 hst hstk hd kk
theorem cV_L_74_75 {p : Program} {l : Launch} {e : Env} {R : Room} {s : State} {m : MethodId} {args : Array Value} {below : List Frame} {meth : Method} {c : Code} {g : im_G} {cc : ByteArray} {nL : Nat} {ret : Option FieldType} {Q : State → Prop} {ad : Nat → Nat} {bc bs pc : Nat} {lv : List (Nat × Value)} {st : List Value} {S : im_S} (X : im_X p l s m args meth c g cc nL RL ret) {S2 : im_S} {r : Option Value} {dd : Nat} (As rest : List Value) (na : Nat) (hna : As.length = 0) (hM : im_E l g ad dd yX11_kind cX11_kind 1 (some Jvm.ClassFile.FieldType.int) (.ref (ad 75) :: As) S r S2) (hR1 : dd + 1 ≤ R.frames) (hR2 : 8 + (1 + 11) + 40 * dd ≤ R.locals) (hst : (rest.map fun v => v.category).sum ≤ 8) (hstk : st = As.reverse ++ .ref (ad 75) :: rest) (hd : decode cc pc = .ok (.invokevirtual 74, 3)) (kk : im_V p l e R s m args below meth c g nL Q ad im_N (im_cn g ad S2) bc bs (pc + 3) lv (r.toList ++ rest)) : im_V p l e R s m args below meth c g nL Q ad im_N (im_cn g ad S) bc bs pc lv st := is_callV X 13 As rest 0 hna hM rfl (by decide) rfl wm_L_74 wi_yX11_kind we_yX11_kind wn_X11 wc_yX11_kind (by decide) hR1 hR2 hst hstk hd kk
theorem cV_L_77_75 {p : Program} {l : Launch} {e : Env} {R : Room} {s : State} {m : MethodId} {args : Array Value} {below : List Frame} {meth : Method} {c : Code} {g : im_G} {cc : ByteArray} {nL : Nat} {ret : Option FieldType} {Q : State → Prop} {ad : Nat → Nat} {bc bs pc : Nat} {lv : List (Nat × Value)} {st : List Value} {S : im_S} (X : im_X p l s m args meth c g cc nL RL ret) {S2 : im_S} {r : Option Value} {dd : Nat} (As rest : List Value) (na : Nat) (hna : As.length = 0) (hM : im_E l g ad dd yX11_value cX11_value 2 (some Jvm.ClassFile.FieldType.long) (.ref (ad 75) :: As) S r S2) (hR1 : dd + 1 ≤ R.frames) (hR2 : 8 + (2 + 11) + 40 * dd ≤ R.locals) (hst : (rest.map fun v => v.category).sum ≤ 8) (hstk : st = As.reverse ++ .ref (ad 75) :: rest) (hd : decode cc pc = .ok (.invokevirtual 77, 3)) (kk : im_V p l e R s m args below meth c g nL Q ad im_N (im_cn g ad S2) bc bs (pc + 3) lv (r.toList ++ rest)) : im_V p l e R s m args below meth c g nL Q ad im_N (im_cn g ad S) bc bs pc lv st := is_callV X 13 As rest 0 hna hM rfl (by decide) rfl wm_L_77 wi_yX11_value we_yX11_value wn_X11 wc_yX11_value (by decide) hR1 hR2 hst hstk hd kk
theorem cV_L_81_75 {p : Program} {l : Launch} {e : Env} {R : Room} {s : State} {m : MethodId} {args : Array Value} {below : List Frame} {meth : Method} {c : Code} {g : im_G} {cc : ByteArray} {nL : Nat} {ret : Option FieldType} {Q : State → Prop} {ad : Nat → Nat} {bc bs pc : Nat} {lv : List (Nat × Value)} {st : List Value} {S : im_S} (X : im_X p l s m args meth c g cc nL RL ret) {S2 : im_S} {r : Option Value} {dd : Nat} (As rest : List Value) (na : Nat) (hna : As.length = 2) (hM : im_E l g ad dd yX11_cell cX11_cell 6 (some Jvm.ClassFile.FieldType.long) (.ref (ad 75) :: As) S r S2) (hR1 : dd + 1 ≤ R.frames) (hR2 : 8 + (6 + 11) + 40 * dd ≤ R.locals) (hst : (rest.map fun v => v.category).sum ≤ 8) (hstk : st = As.reverse ++ .ref (ad 75) :: rest) (hd : decode cc pc = .ok (.invokevirtual 81, 3)) (kk : im_V p l e R s m args below meth c g nL Q ad im_N (im_cn g ad S2) bc bs (pc + 3) lv (r.toList ++ rest)) : im_V p l e R s m args below meth c g nL Q ad im_N (im_cn g ad S) bc bs pc lv st := is_callV X 13 As rest 2 hna hM rfl (by decide) rfl wm_L_81 wi_yX11_cell we_yX11_cell wn_X11 wc_yX11_cell (by decide) hR1 hR2 hst hstk hd kk
theorem cV_L_82_0 {p : Program} {l : Launch} {e : Env} {R : Room} {s : State} {m : MethodId} {args : Array Value} {below : List Frame} {meth : Method} {c : Code} {g : im_G} {cc : ByteArray} {nL : Nat} {ret : Option FieldType} {Q : State → Prop} {ad : Nat → Nat} {bc bs pc : Nat} {lv : List (Nat × Value)} {st : List Value} {S : im_S} (X : im_X p l s m args meth c g cc nL RL ret) {S2 : im_S} {r : Option Value} {dd : Nat} (As rest : List Value) (na : Nat) (hna : As.length = 1) (hM : im_E l g ad dd yX10_count cX10_count 2 (some Jvm.ClassFile.FieldType.int) (.ref (ad 0) :: As) S r S2) (hR1 : dd + 1 ≤ R.frames) (hR2 : 8 + (2 + 11) + 40 * dd ≤ R.locals) (hst : (rest.map fun v => v.category).sum ≤ 8) (hstk : st = As.reverse ++ .ref (ad 0) :: rest) (hd : decode cc pc = .ok (.invokevirtual 82, 3)) (kk : im_V p l e R s m args below meth c g nL Q ad im_N (im_cn g ad S2) bc bs (pc + 3) lv (r.toList ++ rest)) : im_V p l e R s m args below meth c g nL Q ad im_N (im_cn g ad S) bc bs pc lv st := is_callV X 12 As rest 1 hna hM rfl (by decide) rfl wm_L_82 wi_yX10_count we_yX10_count wn_X10 wc_yX10_count (by decide) hR1 hR2 hst hstk hd kk
theorem cV_L_85_75 {p : Program} {l : Launch} {e : Env} {R : Room} {s : State} {m : MethodId} {args : Array Value} {below : List Frame} {meth : Method} {c : Code} {g : im_G} {cc : ByteArray} {nL : Nat} {ret : Option FieldType} {Q : State → Prop} {ad : Nat → Nat} {bc bs pc : Nat} {lv : List (Nat × Value)} {st : List Value} {S : im_S} (X : im_X p l s m args meth c g cc nL RL ret) {S2 : im_S} {r : Option Value} {dd : Nat} (As rest : List Value) (na : Nat) (hna : As.length = 1) (hM : im_E l g ad dd yX11_count cX11_count 2 (some Jvm.ClassFile.FieldType.int) (.ref (ad 75) :: As) S r S2) (hR1 : dd + 1 ≤ R.frames) (hR2 : 8 + (2 + 11) + 40 * dd ≤ R.locals) (hst : (rest.map fun v => v.category).sum ≤ 8) (hstk : st = As.reverse ++ .ref (ad 75) :: rest) (hd : decode cc pc = .ok (.invokevirtual 85, 3)) (kk : im_V p l e R s m args below meth c g nL Q ad im_N (im_cn g ad S2) bc bs (pc + 3) lv (r.toList ++ rest)) : im_V p l e R s m args below meth c g nL Q ad im_N (im_cn g ad S) bc bs pc lv st := is_callV X 13 As rest 1 hna hM rfl (by decide) rfl wm_L_85 wi_yX11_count we_yX11_count wn_X11 wc_yX11_count (by decide) hR1 hR2 hst hstk hd kk
set_option maxHeartbeats 4000000 in
set_option maxRecDepth 100000 in
theorem law_0 {p : Program} {l : Launch} {e : Env} {s : State} {m : MethodId} {below : List Frame} {meth : Method} {c0 : Code} {g : im_G} {ret : Option FieldType} {Q : State → Prop} {u v w B k1 k2 : Nat} {ad : Nat → Nat} {bc bs : Nat} {b L : Nat} {xs : Nat → Int32} {c : Nat → Int32} {i : Int32} (hlT : l.stackTraces = false) (hZ : ∀ V, g.2.2.2 V → im_Zs g V) (hZt : ∀ V, g.2.2.2 V → im_Zt g V) {q1 q2 : Nat} (hZu : ∀ V, g.2.2.2 V → im_Zu q1 q2 g V) (X : im_X p l s m #[Value.ref b] meth c0 g cL_law 8 RL ret) (hX : va_X b L xs s s.heap) (hbl : b < s.heap.size) (hbA : ¬ im_A g b) (hin : ∀ j : Nat, j < 10 → vp_in (i + nI j) L) (hc : ∀ j : Nat, j < 10 → xs (i + nI j).toNatClampNeg = c j) (fu : Nat) {S : im_S} {r1 : Int32} {S1 : im_S} (h1 : f_X10_type fu ((((c 1).toInt64) <<< ((32 : Int32).toInt64 &&& 63)) ||| (((c 2).toInt64) &&& 4294967295)) (c 3) S = some (r1, S1)) {r2 : Int32} {S2 : im_S} (h2 : f_X11_type fu ((((c 1).toInt64) <<< ((32 : Int32).toInt64 &&& 63)) ||| (((c 2).toInt64) &&& 4294967295)) (c 3) S1 = some (r2, S2)) (hq1 : (r1 : Int32) = r2) (kk : im_V p l e room_1 s m #[Value.ref b] below meth c0 g 8 Q (fx u v w ad) im_N (im_cn g (fx u v w ad) S2) bc bs 704 [(0, .ref b), (1, .ref (fx u v w ad 0)), (2, .ref (fx u v w ad 75)), (3, .ref (fx u v w ad 134)), (4, .int i)] []) : im_V p l e room_1 s m #[Value.ref b] below meth c0 g 8 Q (fx u v w ad) im_N (im_cn g (fx u v w ad) S) bc bs 96 [(0, .ref b), (1, .ref (fx u v w ad 0)), (2, .ref (fx u v w ad 75)), (3, .ref (fx u v w ad 134)), (4, .int i)] [] := by
  have hn1 : vp_in (i + 1) L := hin 1 (by decide)
  have hx1 : xs (i + 1).toNatClampNeg = c 1 := hc 1 (by decide)
  have hn2 : vp_in (i + 2) L := hin 2 (by decide)
  have hx2 : xs (i + 2).toNatClampNeg = c 2 := hc 2 (by decide)
  have hn3 : vp_in (i + 3) L := hin 3 (by decide)
  have hx3 : xs (i + 3).toNatClampNeg = c 3 := hc 3 (by decide)
  refine iv_aload_n (pc := 96) X dL_law_96 rfl ?_
  refine iv_aload_n (pc := 97) X dL_law_97 rfl ?_
  refine iv_iload (pc := 98) X dL_law_98 rfl ?_
  refine iv_iconst (pc := 100) X dL_law_100 ic_1 ?_
  refine iv_iadd (pc := 101) X dL_law_101 ?_
  refine iv_sld (pc := 102) X hX hbl hbA dL_law_102 (hn1) (hx1) ?_
  refine iv_i2l (pc := 103) X dL_law_103 rfl ?_
  refine iv_bipush (pc := 104) X dL_law_104 bc_32 ?_
  refine iv_lshl (pc := 106) X dL_law_106 rfl ?_
  refine iv_aload_n (pc := 107) X dL_law_107 rfl ?_
  refine iv_iload (pc := 108) X dL_law_108 rfl ?_
  refine iv_iconst (pc := 110) X dL_law_110 ic_2 ?_
  refine iv_iadd (pc := 111) X dL_law_111 ?_
  refine iv_sld (pc := 112) X hX hbl hbA dL_law_112 (hn2) (hx2) ?_
  refine iv_i2l (pc := 113) X dL_law_113 rfl ?_
  refine iv_ldc2 (pc := 114) X wk_L_37 dL_law_114 ?_
  refine iv_land (pc := 117) X dL_law_117 ?_
  refine iv_lor (pc := 118) X dL_law_118 ?_
  refine iv_aload_n (pc := 119) X dL_law_119 rfl ?_
  refine iv_iload (pc := 120) X dL_law_120 rfl ?_
  refine iv_iconst (pc := 122) X dL_law_122 ic_3 ?_
  refine iv_iadd (pc := 123) X dL_law_123 ?_
  refine iv_sld (pc := 124) X hX hbl hbA dL_law_124 (hn3) (hx3) ?_
  refine cV_L_39_0 (pc := 125) X [.long ((((c 1).toInt64) <<< ((32 : Int32).toInt64 &&& 63)) ||| (((c 2).toInt64) &&& 4294967295)), .int (c 3)] [] 2 rfl (f_X10_type_e l g (fx u v w ad) fu ((((c 1).toInt64) <<< ((32 : Int32).toInt64 &&& 63)) ||| (((c 2).toInt64) &&& 4294967295)) (c 3) S _ _ h1) (by decide) (by decide) (Nat.le_of_ble_eq_true rfl) rfl dL_law_125 ?_
  refine iv_aload_n (pc := 128) X dL_law_128 rfl ?_
  refine iv_aload_n (pc := 129) X dL_law_129 rfl ?_
  refine iv_iload (pc := 130) X dL_law_130 rfl ?_
  refine iv_iconst (pc := 132) X dL_law_132 ic_1 ?_
  refine iv_iadd (pc := 133) X dL_law_133 ?_
  refine iv_sld (pc := 134) X hX hbl hbA dL_law_134 (hn1) (hx1) ?_
  refine iv_i2l (pc := 135) X dL_law_135 rfl ?_
  refine iv_bipush (pc := 136) X dL_law_136 bc_32 ?_
  refine iv_lshl (pc := 138) X dL_law_138 rfl ?_
  refine iv_aload_n (pc := 139) X dL_law_139 rfl ?_
  refine iv_iload (pc := 140) X dL_law_140 rfl ?_
  refine iv_iconst (pc := 142) X dL_law_142 ic_2 ?_
  refine iv_iadd (pc := 143) X dL_law_143 ?_
  refine iv_sld (pc := 144) X hX hbl hbA dL_law_144 (hn2) (hx2) ?_
  refine iv_i2l (pc := 145) X dL_law_145 rfl ?_
  refine iv_ldc2 (pc := 146) X wk_L_37 dL_law_146 ?_
  refine iv_land (pc := 149) X dL_law_149 ?_
  refine iv_lor (pc := 150) X dL_law_150 ?_
  refine iv_aload_n (pc := 151) X dL_law_151 rfl ?_
  refine iv_iload (pc := 152) X dL_law_152 rfl ?_
  refine iv_iconst (pc := 154) X dL_law_154 ic_3 ?_
  refine iv_iadd (pc := 155) X dL_law_155 ?_
  refine iv_sld (pc := 156) X hX hbl hbA dL_law_156 (hn3) (hx3) ?_
  refine cV_L_43_75 (pc := 157) X [.long ((((c 1).toInt64) <<< ((32 : Int32).toInt64 &&& 63)) ||| (((c 2).toInt64) &&& 4294967295)), .int (c 3)] [.int r1] 2 rfl (f_X11_type_e l g (fx u v w ad) fu ((((c 1).toInt64) <<< ((32 : Int32).toInt64 &&& 63)) ||| (((c 2).toInt64) &&& 4294967295)) (c 3) S1 _ _ h2) (by decide) (by decide) (Nat.le_of_ble_eq_true rfl) rfl dL_law_157 ?_
  refine iv_icmp_eq (pc := 160) X dL_law_160 (tgt := 704) rfl (fun _ => ?_) (fun hb => absurd (hq1) hb)
  exact kk
set_option maxHeartbeats 4000000 in
set_option maxRecDepth 100000 in
theorem law_1 {p : Program} {l : Launch} {e : Env} {s : State} {m : MethodId} {below : List Frame} {meth : Method} {c0 : Code} {g : im_G} {ret : Option FieldType} {Q : State → Prop} {u v w B k1 k2 : Nat} {ad : Nat → Nat} {bc bs : Nat} {b L : Nat} {xs : Nat → Int32} {c : Nat → Int32} {i : Int32} (hlT : l.stackTraces = false) (hZ : ∀ V, g.2.2.2 V → im_Zs g V) (hZt : ∀ V, g.2.2.2 V → im_Zt g V) {q1 q2 : Nat} (hZu : ∀ V, g.2.2.2 V → im_Zu q1 q2 g V) (X : im_X p l s m #[Value.ref b] meth c0 g cL_law 8 RL ret) (hX : va_X b L xs s s.heap) (hbl : b < s.heap.size) (hbA : ¬ im_A g b) (hin : ∀ j : Nat, j < 10 → vp_in (i + nI j) L) (hc : ∀ j : Nat, j < 10 → xs (i + nI j).toNatClampNeg = c j) (fu : Nat) {S : im_S} {o1 : String ⊕ Int32} {S1 : im_S} (h1 : f_X10_compile fu  S = some (o1, S1)) (he1 : ∀ E, o1 = .inl E → E = xIAE) {r2 : Int32} {S2 : im_S} (h2 : f_X11_compile fu  (hs_compile o1 S1) = some (r2, S2)) {r3 : Int32} {S3 : im_S} (h3 : f_X11_thrown  S2 = some (r3, S3)) (hq1 : (r3 : Int32) = (hk_compile o1)) (hq3 : (¬ ((hk_compile o1 : Int32) ≠ 0)) → (lg_cmp (S3.2.1 134 (0 : Int32).toNatClampNeg) r2.toInt64 : Int32) = 0) (m1 : gP S ≤ gP S1) (m2 : gP S1 ≤ B) (b1 : (B - gP S) / 64 + (k1 + 1) ≤ bc) (b2 : 2 * B + (k2 + 6) ≤ 2 * gP S + bs) (kk : ∀ (ad : Nat → Nat) (bc bs : Nat), (B - gP S1) / 64 + k1 ≤ bc → 2 * B + k2 ≤ 2 * gP S1 + bs → im_V p l e room_1 s m #[Value.ref b] below meth c0 g 8 Q (fx u v w ad) im_N (im_cn g (fx u v w ad) S3) bc bs 704 [(0, .ref b), (1, .ref (fx u v w ad 0)), (2, .ref (fx u v w ad 75)), (3, .ref (fx u v w ad 134)), (4, .int i)] []) : im_V p l e room_1 s m #[Value.ref b] below meth c0 g 8 Q (fx u v w ad) im_N (im_cn g (fx u v w ad) S) bc bs 165 [(0, .ref b), (1, .ref (fx u v w ad 0)), (2, .ref (fx u v w ad 75)), (3, .ref (fx u v w ad 134)), (4, .int i)] [] := by
  refine iv_aload_n (pc := 165) X dL_law_165 rfl ?_
  refine iv_aload_n (pc := 166) X dL_law_166 rfl ?_
  refine is_callSL (pc := 167) X [.ref (fx u v w ad 0), .ref (fx u v w ad 134)] [] 2 rfl (hl_compile l g u v w ad hZt hZu hlT hZ fu  S _ _ h1 he1) wm_L_44 ws_yL_compile wn_L wcw_compile (by decide) (by decide) (by decide) (Nat.le_of_ble_eq_true rfl) rfl dL_law_167 m1 m2 b1 b2 (fun ad bc bs b1 b2 => ?_)
  refine iv_istore (pc := 170) X dL_law_170 (by decide) (lv' := [(5, .int (hk_compile o1)), (0, .ref b), (1, .ref (fx u v w ad 0)), (2, .ref (fx u v w ad 75)), (3, .ref (fx u v w ad 134)), (4, .int i)]) rfl ?_
  refine iv_aload_n (pc := 172) X dL_law_172 rfl ?_
  refine cV_L_49_75 (pc := 173) X [] [] 0 rfl (f_X11_compile_e l g (fx u v w ad) fu  (hs_compile o1 S1) _ _ h2) (by decide) (by decide) (Nat.le_of_ble_eq_true rfl) rfl dL_law_173 ?_
  refine iv_istore (pc := 176) X dL_law_176 (by decide) (lv' := [(6, .int r2), (5, .int (hk_compile o1)), (0, .ref b), (1, .ref (fx u v w ad 0)), (2, .ref (fx u v w ad 75)), (3, .ref (fx u v w ad 134)), (4, .int i)]) rfl ?_
  refine iv_aload_n (pc := 178) X dL_law_178 rfl ?_
  refine cV_L_50_75 (pc := 179) X [] [] 0 rfl (f_X11_thrown_e l g (fx u v w ad)  S2 _ _ h3) (by decide) (by decide) (Nat.le_of_ble_eq_true rfl) rfl dL_law_179 ?_
  refine iv_iload (pc := 182) X dL_law_182 rfl ?_
  refine iv_icmp_eq (pc := 184) X dL_law_184 (tgt := 189) rfl (fun _ => ?_) (fun hb => absurd (hq1) hb)
  refine iv_iload (pc := 189) X dL_law_189 rfl ?_
  refine iv_if_ne (pc := 191) X dL_law_191 (tgt := 206) rfl (fun hb2 => ?_) (fun hb2 => ?_)
  ·
    refine iv_goto (pc := 206) X dL_law_206 (tgt := 704) rfl ?_
    refine iv_sub [2, 3, 4, 5, 6] (lv2 := [(0, .ref b), (1, .ref (fx u v w ad 0)), (2, .ref (fx u v w ad 75)), (3, .ref (fx u v w ad 134)), (4, .int i)]) rfl ?_
    exact kk ad bc bs b1 b2
  ·
    refine iv_aload_n (pc := 194) X dL_law_194 rfl ?_
    refine iv_iconst (pc := 195) X dL_law_195 ic_0 ?_
    refine iv_lald (pc := 196) X dL_law_196 134 (by decide) rfl (in_b_vp (i := 0) (n := 1) (by decide)) ?_
    refine iv_iload (pc := 197) X dL_law_197 rfl ?_
    refine iv_i2l (pc := 199) X dL_law_199 rfl ?_
    refine iv_lcmp (pc := 200) X dL_law_200 ?_
    refine iv_if_eq (pc := 201) X dL_law_201 (tgt := 206) rfl (fun _ => ?_) (fun hb => absurd (hq3 hb2) hb)
    refine iv_goto (pc := 206) X dL_law_206 (tgt := 704) rfl ?_
    refine iv_sub [2, 3, 4, 5, 6] (lv2 := [(0, .ref b), (1, .ref (fx u v w ad 0)), (2, .ref (fx u v w ad 75)), (3, .ref (fx u v w ad 134)), (4, .int i)]) rfl ?_
    exact kk ad bc bs b1 b2
set_option maxHeartbeats 4000000 in
set_option maxRecDepth 100000 in
theorem law_2 {p : Program} {l : Launch} {e : Env} {s : State} {m : MethodId} {below : List Frame} {meth : Method} {c0 : Code} {g : im_G} {ret : Option FieldType} {Q : State → Prop} {u v w B k1 k2 : Nat} {ad : Nat → Nat} {bc bs : Nat} {b L : Nat} {xs : Nat → Int32} {c : Nat → Int32} {i : Int32} (hlT : l.stackTraces = false) (hZ : ∀ V, g.2.2.2 V → im_Zs g V) (hZt : ∀ V, g.2.2.2 V → im_Zt g V) {q1 q2 : Nat} (hZu : ∀ V, g.2.2.2 V → im_Zu q1 q2 g V) (X : im_X p l s m #[Value.ref b] meth c0 g cL_law 8 RL ret) (hX : va_X b L xs s s.heap) (hbl : b < s.heap.size) (hbA : ¬ im_A g b) (hin : ∀ j : Nat, j < 10 → vp_in (i + nI j) L) (hc : ∀ j : Nat, j < 10 → xs (i + nI j).toNatClampNeg = c j) (fu : Nat) {S : im_S} {r1 : Int32} {S1 : im_S} (h1 : f_X10_fault (c 1) S = some (r1, S1)) {r2 : Int32} {S2 : im_S} (h2 : f_X11_fault (c 1) S1 = some (r2, S2)) (hq1 : (r1 : Int32) = r2) (kk : im_V p l e room_1 s m #[Value.ref b] below meth c0 g 8 Q (fx u v w ad) im_N (im_cn g (fx u v w ad) S2) bc bs 704 [(0, .ref b), (1, .ref (fx u v w ad 0)), (2, .ref (fx u v w ad 75)), (3, .ref (fx u v w ad 134)), (4, .int i)] []) : im_V p l e room_1 s m #[Value.ref b] below meth c0 g 8 Q (fx u v w ad) im_N (im_cn g (fx u v w ad) S) bc bs 209 [(0, .ref b), (1, .ref (fx u v w ad 0)), (2, .ref (fx u v w ad 75)), (3, .ref (fx u v w ad 134)), (4, .int i)] [] := by
  have hn1 : vp_in (i + 1) L := hin 1 (by decide)
  have hx1 : xs (i + 1).toNatClampNeg = c 1 := hc 1 (by decide)
  refine iv_aload_n (pc := 209) X dL_law_209 rfl ?_
  refine iv_aload_n (pc := 210) X dL_law_210 rfl ?_
  refine iv_iload (pc := 211) X dL_law_211 rfl ?_
  refine iv_iconst (pc := 213) X dL_law_213 ic_1 ?_
  refine iv_iadd (pc := 214) X dL_law_214 ?_
  refine iv_sld (pc := 215) X hX hbl hbA dL_law_215 (hn1) (hx1) ?_
  refine cV_L_53_0 (pc := 216) X [.int (c 1)] [] 1 rfl (f_X10_fault_e l g (fx u v w ad) (c 1) S _ _ h1) (by decide) (by decide) (Nat.le_of_ble_eq_true rfl) rfl dL_law_216 ?_
  refine iv_aload_n (pc := 219) X dL_law_219 rfl ?_
  refine iv_aload_n (pc := 220) X dL_law_220 rfl ?_
  refine iv_iload (pc := 221) X dL_law_221 rfl ?_
  refine iv_iconst (pc := 223) X dL_law_223 ic_1 ?_
  refine iv_iadd (pc := 224) X dL_law_224 ?_
  refine iv_sld (pc := 225) X hX hbl hbA dL_law_225 (hn1) (hx1) ?_
  refine cV_L_57_75 (pc := 226) X [.int (c 1)] [.int r1] 1 rfl (f_X11_fault_e l g (fx u v w ad) (c 1) S1 _ _ h2) (by decide) (by decide) (Nat.le_of_ble_eq_true rfl) rfl dL_law_226 ?_
  refine iv_icmp_eq (pc := 229) X dL_law_229 (tgt := 704) rfl (fun _ => ?_) (fun hb => absurd (hq1) hb)
  exact kk
set_option maxHeartbeats 4000000 in
set_option maxRecDepth 100000 in
theorem law_3 {p : Program} {l : Launch} {e : Env} {s : State} {m : MethodId} {below : List Frame} {meth : Method} {c0 : Code} {g : im_G} {ret : Option FieldType} {Q : State → Prop} {u v w B k1 k2 : Nat} {ad : Nat → Nat} {bc bs : Nat} {b L : Nat} {xs : Nat → Int32} {c : Nat → Int32} {i : Int32} (hlT : l.stackTraces = false) (hZ : ∀ V, g.2.2.2 V → im_Zs g V) (hZt : ∀ V, g.2.2.2 V → im_Zt g V) {q1 q2 : Nat} (hZu : ∀ V, g.2.2.2 V → im_Zu q1 q2 g V) (X : im_X p l s m #[Value.ref b] meth c0 g cL_law 8 RL ret) (hX : va_X b L xs s s.heap) (hbl : b < s.heap.size) (hbA : ¬ im_A g b) (hin : ∀ j : Nat, j < 10 → vp_in (i + nI j) L) (hc : ∀ j : Nat, j < 10 → xs (i + nI j).toNatClampNeg = c j) (fu : Nat) {S : im_S} {r1 : Int32} {S1 : im_S} (h1 : f_X10_start fu (c 1) ((((c 2).toInt64) <<< ((32 : Int32).toInt64 &&& 63)) ||| (((c 3).toInt64) &&& 4294967295)) ((((c 4).toInt64) <<< ((32 : Int32).toInt64 &&& 63)) ||| (((c 5).toInt64) &&& 4294967295)) ((((c 6).toInt64) <<< ((32 : Int32).toInt64 &&& 63)) ||| (((c 7).toInt64) &&& 4294967295)) ((((c 8).toInt64) <<< ((32 : Int32).toInt64 &&& 63)) ||| (((c 9).toInt64) &&& 4294967295)) S = some (r1, S1)) {r2 : Int32} {S2 : im_S} (h2 : f_X11_start fu (c 1) ((((c 2).toInt64) <<< ((32 : Int32).toInt64 &&& 63)) ||| (((c 3).toInt64) &&& 4294967295)) ((((c 4).toInt64) <<< ((32 : Int32).toInt64 &&& 63)) ||| (((c 5).toInt64) &&& 4294967295)) ((((c 6).toInt64) <<< ((32 : Int32).toInt64 &&& 63)) ||| (((c 7).toInt64) &&& 4294967295)) ((((c 8).toInt64) <<< ((32 : Int32).toInt64 &&& 63)) ||| (((c 9).toInt64) &&& 4294967295)) S1 = some (r2, S2)) (hq1 : (r1 : Int32) = r2) (m1 : gP S ≤ gP S1) (m2 : gP S1 ≤ B) (b1 : (B - gP S) / 64 + (k1 + 1) ≤ bc) (b2 : 2 * B + (k2 + 6) ≤ 2 * gP S + bs) (kk : ∀ (ad : Nat → Nat) (bc bs : Nat), (B - gP S1) / 64 + k1 ≤ bc → 2 * B + k2 ≤ 2 * gP S1 + bs → im_V p l e room_1 s m #[Value.ref b] below meth c0 g 8 Q (fx u v w ad) im_N (im_cn g (fx u v w ad) S2) bc bs 704 [(0, .ref b), (1, .ref (fx u v w ad 0)), (2, .ref (fx u v w ad 75)), (3, .ref (fx u v w ad 134)), (4, .int i)] []) : im_V p l e room_1 s m #[Value.ref b] below meth c0 g 8 Q (fx u v w ad) im_N (im_cn g (fx u v w ad) S) bc bs 234 [(0, .ref b), (1, .ref (fx u v w ad 0)), (2, .ref (fx u v w ad 75)), (3, .ref (fx u v w ad 134)), (4, .int i)] [] := by
  have hn1 : vp_in (i + 1) L := hin 1 (by decide)
  have hx1 : xs (i + 1).toNatClampNeg = c 1 := hc 1 (by decide)
  have hn2 : vp_in (i + 2) L := hin 2 (by decide)
  have hx2 : xs (i + 2).toNatClampNeg = c 2 := hc 2 (by decide)
  have hn3 : vp_in (i + 3) L := hin 3 (by decide)
  have hx3 : xs (i + 3).toNatClampNeg = c 3 := hc 3 (by decide)
  have hn4 : vp_in (i + 4) L := hin 4 (by decide)
  have hx4 : xs (i + 4).toNatClampNeg = c 4 := hc 4 (by decide)
  have hn5 : vp_in (i + 5) L := hin 5 (by decide)
  have hx5 : xs (i + 5).toNatClampNeg = c 5 := hc 5 (by decide)
  have hn6 : vp_in (i + 6) L := hin 6 (by decide)
  have hx6 : xs (i + 6).toNatClampNeg = c 6 := hc 6 (by decide)
  have hn7 : vp_in (i + 7) L := hin 7 (by decide)
  have hx7 : xs (i + 7).toNatClampNeg = c 7 := hc 7 (by decide)
  have hn8 : vp_in (i + 8) L := hin 8 (by decide)
  have hx8 : xs (i + 8).toNatClampNeg = c 8 := hc 8 (by decide)
  have hn9 : vp_in (i + 9) L := hin 9 (by decide)
  have hx9 : xs (i + 9).toNatClampNeg = c 9 := hc 9 (by decide)
  refine iv_aload_n (pc := 234) X dL_law_234 rfl ?_
  refine iv_aload_n (pc := 235) X dL_law_235 rfl ?_
  refine iv_iload (pc := 236) X dL_law_236 rfl ?_
  refine iv_iconst (pc := 238) X dL_law_238 ic_1 ?_
  refine iv_iadd (pc := 239) X dL_law_239 ?_
  refine iv_sld (pc := 240) X hX hbl hbA dL_law_240 (hn1) (hx1) ?_
  refine iv_aload_n (pc := 241) X dL_law_241 rfl ?_
  refine iv_iload (pc := 242) X dL_law_242 rfl ?_
  refine iv_iconst (pc := 244) X dL_law_244 ic_2 ?_
  refine iv_iadd (pc := 245) X dL_law_245 ?_
  refine iv_sld (pc := 246) X hX hbl hbA dL_law_246 (hn2) (hx2) ?_
  refine iv_i2l (pc := 247) X dL_law_247 rfl ?_
  refine iv_bipush (pc := 248) X dL_law_248 bc_32 ?_
  refine iv_lshl (pc := 250) X dL_law_250 rfl ?_
  refine iv_aload_n (pc := 251) X dL_law_251 rfl ?_
  refine iv_iload (pc := 252) X dL_law_252 rfl ?_
  refine iv_iconst (pc := 254) X dL_law_254 ic_3 ?_
  refine iv_iadd (pc := 255) X dL_law_255 ?_
  refine iv_sld (pc := 256) X hX hbl hbA dL_law_256 (hn3) (hx3) ?_
  refine iv_i2l (pc := 257) X dL_law_257 rfl ?_
  refine iv_ldc2 (pc := 258) X wk_L_37 dL_law_258 ?_
  refine iv_land (pc := 261) X dL_law_261 ?_
  refine iv_lor (pc := 262) X dL_law_262 ?_
  refine iv_aload_n (pc := 263) X dL_law_263 rfl ?_
  refine iv_iload (pc := 264) X dL_law_264 rfl ?_
  refine iv_iconst (pc := 266) X dL_law_266 ic_4 ?_
  refine iv_iadd (pc := 267) X dL_law_267 ?_
  refine iv_sld (pc := 268) X hX hbl hbA dL_law_268 (hn4) (hx4) ?_
  refine iv_i2l (pc := 269) X dL_law_269 rfl ?_
  refine iv_bipush (pc := 270) X dL_law_270 bc_32 ?_
  refine iv_lshl (pc := 272) X dL_law_272 rfl ?_
  refine iv_aload_n (pc := 273) X dL_law_273 rfl ?_
  refine iv_iload (pc := 274) X dL_law_274 rfl ?_
  refine iv_iconst (pc := 276) X dL_law_276 ic_5 ?_
  refine iv_iadd (pc := 277) X dL_law_277 ?_
  refine iv_sld (pc := 278) X hX hbl hbA dL_law_278 (hn5) (hx5) ?_
  refine iv_i2l (pc := 279) X dL_law_279 rfl ?_
  refine iv_ldc2 (pc := 280) X wk_L_37 dL_law_280 ?_
  refine iv_land (pc := 283) X dL_law_283 ?_
  refine iv_lor (pc := 284) X dL_law_284 ?_
  refine iv_aload_n (pc := 285) X dL_law_285 rfl ?_
  refine iv_iload (pc := 286) X dL_law_286 rfl ?_
  refine iv_bipush (pc := 288) X dL_law_288 bc_6 ?_
  refine iv_iadd (pc := 290) X dL_law_290 ?_
  refine iv_sld (pc := 291) X hX hbl hbA dL_law_291 (hn6) (hx6) ?_
  refine iv_i2l (pc := 292) X dL_law_292 rfl ?_
  refine iv_bipush (pc := 293) X dL_law_293 bc_32 ?_
  refine iv_lshl (pc := 295) X dL_law_295 rfl ?_
  refine iv_aload_n (pc := 296) X dL_law_296 rfl ?_
  refine iv_iload (pc := 297) X dL_law_297 rfl ?_
  refine iv_bipush (pc := 299) X dL_law_299 bc_7 ?_
  refine iv_iadd (pc := 301) X dL_law_301 ?_
  refine iv_sld (pc := 302) X hX hbl hbA dL_law_302 (hn7) (hx7) ?_
  refine iv_i2l (pc := 303) X dL_law_303 rfl ?_
  refine iv_ldc2 (pc := 304) X wk_L_37 dL_law_304 ?_
  refine iv_land (pc := 307) X dL_law_307 ?_
  refine iv_lor (pc := 308) X dL_law_308 ?_
  refine iv_aload_n (pc := 309) X dL_law_309 rfl ?_
  refine iv_iload (pc := 310) X dL_law_310 rfl ?_
  refine iv_bipush (pc := 312) X dL_law_312 bc_8 ?_
  refine iv_iadd (pc := 314) X dL_law_314 ?_
  refine iv_sld (pc := 315) X hX hbl hbA dL_law_315 (hn8) (hx8) ?_
  refine iv_i2l (pc := 316) X dL_law_316 rfl ?_
  refine iv_bipush (pc := 317) X dL_law_317 bc_32 ?_
  refine iv_lshl (pc := 319) X dL_law_319 rfl ?_
  refine iv_aload_n (pc := 320) X dL_law_320 rfl ?_
  refine iv_iload (pc := 321) X dL_law_321 rfl ?_
  refine iv_bipush (pc := 323) X dL_law_323 bc_9 ?_
  refine iv_iadd (pc := 325) X dL_law_325 ?_
  refine iv_sld (pc := 326) X hX hbl hbA dL_law_326 (hn9) (hx9) ?_
  refine iv_i2l (pc := 327) X dL_law_327 rfl ?_
  refine iv_ldc2 (pc := 328) X wk_L_37 dL_law_328 ?_
  refine iv_land (pc := 331) X dL_law_331 ?_
  refine iv_lor (pc := 332) X dL_law_332 ?_
  refine is_callVL (pc := 333) X 12 (i0 := 0) [.int (c 1), .long ((((c 2).toInt64) <<< ((32 : Int32).toInt64 &&& 63)) ||| (((c 3).toInt64) &&& 4294967295)), .long ((((c 4).toInt64) <<< ((32 : Int32).toInt64 &&& 63)) ||| (((c 5).toInt64) &&& 4294967295)), .long ((((c 6).toInt64) <<< ((32 : Int32).toInt64 &&& 63)) ||| (((c 7).toInt64) &&& 4294967295)), .long ((((c 8).toInt64) <<< ((32 : Int32).toInt64 &&& 63)) ||| (((c 9).toInt64) &&& 4294967295))] [] 5 rfl (f_X10_start_e l g (fx u v w ad) fu (c 1) ((((c 2).toInt64) <<< ((32 : Int32).toInt64 &&& 63)) ||| (((c 3).toInt64) &&& 4294967295)) ((((c 4).toInt64) <<< ((32 : Int32).toInt64 &&& 63)) ||| (((c 5).toInt64) &&& 4294967295)) ((((c 6).toInt64) <<< ((32 : Int32).toInt64 &&& 63)) ||| (((c 7).toInt64) &&& 4294967295)) ((((c 8).toInt64) <<< ((32 : Int32).toInt64 &&& 63)) ||| (((c 9).toInt64) &&& 4294967295)) S _ _ h1) rfl (by decide) rfl wm_L_58 wi_yX10_start we_yX10_start wn_X10 wc_yX10_start (by decide) (by decide) (by decide) (Nat.le_of_ble_eq_true rfl) rfl dL_law_333 m1 m2 b1 b2 (fun ad bc bs b1 b2 => ?_)
  refine iv_aload_n (pc := 336) X dL_law_336 rfl ?_
  refine iv_aload_n (pc := 337) X dL_law_337 rfl ?_
  refine iv_iload (pc := 338) X dL_law_338 rfl ?_
  refine iv_iconst (pc := 340) X dL_law_340 ic_1 ?_
  refine iv_iadd (pc := 341) X dL_law_341 ?_
  refine iv_sld (pc := 342) X hX hbl hbA dL_law_342 (hn1) (hx1) ?_
  refine iv_aload_n (pc := 343) X dL_law_343 rfl ?_
  refine iv_iload (pc := 344) X dL_law_344 rfl ?_
  refine iv_iconst (pc := 346) X dL_law_346 ic_2 ?_
  refine iv_iadd (pc := 347) X dL_law_347 ?_
  refine iv_sld (pc := 348) X hX hbl hbA dL_law_348 (hn2) (hx2) ?_
  refine iv_i2l (pc := 349) X dL_law_349 rfl ?_
  refine iv_bipush (pc := 350) X dL_law_350 bc_32 ?_
  refine iv_lshl (pc := 352) X dL_law_352 rfl ?_
  refine iv_aload_n (pc := 353) X dL_law_353 rfl ?_
  refine iv_iload (pc := 354) X dL_law_354 rfl ?_
  refine iv_iconst (pc := 356) X dL_law_356 ic_3 ?_
  refine iv_iadd (pc := 357) X dL_law_357 ?_
  refine iv_sld (pc := 358) X hX hbl hbA dL_law_358 (hn3) (hx3) ?_
  refine iv_i2l (pc := 359) X dL_law_359 rfl ?_
  refine iv_ldc2 (pc := 360) X wk_L_37 dL_law_360 ?_
  refine iv_land (pc := 363) X dL_law_363 ?_
  refine iv_lor (pc := 364) X dL_law_364 ?_
  refine iv_aload_n (pc := 365) X dL_law_365 rfl ?_
  refine iv_iload (pc := 366) X dL_law_366 rfl ?_
  refine iv_iconst (pc := 368) X dL_law_368 ic_4 ?_
  refine iv_iadd (pc := 369) X dL_law_369 ?_
  refine iv_sld (pc := 370) X hX hbl hbA dL_law_370 (hn4) (hx4) ?_
  refine iv_i2l (pc := 371) X dL_law_371 rfl ?_
  refine iv_bipush (pc := 372) X dL_law_372 bc_32 ?_
  refine iv_lshl (pc := 374) X dL_law_374 rfl ?_
  refine iv_aload_n (pc := 375) X dL_law_375 rfl ?_
  refine iv_iload (pc := 376) X dL_law_376 rfl ?_
  refine iv_iconst (pc := 378) X dL_law_378 ic_5 ?_
  refine iv_iadd (pc := 379) X dL_law_379 ?_
  refine iv_sld (pc := 380) X hX hbl hbA dL_law_380 (hn5) (hx5) ?_
  refine iv_i2l (pc := 381) X dL_law_381 rfl ?_
  refine iv_ldc2 (pc := 382) X wk_L_37 dL_law_382 ?_
  refine iv_land (pc := 385) X dL_law_385 ?_
  refine iv_lor (pc := 386) X dL_law_386 ?_
  refine iv_aload_n (pc := 387) X dL_law_387 rfl ?_
  refine iv_iload (pc := 388) X dL_law_388 rfl ?_
  refine iv_bipush (pc := 390) X dL_law_390 bc_6 ?_
  refine iv_iadd (pc := 392) X dL_law_392 ?_
  refine iv_sld (pc := 393) X hX hbl hbA dL_law_393 (hn6) (hx6) ?_
  refine iv_i2l (pc := 394) X dL_law_394 rfl ?_
  refine iv_bipush (pc := 395) X dL_law_395 bc_32 ?_
  refine iv_lshl (pc := 397) X dL_law_397 rfl ?_
  refine iv_aload_n (pc := 398) X dL_law_398 rfl ?_
  refine iv_iload (pc := 399) X dL_law_399 rfl ?_
  refine iv_bipush (pc := 401) X dL_law_401 bc_7 ?_
  refine iv_iadd (pc := 403) X dL_law_403 ?_
  refine iv_sld (pc := 404) X hX hbl hbA dL_law_404 (hn7) (hx7) ?_
  refine iv_i2l (pc := 405) X dL_law_405 rfl ?_
  refine iv_ldc2 (pc := 406) X wk_L_37 dL_law_406 ?_
  refine iv_land (pc := 409) X dL_law_409 ?_
  refine iv_lor (pc := 410) X dL_law_410 ?_
  refine iv_aload_n (pc := 411) X dL_law_411 rfl ?_
  refine iv_iload (pc := 412) X dL_law_412 rfl ?_
  refine iv_bipush (pc := 414) X dL_law_414 bc_8 ?_
  refine iv_iadd (pc := 416) X dL_law_416 ?_
  refine iv_sld (pc := 417) X hX hbl hbA dL_law_417 (hn8) (hx8) ?_
  refine iv_i2l (pc := 418) X dL_law_418 rfl ?_
  refine iv_bipush (pc := 419) X dL_law_419 bc_32 ?_
  refine iv_lshl (pc := 421) X dL_law_421 rfl ?_
  refine iv_aload_n (pc := 422) X dL_law_422 rfl ?_
  refine iv_iload (pc := 423) X dL_law_423 rfl ?_
  refine iv_bipush (pc := 425) X dL_law_425 bc_9 ?_
  refine iv_iadd (pc := 427) X dL_law_427 ?_
  refine iv_sld (pc := 428) X hX hbl hbA dL_law_428 (hn9) (hx9) ?_
  refine iv_i2l (pc := 429) X dL_law_429 rfl ?_
  refine iv_ldc2 (pc := 430) X wk_L_37 dL_law_430 ?_
  refine iv_land (pc := 433) X dL_law_433 ?_
  refine iv_lor (pc := 434) X dL_law_434 ?_
  refine cV_L_62_75 (pc := 435) X [.int (c 1), .long ((((c 2).toInt64) <<< ((32 : Int32).toInt64 &&& 63)) ||| (((c 3).toInt64) &&& 4294967295)), .long ((((c 4).toInt64) <<< ((32 : Int32).toInt64 &&& 63)) ||| (((c 5).toInt64) &&& 4294967295)), .long ((((c 6).toInt64) <<< ((32 : Int32).toInt64 &&& 63)) ||| (((c 7).toInt64) &&& 4294967295)), .long ((((c 8).toInt64) <<< ((32 : Int32).toInt64 &&& 63)) ||| (((c 9).toInt64) &&& 4294967295))] [.int r1] 5 rfl (f_X11_start_e l g (fx u v w ad) fu (c 1) ((((c 2).toInt64) <<< ((32 : Int32).toInt64 &&& 63)) ||| (((c 3).toInt64) &&& 4294967295)) ((((c 4).toInt64) <<< ((32 : Int32).toInt64 &&& 63)) ||| (((c 5).toInt64) &&& 4294967295)) ((((c 6).toInt64) <<< ((32 : Int32).toInt64 &&& 63)) ||| (((c 7).toInt64) &&& 4294967295)) ((((c 8).toInt64) <<< ((32 : Int32).toInt64 &&& 63)) ||| (((c 9).toInt64) &&& 4294967295)) S1 _ _ h2) (by decide) (by decide) (Nat.le_of_ble_eq_true rfl) rfl dL_law_435 ?_
  refine iv_icmp_eq (pc := 438) X dL_law_438 (tgt := 704) rfl (fun _ => ?_) (fun hb => absurd (hq1) hb)
  exact kk ad bc bs b1 b2
set_option maxHeartbeats 4000000 in
set_option maxRecDepth 100000 in
theorem law_4 {p : Program} {l : Launch} {e : Env} {s : State} {m : MethodId} {below : List Frame} {meth : Method} {c0 : Code} {g : im_G} {ret : Option FieldType} {Q : State → Prop} {u v w B k1 k2 : Nat} {ad : Nat → Nat} {bc bs : Nat} {b L : Nat} {xs : Nat → Int32} {c : Nat → Int32} {i : Int32} (hlT : l.stackTraces = false) (hZ : ∀ V, g.2.2.2 V → im_Zs g V) (hZt : ∀ V, g.2.2.2 V → im_Zt g V) {q1 q2 : Nat} (hZu : ∀ V, g.2.2.2 V → im_Zu q1 q2 g V) (X : im_X p l s m #[Value.ref b] meth c0 g cL_law 8 RL ret) (hX : va_X b L xs s s.heap) (hbl : b < s.heap.size) (hbA : ¬ im_A g b) (hin : ∀ j : Nat, j < 10 → vp_in (i + nI j) L) (hc : ∀ j : Nat, j < 10 → xs (i + nI j).toNatClampNeg = c j) (fu : Nat) {S : im_S} {o1 : String ⊕ Int32} {S1 : im_S} (h1 : f_X10_fire fu (c 1) ((((c 2).toInt64) <<< ((32 : Int32).toInt64 &&& 63)) ||| (((c 3).toInt64) &&& 4294967295)) S = some (o1, S1)) (he1 : ∀ E, o1 = .inl E → E = xISE ∨ E = xIAE ∨ E = xAE) {r2 : Int32} {S2 : im_S} (h2 : f_X11_fire (c 1) ((((c 2).toInt64) <<< ((32 : Int32).toInt64 &&& 63)) ||| (((c 3).toInt64) &&& 4294967295)) (hs_fire o1 S1) = some (r2, S2)) {r3 : Int32} {S3 : im_S} (h3 : f_X11_thrown  S2 = some (r3, S3)) (hq1 : (r3 : Int32) = (hk_fire o1)) (hq3 : (¬ ((hk_fire o1 : Int32) ≠ 0)) → (lg_cmp (S3.2.1 134 (0 : Int32).toNatClampNeg) r2.toInt64 : Int32) = 0) (m1 : gP S ≤ gP S1) (m2 : gP S1 ≤ B) (b1 : (B - gP S) / 64 + (k1 + 1) ≤ bc) (b2 : 2 * B + (k2 + 6) ≤ 2 * gP S + bs) (kk : ∀ (ad : Nat → Nat) (bc bs : Nat), (B - gP S1) / 64 + k1 ≤ bc → 2 * B + k2 ≤ 2 * gP S1 + bs → im_V p l e room_1 s m #[Value.ref b] below meth c0 g 8 Q (fx u v w ad) im_N (im_cn g (fx u v w ad) S3) bc bs 704 [(0, .ref b), (1, .ref (fx u v w ad 0)), (2, .ref (fx u v w ad 75)), (3, .ref (fx u v w ad 134)), (4, .int i)] []) : im_V p l e room_1 s m #[Value.ref b] below meth c0 g 8 Q (fx u v w ad) im_N (im_cn g (fx u v w ad) S) bc bs 443 [(0, .ref b), (1, .ref (fx u v w ad 0)), (2, .ref (fx u v w ad 75)), (3, .ref (fx u v w ad 134)), (4, .int i)] [] := by
  have hn1 : vp_in (i + 1) L := hin 1 (by decide)
  have hx1 : xs (i + 1).toNatClampNeg = c 1 := hc 1 (by decide)
  have hn2 : vp_in (i + 2) L := hin 2 (by decide)
  have hx2 : xs (i + 2).toNatClampNeg = c 2 := hc 2 (by decide)
  have hn3 : vp_in (i + 3) L := hin 3 (by decide)
  have hx3 : xs (i + 3).toNatClampNeg = c 3 := hc 3 (by decide)
  refine iv_aload_n (pc := 443) X dL_law_443 rfl ?_
  refine iv_aload_n (pc := 444) X dL_law_444 rfl ?_
  refine iv_iload (pc := 445) X dL_law_445 rfl ?_
  refine iv_iconst (pc := 447) X dL_law_447 ic_1 ?_
  refine iv_iadd (pc := 448) X dL_law_448 ?_
  refine iv_sld (pc := 449) X hX hbl hbA dL_law_449 (hn1) (hx1) ?_
  refine iv_aload_n (pc := 450) X dL_law_450 rfl ?_
  refine iv_iload (pc := 451) X dL_law_451 rfl ?_
  refine iv_iconst (pc := 453) X dL_law_453 ic_2 ?_
  refine iv_iadd (pc := 454) X dL_law_454 ?_
  refine iv_sld (pc := 455) X hX hbl hbA dL_law_455 (hn2) (hx2) ?_
  refine iv_i2l (pc := 456) X dL_law_456 rfl ?_
  refine iv_bipush (pc := 457) X dL_law_457 bc_32 ?_
  refine iv_lshl (pc := 459) X dL_law_459 rfl ?_
  refine iv_aload_n (pc := 460) X dL_law_460 rfl ?_
  refine iv_iload (pc := 461) X dL_law_461 rfl ?_
  refine iv_iconst (pc := 463) X dL_law_463 ic_3 ?_
  refine iv_iadd (pc := 464) X dL_law_464 ?_
  refine iv_sld (pc := 465) X hX hbl hbA dL_law_465 (hn3) (hx3) ?_
  refine iv_i2l (pc := 466) X dL_law_466 rfl ?_
  refine iv_ldc2 (pc := 467) X wk_L_37 dL_law_467 ?_
  refine iv_land (pc := 470) X dL_law_470 ?_
  refine iv_lor (pc := 471) X dL_law_471 ?_
  refine iv_aload_n (pc := 472) X dL_law_472 rfl ?_
  refine is_callSL (pc := 473) X [.ref (fx u v w ad 0), .int (c 1), .long ((((c 2).toInt64) <<< ((32 : Int32).toInt64 &&& 63)) ||| (((c 3).toInt64) &&& 4294967295)), .ref (fx u v w ad 134)] [] 4 rfl (hl_fire l g u v w ad hlT hZ fu (c 1) ((((c 2).toInt64) <<< ((32 : Int32).toInt64 &&& 63)) ||| (((c 3).toInt64) &&& 4294967295)) S _ _ h1 he1) wm_L_63 ws_yL_fire wn_L wcw_fire (by decide) (by decide) (by decide) (Nat.le_of_ble_eq_true rfl) rfl dL_law_473 m1 m2 b1 b2 (fun ad bc bs b1 b2 => ?_)
  refine iv_istore (pc := 476) X dL_law_476 (by decide) (lv' := [(5, .int (hk_fire o1)), (0, .ref b), (1, .ref (fx u v w ad 0)), (2, .ref (fx u v w ad 75)), (3, .ref (fx u v w ad 134)), (4, .int i)]) rfl ?_
  refine iv_aload_n (pc := 478) X dL_law_478 rfl ?_
  refine iv_aload_n (pc := 479) X dL_law_479 rfl ?_
  refine iv_iload (pc := 480) X dL_law_480 rfl ?_
  refine iv_iconst (pc := 482) X dL_law_482 ic_1 ?_
  refine iv_iadd (pc := 483) X dL_law_483 ?_
  refine iv_sld (pc := 484) X hX hbl hbA dL_law_484 (hn1) (hx1) ?_
  refine iv_aload_n (pc := 485) X dL_law_485 rfl ?_
  refine iv_iload (pc := 486) X dL_law_486 rfl ?_
  refine iv_iconst (pc := 488) X dL_law_488 ic_2 ?_
  refine iv_iadd (pc := 489) X dL_law_489 ?_
  refine iv_sld (pc := 490) X hX hbl hbA dL_law_490 (hn2) (hx2) ?_
  refine iv_i2l (pc := 491) X dL_law_491 rfl ?_
  refine iv_bipush (pc := 492) X dL_law_492 bc_32 ?_
  refine iv_lshl (pc := 494) X dL_law_494 rfl ?_
  refine iv_aload_n (pc := 495) X dL_law_495 rfl ?_
  refine iv_iload (pc := 496) X dL_law_496 rfl ?_
  refine iv_iconst (pc := 498) X dL_law_498 ic_3 ?_
  refine iv_iadd (pc := 499) X dL_law_499 ?_
  refine iv_sld (pc := 500) X hX hbl hbA dL_law_500 (hn3) (hx3) ?_
  refine iv_i2l (pc := 501) X dL_law_501 rfl ?_
  refine iv_ldc2 (pc := 502) X wk_L_37 dL_law_502 ?_
  refine iv_land (pc := 505) X dL_law_505 ?_
  refine iv_lor (pc := 506) X dL_law_506 ?_
  refine cV_L_66_75 (pc := 507) X [.int (c 1), .long ((((c 2).toInt64) <<< ((32 : Int32).toInt64 &&& 63)) ||| (((c 3).toInt64) &&& 4294967295))] [] 2 rfl (f_X11_fire_e l g (fx u v w ad) (c 1) ((((c 2).toInt64) <<< ((32 : Int32).toInt64 &&& 63)) ||| (((c 3).toInt64) &&& 4294967295)) (hs_fire o1 S1) _ _ h2) (by decide) (by decide) (Nat.le_of_ble_eq_true rfl) rfl dL_law_507 ?_
  refine iv_istore (pc := 510) X dL_law_510 (by decide) (lv' := [(6, .int r2), (5, .int (hk_fire o1)), (0, .ref b), (1, .ref (fx u v w ad 0)), (2, .ref (fx u v w ad 75)), (3, .ref (fx u v w ad 134)), (4, .int i)]) rfl ?_
  refine iv_aload_n (pc := 512) X dL_law_512 rfl ?_
  refine cV_L_50_75 (pc := 513) X [] [] 0 rfl (f_X11_thrown_e l g (fx u v w ad)  S2 _ _ h3) (by decide) (by decide) (Nat.le_of_ble_eq_true rfl) rfl dL_law_513 ?_
  refine iv_iload (pc := 516) X dL_law_516 rfl ?_
  refine iv_icmp_eq (pc := 518) X dL_law_518 (tgt := 523) rfl (fun _ => ?_) (fun hb => absurd (hq1) hb)
  refine iv_iload (pc := 523) X dL_law_523 rfl ?_
  refine iv_if_ne (pc := 525) X dL_law_525 (tgt := 540) rfl (fun hb2 => ?_) (fun hb2 => ?_)
  ·
    refine iv_goto (pc := 540) X dL_law_540 (tgt := 704) rfl ?_
    refine iv_sub [2, 3, 4, 5, 6] (lv2 := [(0, .ref b), (1, .ref (fx u v w ad 0)), (2, .ref (fx u v w ad 75)), (3, .ref (fx u v w ad 134)), (4, .int i)]) rfl ?_
    exact kk ad bc bs b1 b2
  ·
    refine iv_aload_n (pc := 528) X dL_law_528 rfl ?_
    refine iv_iconst (pc := 529) X dL_law_529 ic_0 ?_
    refine iv_lald (pc := 530) X dL_law_530 134 (by decide) rfl (in_b_vp (i := 0) (n := 1) (by decide)) ?_
    refine iv_iload (pc := 531) X dL_law_531 rfl ?_
    refine iv_i2l (pc := 533) X dL_law_533 rfl ?_
    refine iv_lcmp (pc := 534) X dL_law_534 ?_
    refine iv_if_eq (pc := 535) X dL_law_535 (tgt := 540) rfl (fun _ => ?_) (fun hb => absurd (hq3 hb2) hb)
    refine iv_goto (pc := 540) X dL_law_540 (tgt := 704) rfl ?_
    refine iv_sub [2, 3, 4, 5, 6] (lv2 := [(0, .ref b), (1, .ref (fx u v w ad 0)), (2, .ref (fx u v w ad 75)), (3, .ref (fx u v w ad 134)), (4, .int i)]) rfl ?_
    exact kk ad bc bs b1 b2
set_option maxHeartbeats 4000000 in
set_option maxRecDepth 100000 in
theorem law_5 {p : Program} {l : Launch} {e : Env} {s : State} {m : MethodId} {below : List Frame} {meth : Method} {c0 : Code} {g : im_G} {ret : Option FieldType} {Q : State → Prop} {u v w B k1 k2 : Nat} {ad : Nat → Nat} {bc bs : Nat} {b L : Nat} {xs : Nat → Int32} {c : Nat → Int32} {i : Int32} (hlT : l.stackTraces = false) (hZ : ∀ V, g.2.2.2 V → im_Zs g V) (hZt : ∀ V, g.2.2.2 V → im_Zt g V) {q1 q2 : Nat} (hZu : ∀ V, g.2.2.2 V → im_Zu q1 q2 g V) (X : im_X p l s m #[Value.ref b] meth c0 g cL_law 8 RL ret) (hX : va_X b L xs s s.heap) (hbl : b < s.heap.size) (hbA : ¬ im_A g b) (hin : ∀ j : Nat, j < 10 → vp_in (i + nI j) L) (hc : ∀ j : Nat, j < 10 → xs (i + nI j).toNatClampNeg = c j) (fu : Nat) {S : im_S} {r1 : Int32} {S1 : im_S} (h1 : f_X10_state  S = some (r1, S1)) {r2 : Int32} {S2 : im_S} (h2 : f_X11_state  S1 = some (r2, S2)) (hq1 : (r1 : Int32) = r2) (kk : im_V p l e room_1 s m #[Value.ref b] below meth c0 g 8 Q (fx u v w ad) im_N (im_cn g (fx u v w ad) S2) bc bs 704 [(0, .ref b), (1, .ref (fx u v w ad 0)), (2, .ref (fx u v w ad 75)), (3, .ref (fx u v w ad 134)), (4, .int i)] []) : im_V p l e room_1 s m #[Value.ref b] below meth c0 g 8 Q (fx u v w ad) im_N (im_cn g (fx u v w ad) S) bc bs 543 [(0, .ref b), (1, .ref (fx u v w ad 0)), (2, .ref (fx u v w ad 75)), (3, .ref (fx u v w ad 134)), (4, .int i)] [] := by
  refine iv_aload_n (pc := 543) X dL_law_543 rfl ?_
  refine cV_L_67_0 (pc := 544) X [] [] 0 rfl (f_X10_state_e l g (fx u v w ad)  S _ _ h1) (by decide) (by decide) (Nat.le_of_ble_eq_true rfl) rfl dL_law_544 ?_
  refine iv_aload_n (pc := 547) X dL_law_547 rfl ?_
  refine cV_L_70_75 (pc := 548) X [] [.int r1] 0 rfl (f_X11_state_e l g (fx u v w ad)  S1 _ _ h2) (by decide) (by decide) (Nat.le_of_ble_eq_true rfl) rfl dL_law_548 ?_
  refine iv_icmp_eq (pc := 551) X dL_law_551 (tgt := 704) rfl (fun _ => ?_) (fun hb => absurd (hq1) hb)
  exact kk
set_option maxHeartbeats 4000000 in
set_option maxRecDepth 100000 in
theorem law_6 {p : Program} {l : Launch} {e : Env} {s : State} {m : MethodId} {below : List Frame} {meth : Method} {c0 : Code} {g : im_G} {ret : Option FieldType} {Q : State → Prop} {u v w B k1 k2 : Nat} {ad : Nat → Nat} {bc bs : Nat} {b L : Nat} {xs : Nat → Int32} {c : Nat → Int32} {i : Int32} (hlT : l.stackTraces = false) (hZ : ∀ V, g.2.2.2 V → im_Zs g V) (hZt : ∀ V, g.2.2.2 V → im_Zt g V) {q1 q2 : Nat} (hZu : ∀ V, g.2.2.2 V → im_Zu q1 q2 g V) (X : im_X p l s m #[Value.ref b] meth c0 g cL_law 8 RL ret) (hX : va_X b L xs s s.heap) (hbl : b < s.heap.size) (hbA : ¬ im_A g b) (hin : ∀ j : Nat, j < 10 → vp_in (i + nI j) L) (hc : ∀ j : Nat, j < 10 → xs (i + nI j).toNatClampNeg = c j) (fu : Nat) {S : im_S} {r1 : Int32} {S1 : im_S} (h1 : f_X10_kind  S = some (r1, S1)) {r2 : Int32} {S2 : im_S} (h2 : f_X11_kind  S1 = some (r2, S2)) (hq1 : (r1 : Int32) = r2) (kk : im_V p l e room_1 s m #[Value.ref b] below meth c0 g 8 Q (fx u v w ad) im_N (im_cn g (fx u v w ad) S2) bc bs 704 [(0, .ref b), (1, .ref (fx u v w ad 0)), (2, .ref (fx u v w ad 75)), (3, .ref (fx u v w ad 134)), (4, .int i)] []) : im_V p l e room_1 s m #[Value.ref b] below meth c0 g 8 Q (fx u v w ad) im_N (im_cn g (fx u v w ad) S) bc bs 556 [(0, .ref b), (1, .ref (fx u v w ad 0)), (2, .ref (fx u v w ad 75)), (3, .ref (fx u v w ad 134)), (4, .int i)] [] := by
  refine iv_aload_n (pc := 556) X dL_law_556 rfl ?_
  refine cV_L_71_0 (pc := 557) X [] [] 0 rfl (f_X10_kind_e l g (fx u v w ad)  S _ _ h1) (by decide) (by decide) (Nat.le_of_ble_eq_true rfl) rfl dL_law_557 ?_
  refine iv_aload_n (pc := 560) X dL_law_560 rfl ?_
  refine cV_L_74_75 (pc := 561) X [] [.int r1] 0 rfl (f_X11_kind_e l g (fx u v w ad)  S1 _ _ h2) (by decide) (by decide) (Nat.le_of_ble_eq_true rfl) rfl dL_law_561 ?_
  refine iv_icmp_eq (pc := 564) X dL_law_564 (tgt := 704) rfl (fun _ => ?_) (fun hb => absurd (hq1) hb)
  exact kk
set_option maxHeartbeats 4000000 in
set_option maxRecDepth 100000 in
theorem law_7 {p : Program} {l : Launch} {e : Env} {s : State} {m : MethodId} {below : List Frame} {meth : Method} {c0 : Code} {g : im_G} {ret : Option FieldType} {Q : State → Prop} {u v w B k1 k2 : Nat} {ad : Nat → Nat} {bc bs : Nat} {b L : Nat} {xs : Nat → Int32} {c : Nat → Int32} {i : Int32} (hlT : l.stackTraces = false) (hZ : ∀ V, g.2.2.2 V → im_Zs g V) (hZt : ∀ V, g.2.2.2 V → im_Zt g V) {q1 q2 : Nat} (hZu : ∀ V, g.2.2.2 V → im_Zu q1 q2 g V) (X : im_X p l s m #[Value.ref b] meth c0 g cL_law 8 RL ret) (hX : va_X b L xs s s.heap) (hbl : b < s.heap.size) (hbA : ¬ im_A g b) (hin : ∀ j : Nat, j < 10 → vp_in (i + nI j) L) (hc : ∀ j : Nat, j < 10 → xs (i + nI j).toNatClampNeg = c j) (fu : Nat) {S : im_S} {o1 : String ⊕ Int64} {S1 : im_S} (h1 : f_X10_valueL  S = some (o1, S1)) (he1 : ∀ E, o1 = .inl E → E = xNSE) {r2 : Int64} {S2 : im_S} (h2 : f_X11_value  (hs_value o1 S1) = some (r2, S2)) {r3 : Int32} {S3 : im_S} (h3 : f_X11_thrown  S2 = some (r3, S3)) (hq1 : (r3 : Int32) = (hk_value o1)) (hq3 : (¬ ((hk_value o1 : Int32) ≠ 0)) → (lg_cmp (S3.2.1 134 (0 : Int32).toNatClampNeg) r2 : Int32) = 0) (m1 : gP S ≤ gP S1) (m2 : gP S1 ≤ B) (b1 : (B - gP S) / 64 + (k1 + 1) ≤ bc) (b2 : 2 * B + (k2 + 6) ≤ 2 * gP S + bs) (kk : ∀ (ad : Nat → Nat) (bc bs : Nat), (B - gP S1) / 64 + k1 ≤ bc → 2 * B + k2 ≤ 2 * gP S1 + bs → im_V p l e room_1 s m #[Value.ref b] below meth c0 g 8 Q (fx u v w ad) im_N (im_cn g (fx u v w ad) S3) bc bs 704 [(0, .ref b), (1, .ref (fx u v w ad 0)), (2, .ref (fx u v w ad 75)), (3, .ref (fx u v w ad 134)), (4, .int i)] []) : im_V p l e room_1 s m #[Value.ref b] below meth c0 g 8 Q (fx u v w ad) im_N (im_cn g (fx u v w ad) S) bc bs 569 [(0, .ref b), (1, .ref (fx u v w ad 0)), (2, .ref (fx u v w ad 75)), (3, .ref (fx u v w ad 134)), (4, .int i)] [] := by
  refine iv_aload_n (pc := 569) X dL_law_569 rfl ?_
  refine iv_aload_n (pc := 570) X dL_law_570 rfl ?_
  refine is_callSL (pc := 571) X [.ref (fx u v w ad 0), .ref (fx u v w ad 134)] [] 2 rfl (hl_value l g u v w ad hlT hZ  S _ _ h1 he1) wm_L_75 ws_yL_value wn_L wcw_value (by decide) (by decide) (by decide) (Nat.le_of_ble_eq_true rfl) rfl dL_law_571 m1 m2 b1 b2 (fun ad bc bs b1 b2 => ?_)
  refine iv_istore (pc := 574) X dL_law_574 (by decide) (lv' := [(5, .int (hk_value o1)), (0, .ref b), (1, .ref (fx u v w ad 0)), (2, .ref (fx u v w ad 75)), (3, .ref (fx u v w ad 134)), (4, .int i)]) rfl ?_
  refine iv_aload_n (pc := 576) X dL_law_576 rfl ?_
  refine cV_L_77_75 (pc := 577) X [] [] 0 rfl (f_X11_value_e l g (fx u v w ad)  (hs_value o1 S1) _ _ h2) (by decide) (by decide) (Nat.le_of_ble_eq_true rfl) rfl dL_law_577 ?_
  refine iv_lstore (pc := 580) X dL_law_580 (by decide) (lv' := [(6, .long r2), (5, .int (hk_value o1)), (0, .ref b), (1, .ref (fx u v w ad 0)), (2, .ref (fx u v w ad 75)), (3, .ref (fx u v w ad 134)), (4, .int i)]) rfl ?_
  refine iv_aload_n (pc := 582) X dL_law_582 rfl ?_
  refine cV_L_50_75 (pc := 583) X [] [] 0 rfl (f_X11_thrown_e l g (fx u v w ad)  S2 _ _ h3) (by decide) (by decide) (Nat.le_of_ble_eq_true rfl) rfl dL_law_583 ?_
  refine iv_iload (pc := 586) X dL_law_586 rfl ?_
  refine iv_icmp_eq (pc := 588) X dL_law_588 (tgt := 593) rfl (fun _ => ?_) (fun hb => absurd (hq1) hb)
  refine iv_iload (pc := 593) X dL_law_593 rfl ?_
  refine iv_if_ne (pc := 595) X dL_law_595 (tgt := 609) rfl (fun hb2 => ?_) (fun hb2 => ?_)
  ·
    refine iv_goto (pc := 609) X dL_law_609 (tgt := 704) rfl ?_
    refine iv_sub [2, 3, 4, 5, 6] (lv2 := [(0, .ref b), (1, .ref (fx u v w ad 0)), (2, .ref (fx u v w ad 75)), (3, .ref (fx u v w ad 134)), (4, .int i)]) rfl ?_
    exact kk ad bc bs b1 b2
  ·
    refine iv_aload_n (pc := 598) X dL_law_598 rfl ?_
    refine iv_iconst (pc := 599) X dL_law_599 ic_0 ?_
    refine iv_lald (pc := 600) X dL_law_600 134 (by decide) rfl (in_b_vp (i := 0) (n := 1) (by decide)) ?_
    refine iv_lload (pc := 601) X dL_law_601 rfl ?_
    refine iv_lcmp (pc := 603) X dL_law_603 ?_
    refine iv_if_eq (pc := 604) X dL_law_604 (tgt := 609) rfl (fun _ => ?_) (fun hb => absurd (hq3 hb2) hb)
    refine iv_goto (pc := 609) X dL_law_609 (tgt := 704) rfl ?_
    refine iv_sub [2, 3, 4, 5, 6] (lv2 := [(0, .ref b), (1, .ref (fx u v w ad 0)), (2, .ref (fx u v w ad 75)), (3, .ref (fx u v w ad 134)), (4, .int i)]) rfl ?_
    exact kk ad bc bs b1 b2
set_option maxHeartbeats 4000000 in
set_option maxRecDepth 100000 in
theorem law_8 {p : Program} {l : Launch} {e : Env} {s : State} {m : MethodId} {below : List Frame} {meth : Method} {c0 : Code} {g : im_G} {ret : Option FieldType} {Q : State → Prop} {u v w B k1 k2 : Nat} {ad : Nat → Nat} {bc bs : Nat} {b L : Nat} {xs : Nat → Int32} {c : Nat → Int32} {i : Int32} (hlT : l.stackTraces = false) (hZ : ∀ V, g.2.2.2 V → im_Zs g V) (hZt : ∀ V, g.2.2.2 V → im_Zt g V) {q1 q2 : Nat} (hZu : ∀ V, g.2.2.2 V → im_Zu q1 q2 g V) (X : im_X p l s m #[Value.ref b] meth c0 g cL_law 8 RL ret) (hX : va_X b L xs s s.heap) (hbl : b < s.heap.size) (hbA : ¬ im_A g b) (hin : ∀ j : Nat, j < 10 → vp_in (i + nI j) L) (hc : ∀ j : Nat, j < 10 → xs (i + nI j).toNatClampNeg = c j) (fu : Nat) {S : im_S} {o1 : String ⊕ Int64} {S1 : im_S} (h1 : f_X10_cellL (c 1) (c 2) S = some (o1, S1)) (he1 : ∀ E, o1 = .inl E → E = xNSE) {r2 : Int64} {S2 : im_S} (h2 : f_X11_cell (c 1) (c 2) (hs_cell o1 S1) = some (r2, S2)) {r3 : Int32} {S3 : im_S} (h3 : f_X11_thrown  S2 = some (r3, S3)) (hq1 : (r3 : Int32) = (hk_cell o1)) (hq3 : (¬ ((hk_cell o1 : Int32) ≠ 0)) → (lg_cmp (S3.2.1 134 (0 : Int32).toNatClampNeg) r2 : Int32) = 0) (m1 : gP S ≤ gP S1) (m2 : gP S1 ≤ B) (b1 : (B - gP S) / 64 + (k1 + 1) ≤ bc) (b2 : 2 * B + (k2 + 6) ≤ 2 * gP S + bs) (kk : ∀ (ad : Nat → Nat) (bc bs : Nat), (B - gP S1) / 64 + k1 ≤ bc → 2 * B + k2 ≤ 2 * gP S1 + bs → im_V p l e room_1 s m #[Value.ref b] below meth c0 g 8 Q (fx u v w ad) im_N (im_cn g (fx u v w ad) S3) bc bs 704 [(0, .ref b), (1, .ref (fx u v w ad 0)), (2, .ref (fx u v w ad 75)), (3, .ref (fx u v w ad 134)), (4, .int i)] []) : im_V p l e room_1 s m #[Value.ref b] below meth c0 g 8 Q (fx u v w ad) im_N (im_cn g (fx u v w ad) S) bc bs 612 [(0, .ref b), (1, .ref (fx u v w ad 0)), (2, .ref (fx u v w ad 75)), (3, .ref (fx u v w ad 134)), (4, .int i)] [] := by
  have hn1 : vp_in (i + 1) L := hin 1 (by decide)
  have hx1 : xs (i + 1).toNatClampNeg = c 1 := hc 1 (by decide)
  have hn2 : vp_in (i + 2) L := hin 2 (by decide)
  have hx2 : xs (i + 2).toNatClampNeg = c 2 := hc 2 (by decide)
  refine iv_aload_n (pc := 612) X dL_law_612 rfl ?_
  refine iv_aload_n (pc := 613) X dL_law_613 rfl ?_
  refine iv_iload (pc := 614) X dL_law_614 rfl ?_
  refine iv_iconst (pc := 616) X dL_law_616 ic_1 ?_
  refine iv_iadd (pc := 617) X dL_law_617 ?_
  refine iv_sld (pc := 618) X hX hbl hbA dL_law_618 (hn1) (hx1) ?_
  refine iv_aload_n (pc := 619) X dL_law_619 rfl ?_
  refine iv_iload (pc := 620) X dL_law_620 rfl ?_
  refine iv_iconst (pc := 622) X dL_law_622 ic_2 ?_
  refine iv_iadd (pc := 623) X dL_law_623 ?_
  refine iv_sld (pc := 624) X hX hbl hbA dL_law_624 (hn2) (hx2) ?_
  refine iv_aload_n (pc := 625) X dL_law_625 rfl ?_
  refine is_callSL (pc := 626) X [.ref (fx u v w ad 0), .int (c 1), .int (c 2), .ref (fx u v w ad 134)] [] 4 rfl (hl_cell l g u v w ad hlT hZ (c 1) (c 2) S _ _ h1 he1) wm_L_78 ws_yL_cell wn_L wcw_cell (by decide) (by decide) (by decide) (Nat.le_of_ble_eq_true rfl) rfl dL_law_626 m1 m2 b1 b2 (fun ad bc bs b1 b2 => ?_)
  refine iv_istore (pc := 629) X dL_law_629 (by decide) (lv' := [(5, .int (hk_cell o1)), (0, .ref b), (1, .ref (fx u v w ad 0)), (2, .ref (fx u v w ad 75)), (3, .ref (fx u v w ad 134)), (4, .int i)]) rfl ?_
  refine iv_aload_n (pc := 631) X dL_law_631 rfl ?_
  refine iv_aload_n (pc := 632) X dL_law_632 rfl ?_
  refine iv_iload (pc := 633) X dL_law_633 rfl ?_
  refine iv_iconst (pc := 635) X dL_law_635 ic_1 ?_
  refine iv_iadd (pc := 636) X dL_law_636 ?_
  refine iv_sld (pc := 637) X hX hbl hbA dL_law_637 (hn1) (hx1) ?_
  refine iv_aload_n (pc := 638) X dL_law_638 rfl ?_
  refine iv_iload (pc := 639) X dL_law_639 rfl ?_
  refine iv_iconst (pc := 641) X dL_law_641 ic_2 ?_
  refine iv_iadd (pc := 642) X dL_law_642 ?_
  refine iv_sld (pc := 643) X hX hbl hbA dL_law_643 (hn2) (hx2) ?_
  refine cV_L_81_75 (pc := 644) X [.int (c 1), .int (c 2)] [] 2 rfl (f_X11_cell_e l g (fx u v w ad) (c 1) (c 2) (hs_cell o1 S1) _ _ h2) (by decide) (by decide) (Nat.le_of_ble_eq_true rfl) rfl dL_law_644 ?_
  refine iv_lstore (pc := 647) X dL_law_647 (by decide) (lv' := [(6, .long r2), (5, .int (hk_cell o1)), (0, .ref b), (1, .ref (fx u v w ad 0)), (2, .ref (fx u v w ad 75)), (3, .ref (fx u v w ad 134)), (4, .int i)]) rfl ?_
  refine iv_aload_n (pc := 649) X dL_law_649 rfl ?_
  refine cV_L_50_75 (pc := 650) X [] [] 0 rfl (f_X11_thrown_e l g (fx u v w ad)  S2 _ _ h3) (by decide) (by decide) (Nat.le_of_ble_eq_true rfl) rfl dL_law_650 ?_
  refine iv_iload (pc := 653) X dL_law_653 rfl ?_
  refine iv_icmp_eq (pc := 655) X dL_law_655 (tgt := 660) rfl (fun _ => ?_) (fun hb => absurd (hq1) hb)
  refine iv_iload (pc := 660) X dL_law_660 rfl ?_
  refine iv_if_ne (pc := 662) X dL_law_662 (tgt := 676) rfl (fun hb2 => ?_) (fun hb2 => ?_)
  ·
    refine iv_goto (pc := 676) X dL_law_676 (tgt := 704) rfl ?_
    refine iv_sub [2, 3, 4, 5, 6] (lv2 := [(0, .ref b), (1, .ref (fx u v w ad 0)), (2, .ref (fx u v w ad 75)), (3, .ref (fx u v w ad 134)), (4, .int i)]) rfl ?_
    exact kk ad bc bs b1 b2
  ·
    refine iv_aload_n (pc := 665) X dL_law_665 rfl ?_
    refine iv_iconst (pc := 666) X dL_law_666 ic_0 ?_
    refine iv_lald (pc := 667) X dL_law_667 134 (by decide) rfl (in_b_vp (i := 0) (n := 1) (by decide)) ?_
    refine iv_lload (pc := 668) X dL_law_668 rfl ?_
    refine iv_lcmp (pc := 670) X dL_law_670 ?_
    refine iv_if_eq (pc := 671) X dL_law_671 (tgt := 676) rfl (fun _ => ?_) (fun hb => absurd (hq3 hb2) hb)
    refine iv_goto (pc := 676) X dL_law_676 (tgt := 704) rfl ?_
    refine iv_sub [2, 3, 4, 5, 6] (lv2 := [(0, .ref b), (1, .ref (fx u v w ad 0)), (2, .ref (fx u v w ad 75)), (3, .ref (fx u v w ad 134)), (4, .int i)]) rfl ?_
    exact kk ad bc bs b1 b2
set_option maxHeartbeats 4000000 in
set_option maxRecDepth 100000 in
theorem law_9 {p : Program} {l : Launch} {e : Env} {s : State} {m : MethodId} {below : List Frame} {meth : Method} {c0 : Code} {g : im_G} {ret : Option FieldType} {Q : State → Prop} {u v w B k1 k2 : Nat} {ad : Nat → Nat} {bc bs : Nat} {b L : Nat} {xs : Nat → Int32} {c : Nat → Int32} {i : Int32} (hlT : l.stackTraces = false) (hZ : ∀ V, g.2.2.2 V → im_Zs g V) (hZt : ∀ V, g.2.2.2 V → im_Zt g V) {q1 q2 : Nat} (hZu : ∀ V, g.2.2.2 V → im_Zu q1 q2 g V) (X : im_X p l s m #[Value.ref b] meth c0 g cL_law 8 RL ret) (hX : va_X b L xs s s.heap) (hbl : b < s.heap.size) (hbA : ¬ im_A g b) (hin : ∀ j : Nat, j < 10 → vp_in (i + nI j) L) (hc : ∀ j : Nat, j < 10 → xs (i + nI j).toNatClampNeg = c j) (fu : Nat) {S : im_S} {r1 : Int32} {S1 : im_S} (h1 : f_X10_count (c 1) S = some (r1, S1)) {r2 : Int32} {S2 : im_S} (h2 : f_X11_count (c 1) S1 = some (r2, S2)) (hq1 : (r1 : Int32) = r2) (kk : im_V p l e room_1 s m #[Value.ref b] below meth c0 g 8 Q (fx u v w ad) im_N (im_cn g (fx u v w ad) S2) bc bs 704 [(0, .ref b), (1, .ref (fx u v w ad 0)), (2, .ref (fx u v w ad 75)), (3, .ref (fx u v w ad 134)), (4, .int i)] []) : im_V p l e room_1 s m #[Value.ref b] below meth c0 g 8 Q (fx u v w ad) im_N (im_cn g (fx u v w ad) S) bc bs 679 [(0, .ref b), (1, .ref (fx u v w ad 0)), (2, .ref (fx u v w ad 75)), (3, .ref (fx u v w ad 134)), (4, .int i)] [] := by
  have hn1 : vp_in (i + 1) L := hin 1 (by decide)
  have hx1 : xs (i + 1).toNatClampNeg = c 1 := hc 1 (by decide)
  refine iv_aload_n (pc := 679) X dL_law_679 rfl ?_
  refine iv_aload_n (pc := 680) X dL_law_680 rfl ?_
  refine iv_iload (pc := 681) X dL_law_681 rfl ?_
  refine iv_iconst (pc := 683) X dL_law_683 ic_1 ?_
  refine iv_iadd (pc := 684) X dL_law_684 ?_
  refine iv_sld (pc := 685) X hX hbl hbA dL_law_685 (hn1) (hx1) ?_
  refine cV_L_82_0 (pc := 686) X [.int (c 1)] [] 1 rfl (f_X10_count_e l g (fx u v w ad) (c 1) S _ _ h1) (by decide) (by decide) (Nat.le_of_ble_eq_true rfl) rfl dL_law_686 ?_
  refine iv_aload_n (pc := 689) X dL_law_689 rfl ?_
  refine iv_aload_n (pc := 690) X dL_law_690 rfl ?_
  refine iv_iload (pc := 691) X dL_law_691 rfl ?_
  refine iv_iconst (pc := 693) X dL_law_693 ic_1 ?_
  refine iv_iadd (pc := 694) X dL_law_694 ?_
  refine iv_sld (pc := 695) X hX hbl hbA dL_law_695 (hn1) (hx1) ?_
  refine cV_L_85_75 (pc := 696) X [.int (c 1)] [.int r1] 1 rfl (f_X11_count_e l g (fx u v w ad) (c 1) S1 _ _ h2) (by decide) (by decide) (Nat.le_of_ble_eq_true rfl) rfl dL_law_696 ?_
  refine iv_icmp_eq (pc := 699) X dL_law_699 (tgt := 704) rfl (fun _ => ?_) (fun hb => absurd (hq1) hb)
  exact kk
