/-! the rows of the pool walk: a method's entry, its end, its calls -/
section IMC
variable {p : Program} {l : Launch} {e : Env} {R : Room} {s : State} {m : MethodId} {args : Array Value} {below : List Frame} {meth : Method} {c : Code} {g : im_G} {cc : ByteArray} {nL : Nat} {own : String} {ret : Option FieldType} {Q : State → Prop}
variable {bc bs pc : Nat} {lv lv' : List (Nat × Value)} {st : List Value} {M : im_M}
theorem im_Uof (X : im_X p l s m args meth c g cc nL own ret) {H : Heap} {locs : List Loc} (hP : va_P g.1 vwCl (va_pl M.1 M.2) H) (hD : va_D (im_A g) (va_pl M.1 M.2)) (hS : va_S (im_A g) s.heap H locs) {t : State} (ht : t.heap = H) (ha : s.WarmedH t.vm) : im_U g M t := by
  refine ⟨?_, fun q hq => ?_, by rw [ht]; exact hP, va_K.moved ha.alike X.2.2.2.2.2.1, hD, fun V hV => X.2.2.2.2.2.2.2.2.1 V (ha.trans hV)⟩
  · rw [ht]; exact Nat.le_trans X.2.2.2.2.2.2.1 hS.1
  · rw [ht, hS.2.1 q (Nat.lt_of_lt_of_le hq X.2.2.2.2.2.2.1) (Nat.not_le.mpr hq)]
    exact X.2.2.2.2.2.2.2.1 q hq
theorem im_blind {vs : List Value} : FrameBlind (va_Pc vs (im_U g M)) := by
  intro a U f mk q
  obtain ⟨q0, q1, q2, q3, q4, q5, q6⟩ := q
  exact ⟨q0, q1, q2, q3, va_K.moved (u := U) (U := U.calling f mk a) (Vm.Alike.refl U.vm) q4, q5, fun V hV => q6 V (State.WarmedH.of_rootvm (s := U.calling f mk a) (u := U) rfl hV)⟩
theorem ir_iret (X : im_X p l s m args meth c g cc nL own (some .int)) {F : Option Value → im_M → Prop} {x : Int32} (hd : decode cc pc = .ok (.ireturn, 1)) (h : F (some (.int x)) M) : im_W p l e R s m args below meth c g nL (MQ below (im_Q g F) args s R.cells R.slots (im_A g)) bc bs pc lv [.int x] M := by
  intro ls H locs cells slots hl hP hD hS h1 h2
  have hlocks : meth.locks = false := X.2.2.2.2.2.2.2.2.2.2
  refine W.widen (k := R.cells) (n := R.slots) (by omega) (by omega) ?_
  exact W.iret X.1 X.2.1 X.2.2.2.2.2.2.2.2.2.1 (fun t ht hW => ⟨⟨some (.int x), M, rfl, h, im_Uof X hP hD hS ht hW⟩, hS.F ht⟩) hS.2.2 hd
theorem ir_zret (X : im_X p l s m args meth c g cc nL own ret) {F : Option Value → im_M → Prop} {x : Int32} {ty : FieldType} (hr : ret = some ty) (hn : narrow ty (.int x) = .int x) (hd : decode cc pc = .ok (.ireturn, 1)) (h : F (some (.int x)) M) : im_W p l e R s m args below meth c g nL (MQ below (im_Q g F) args s R.cells R.slots (im_A g)) bc bs pc lv [.int x] M := by
  intro ls H locs cells slots hl hP hD hS h1 h2
  have hlocks : meth.locks = false := X.2.2.2.2.2.2.2.2.2.2
  refine W.widen (k := R.cells) (n := R.slots) (by omega) (by omega) ?_
  exact W.zret X.1 X.2.1 (X.2.2.2.2.2.2.2.2.2.1.trans hr) hn (fun t ht hW => ⟨⟨some (.int x), M, rfl, h, im_Uof X hP hD hS ht hW⟩, hS.F ht⟩) hS.2.2 hd
theorem ir_lret (X : im_X p l s m args meth c g cc nL own (some .long)) {F : Option Value → im_M → Prop} {x : Int64} (hd : decode cc pc = .ok (.lreturn, 1)) (h : F (some (.long x)) M) : im_W p l e R s m args below meth c g nL (MQ below (im_Q g F) args s R.cells R.slots (im_A g)) bc bs pc lv [.long x] M := by
  intro ls H locs cells slots hl hP hD hS h1 h2
  have hlocks : meth.locks = false := X.2.2.2.2.2.2.2.2.2.2
  refine W.widen (k := R.cells) (n := R.slots) (by omega) (by omega) ?_
  exact W.lret X.1 X.2.1 X.2.2.2.2.2.2.2.2.2.1 (fun t ht hW => ⟨⟨some (.long x), M, rfl, h, im_Uof X hP hD hS ht hW⟩, hS.F ht⟩) hS.2.2 hd
theorem ir_vret (X : im_X p l s m args meth c g cc nL own none) {F : Option Value → im_M → Prop} (hd : decode cc pc = .ok (.return_, 1)) (h : F none M) : im_W p l e R s m args below meth c g nL (MQ below (im_Q g F) args s R.cells R.slots (im_A g)) bc bs pc lv [] M := by
  intro ls H locs cells slots hl hP hD hS h1 h2
  have hlocks : meth.locks = false := X.2.2.2.2.2.2.2.2.2.2
  refine W.widen (k := R.cells) (n := R.slots) (by omega) (by omega) ?_
  exact W.vret X.1 X.2.1 X.2.2.2.2.2.2.2.2.2.1 (fun t ht hW => ⟨⟨none, M, rfl, h, im_Uof X hP hD hS ht hW⟩, hS.F ht⟩) hS.2.2 hd
theorem im_met {d : Nat} {y : MethodName} {mc ms : Nat} {vs : List Value} {F : Option Value → im_M → Prop} (hy : plainName y.cls = true) (hown : y.cls = own) (hvs : (lg_sl vs).length ≤ nL)
    (body : ∀ (p : Program) (e : Env) (s : State) (m : MethodId) (below : List Frame) (meth : Method) (c : Code), im_X p l s m vs.toArray meth c g cc nL own ret → meth.name = y.name → im_W p l e (im_R d mc ms) s m vs.toArray below meth c g nL (MQ below (im_Q g F) vs.toArray s mc ms (im_A g)) mc ms 0 (lv_args 0 vs) [] M) :
    im_C l g d y cc nL ret mc ms vs M F := by
  refine Met.ofW (cc := cc) (maxL := nL) (ret := ret) hy rfl ?_
  intro p e s m args below meth c s₁ B hml hv
  obtain ⟨rfl, h1, h2, h3, h4, h5, h6⟩ := hv
  have hts := atoms_spec (ws := im_ws y cc nL ret) B.pre
  have hownS : s.vm.findClass own = some m.cls := by rw [← hown]; exact findClass_of_methodNamed B.named
  have hb := body p e s m below meth c ⟨B.exec, B.bytes, hml, hownS, fun w hw => hts w (List.mem_cons_of_mem _ hw), h4, h1, h2, h6, B.returns, B.notSynchronized⟩ (name_of_methodNamed B.named B.method).1
  rw [lg_entry_eq]
  exact hb _ s.heap [] 0 0 (lv_entry vs hvs) h3 h5 va_S.rf (Nat.zero_add mc) (Nat.zero_add ms)
theorem im_call (X : im_X p l s m args meth c g cc nL own ret) {H : Heap} {locs : List Loc} {cells slots mc ms bc' bs' : Nat} {ls : Array Slot} {rest : List Value} {a : Array Value} {F : Option Value → im_M → Prop}
    (hr : va_Run p l e R s m args below meth c H locs cells slots mc ms (F0 m pc ls st) rest (im_Q g F a) (im_A g)) (hl : lv_has ls nL lv) (hS : va_S (im_A g) s.heap H locs) (h1 : cells + (bc' + mc) = R.cells) (h2 : slots + (bs' + ms) = R.slots)
    (kk : ∀ (r : Option Value) (M' : im_M), F r M' → im_W p l e R s m args below meth c g nL Q bc' bs' (pc + 3) lv (r.toList ++ rest) M') : W p l e R s m args below meth c H locs cells slots Q (F0 m pc ls st) := by
  intro T hT X2
  obtain ⟨v, st₀, t, T', L, h0, X', hL, e1, e2, ⟨⟨r, M', hv, hF, hU⟩, hz, hk⟩, stp⟩ := hr T hT X2
  cases hv
  rw [h0] at hz hk
  have hS' : va_S (im_A g) s.heap T'.heap (locs ++ L) := ⟨Nat.le_trans hS.1 (by rw [e1]; exact hz), fun q g1 g2 => by rw [e1, hk q (Nat.lt_of_lt_of_le g1 hS.1) g2]; exact hS.2.1 q g1 g2, fun q hq => by
      rcases List.mem_append.mp hq with h | h
      · exact hS.2.2 q h
      · exact hL q h⟩
  obtain ⟨t2, a1, b1⟩ := kk v M' hF ls T'.heap (locs ++ L) (cells + mc) (slots + ms) hl (by rw [e1]; exact hU.2.2.1) hU.2.2.2.2.1 hS' (by omega) (by omega) T' rfl X'
  exact ⟨t2, stp t2 a1, b1⟩
theorem im_goodV {index : Nat} {C : String} {y : MethodName} {cc' : ByteArray} {nL' : Nat} {ret' : Option FieldType} (w1 : Cond.methodLink own index y ∈ al_W) (w2 : Cond.instanceMethod y ∈ al_W) (w3 : Cond.selects C y y ∈ al_W) (w4 : Cond.initialized C ∈ al_W) (w5 : Cond.code y cc' nL' ret' ∈ al_W) : GoodIn al_W (wsV own index C y (im_ws y cc' nL' ret')) := by
  intro w hw
  simp only [wsV, im_ws, List.cons_append, List.nil_append, List.mem_cons] at hw
  rcases hw with rfl | rfl | rfl | rfl | rfl | hw
  · exact al_self _ w1
  · exact al_self _ w2
  · exact al_self _ w3
  · exact al_self _ w4
  · exact al_self _ w5
  · exact al_self _ hw
theorem im_good {y : MethodName} {cc' : ByteArray} {nL' : Nat} {ret' : Option FieldType} (w5 : Cond.code y cc' nL' ret' ∈ al_W) : GoodIn al_W (im_ws y cc' nL' ret') := by
  intro w hw
  rcases List.mem_cons.mp hw with rfl | hw
  · exact al_self _ w5
  · exact al_self _ hw
/-- invokevirtual -/
theorem ir_callV (X : im_X p l s m args meth c g cc nL own ret) {C : String} {T : u_T} {N index : Nat} (ci : Nat) {fs : List Value} {y : MethodName} {cc' : ByteArray} {nL' : Nat} {ret' : Option FieldType} {d' mc' ms' bc' bs' : Nat} {b : Nat} (As : List Value) (rest : List Value) {F : Option Value → im_M → Prop}
    (hM : im_C l g d' y cc' nL' ret' mc' ms' (.ref b :: As) M F) (hc : vwCl[ci]? = some (C, T, N)) (hb : b ∈ M.1) (he : M.2 b = .inr (ci, fs)) (w1 : Cond.methodLink own index y ∈ al_W) (w2 : Cond.instanceMethod y ∈ al_W) (w3 : Cond.selects C y y ∈ al_W) (w4 : Cond.initialized C ∈ al_W) (w5 : Cond.code y cc' nL' ret' ∈ al_W)
    (hdy : y.cls = C ∧ y.cls ≠ "java/lang/invoke/MethodHandle" ∧ y.cls ≠ "java/lang/invoke/VarHandle" ∧ (parseMethodDescriptor y.desc).map (fun d => d.parameters.length) = some As.length) (hR1 : d' + 1 ≤ R.frames) (hR2 : 8 + (nL' + 11) + 40 * d' ≤ R.locals) (hst : (rest.map fun v => v.category).sum ≤ 8) (hstk : st = As.reverse ++ .ref b :: rest)
    (hd : decode cc pc = .ok (.invokevirtual index, 3)) (hb1 : bc = bc' + mc') (hb2 : bs = bs' + ms') (kk : ∀ (r : Option Value) (M' : im_M), F r M' → im_W p l e R s m args below meth c g nL Q bc' bs' (pc + 3) lv (r.toList ++ rest) M') : im_W p l e R s m args below meth c g nL Q bc bs pc lv st M := by
  intro ls H locs cells slots hl hP hD hS h1 h2
  obtain ⟨q0, hq⟩ := pl_get (f := M.2) hb
  rw [he] at hq
  subst hb1; subst hb2
  refine im_call X (va_runV (rest := rest) (As := As) ⟨X.1, X.2.1, X.2.2.1, X.2.2.2.1, X.2.2.2.2.1⟩ hM (cwV As.length X.2.2.2.2.1 (im_goodV w1 w2 w3 w4 w5) rfl rfl rfl hdy ⟨hR1, hR2⟩) ⟨im_blind, va_recv X.2.2.2.2.2.1 hP hc hq, fun U hU hW => ⟨rfl, im_Uof X hP hD hS hU hW⟩⟩ rfl rfl hl.1 hstk (lv_room hst) hd ⟨by omega, by omega⟩) hl hS h1 h2 kk
/-- invokestatic -/
theorem ir_callS (X : im_X p l s m args meth c g cc nL own ret) {index : Nat} {y : MethodName} {cc' : ByteArray} {nL' : Nat} {ret' : Option FieldType} {d' mc' ms' bc' bs' : Nat} (As : List Value) (rest : List Value) {F : Option Value → im_M → Prop}
    (hM : im_C l g d' y cc' nL' ret' mc' ms' As M F) (w1 : Cond.methodLink own index y ∈ al_W) (w2 : Cond.static y ∈ al_W) (w4 : Cond.initialized y.cls ∈ al_W) (w5 : Cond.code y cc' nL' ret' ∈ al_W)
    (hdy : y.cls ≠ "java/lang/invoke/MethodHandle" ∧ y.cls ≠ "java/lang/invoke/VarHandle" ∧ (parseMethodDescriptor y.desc).map (fun d => d.parameters.length) = some As.length) (hR1 : d' + 1 ≤ R.frames) (hR2 : 8 + (nL' + 11) + 40 * d' ≤ R.locals) (hst : (rest.map fun v => v.category).sum ≤ 8) (hstk : st = As.reverse ++ rest)
    (hd : decode cc pc = .ok (.invokestatic index, 3)) (hb1 : bc = bc' + mc') (hb2 : bs = bs' + ms') (kk : ∀ (r : Option Value) (M' : im_M), F r M' → im_W p l e R s m args below meth c g nL Q bc' bs' (pc + 3) lv (r.toList ++ rest) M') : im_W p l e R s m args below meth c g nL Q bc bs pc lv st M := by
  intro ls H locs cells slots hl hP hD hS h1 h2
  subst hb1; subst hb2
  refine im_call X (va_runS (rest := rest) (As := As) (n := As.length) ⟨X.1, X.2.1, X.2.2.1, X.2.2.2.1, X.2.2.2.2.1⟩ hM ⟨callB_of As.length X.2.2.2.2.1 (im_good w5) rfl rfl rfl (X.2.2.2.2.1 _ w4) (X.2.2.2.2.1 _ w1) hdy ⟨hR1, hR2⟩, X.2.2.2.2.1 _ w2⟩ ⟨im_blind, fun U hU hW => ⟨rfl, im_Uof X hP hD hS hU hW⟩⟩ rfl rfl hl.1 hstk (lv_room hst) hd ⟨by omega, by omega⟩) hl hS h1 h2 kk
/-- invokespecial of a constructor that this class may call -/
theorem ir_callI (X : im_X p l s m args meth c g cc nL own ret) {index : Nat} {y : MethodName} {cc' : ByteArray} {nL' : Nat} {d' mc' ms' bc' bs' : Nat} {b : Nat} (As : List Value) (rest : List Value) {F : Option Value → im_M → Prop}
    (hM : im_C l g d' y cc' nL' none mc' ms' (.ref b :: As) M F) (w1 : Cond.methodLink own index y ∈ al_W) (w2 : Cond.instanceMethod y ∈ al_W) (w4 : Cond.initialized y.cls ∈ al_W) (w5 : Cond.code y cc' nL' none ∈ al_W) (hy : y.name = "<init>")
    (hdy : y.cls ≠ "java/lang/invoke/MethodHandle" ∧ y.cls ≠ "java/lang/invoke/VarHandle" ∧ (parseMethodDescriptor y.desc).map (fun d => d.parameters.length) = some As.length) (hR1 : d' + 1 ≤ R.frames) (hR2 : 8 + (nL' + 11) + 40 * d' ≤ R.locals) (hst : (rest.map fun v => v.category).sum ≤ 8) (hstk : st = As.reverse ++ .ref b :: rest)
    (hd : decode cc pc = .ok (.invokespecial index, 3)) (hb1 : bc = bc' + mc') (hb2 : bs = bs' + ms') (kk : ∀ (r : Option Value) (M' : im_M), F r M' → im_W p l e R s m args below meth c g nL Q bc' bs' (pc + 3) lv (r.toList ++ rest) M') : im_W p l e R s m args below meth c g nL Q bc bs pc lv st M := by
  intro ls H locs cells slots hl hP hD hS h1 h2
  subst hb1; subst hb2
  refine im_call X (va_runI (rest := rest) (As := As) (n := As.length) ⟨X.1, X.2.1, X.2.2.1, X.2.2.2.1, X.2.2.2.2.1⟩ hM (cwI As.length X.2.2.2.2.1 (im_good w5) rfl rfl rfl (X.2.2.2.2.1 _ w4) (X.2.2.2.2.1 _ w1) (X.2.2.2.2.1 _ w2) hy hdy ⟨hR1, hR2⟩) ⟨im_blind, fun U hU hW => ⟨rfl, im_Uof X hP hD hS hU hW⟩⟩ rfl rfl hl.1 hstk (lv_room hst) hd ⟨by omega, by omega⟩) hl hS h1 h2 kk
/-- .. of a private constructor of a nest mate: its link is no word of the tables' kind, it comes with the start -/
theorem ir_callIN (X : im_X p l s m args meth c g cc nL own ret) {index : Nat} {y : MethodName} {host : String} {cc' : ByteArray} {nL' : Nat} {d' mc' ms' bc' bs' : Nat} {b : Nat} (As : List Value) (rest : List Value) {F : Option Value → im_M → Prop}
    (hM : im_C l g d' y cc' nL' none mc' ms' (.ref b :: As) M F) (w1 : ∀ V : State, g.2.2.2 V → va_Nw (.methodLinkNest own index y host) V) (w2 : Cond.instanceMethod y ∈ al_W) (w4 : Cond.initialized y.cls ∈ al_W) (w5 : Cond.code y cc' nL' none ∈ al_W) (hy : y.name = "<init>")
    (hdy : y.cls ≠ "java/lang/invoke/MethodHandle" ∧ y.cls ≠ "java/lang/invoke/VarHandle" ∧ (parseMethodDescriptor y.desc).map (fun d => d.parameters.length) = some As.length) (hR1 : d' + 1 ≤ R.frames) (hR2 : 8 + (nL' + 11) + 40 * d' ≤ R.locals) (hst : (rest.map fun v => v.category).sum ≤ 8) (hstk : st = As.reverse ++ .ref b :: rest)
    (hd : decode cc pc = .ok (.invokespecial index, 3)) (hb1 : bc = bc' + mc') (hb2 : bs = bs' + ms') (kk : ∀ (r : Option Value) (M' : im_M), F r M' → im_W p l e R s m args below meth c g nL Q bc' bs' (pc + 3) lv (r.toList ++ rest) M') : im_W p l e R s m args below meth c g nL Q bc bs pc lv st M := by
  intro ls H locs cells slots hl hP hD hS h1 h2
  subst hb1; subst hb2
  refine im_call X (va_runIN (rest := rest) (As := As) (n := As.length) ⟨X.1, X.2.1, X.2.2.1, X.2.2.2.1, X.2.2.2.2.1⟩ hM ⟨va_cnB As.length X.2.2.2.2.1 (im_good w5) rfl rfl rfl (w1 s (X.2.2.2.2.2.2.2.2.1 s (State.WarmedH.refl s))) (X.2.2.2.2.1 _ w4) hdy ⟨hR1, hR2⟩, hy, X.2.2.2.2.1 _ w2⟩ ⟨im_blind, fun U hU hW => ⟨rfl, im_Uof X hP hD hS hU hW⟩⟩ rfl rfl hl.1 hstk (lv_room hst) hd ⟨by omega, by omega⟩) hl hS h1 h2 kk
end IMC
