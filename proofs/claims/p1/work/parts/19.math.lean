/-! the JDK's min and max, which the machine runs by rows of its own, and a method's entry in a class of which that is so of others -/
theorem wq_max : Cond.code Lib.Math.max.name Lib.Math.max.code 2 (some .int) ∈ al_W := wc_yJ9_max_7cf53
theorem wq_min : Cond.code Lib.Math.min.name Lib.Math.min.code 2 (some .int) ∈ al_W := wc_yJ9_min_7cf53
theorem wq_minL : Cond.code Lib.MathLoose.min_long.x Lib.MathLoose.min_long.code 4 (some .long) ∈ al_W := wc_yJ9_min_f86c9
section IMM
variable {p : Program} {l : Launch} {e : Env} {R : Room} {s : State} {m : MethodId} {args : Array Value} {below : List Frame} {meth : Method} {c : Code} {g : im_G} {cc : ByteArray} {nL : Nat} {own : String} {ret : Option FieldType} {Q : State → Prop}
variable {ad : Nat → Nat} {nn : Nat} {cn : Nat → va_E} {bc bs pc : Nat} {lv : List (Nat × Value)} {st : List Value}
theorem iv_mmax (X : im_X p l s m args meth c g cc nL own ret) {index : Nat} {x y : Int32} (w1 : Cond.methodLink own index yJ9_max_7cf53 ∈ al_W) (hR1 : 1 ≤ R.frames) (hR2 : (st.map fun v => v.category).sum + 13 ≤ R.locals) (hd : decode cc pc = .ok (.invokestatic index, 3))
    (kk : im_V p l e R s m args below meth c g nL Q ad nn cn bc bs (pc + 3) lv (.int (if x < y then y else x) :: st)) : im_V p l e R s m args below meth c g nL Q ad nn cn bc bs pc lv (.int y :: .int x :: st) :=
  fun M hM ls H locs cells slots hl hP hD hS h1 h2 => va_mmax X.1 X.2.1 (X.2.2.1.trans hl.1.symm) X.2.2.2.1 (X.2.2.2.2.1 _ w1) (X.2.2.2.2.1 _ ws_yJ9_max_7cf53) (X.2.2.2.2.1 _ wn_J9) (X.2.2.2.2.1 _ wq_max) hR1 hR2 (by omega) (by omega) hd (kk M hM ls H locs cells slots hl hP hD hS h1 h2)
theorem iv_mmin (X : im_X p l s m args meth c g cc nL own ret) {index : Nat} {x y : Int32} (w1 : Cond.methodLink own index yJ9_min_7cf53 ∈ al_W) (hR1 : 1 ≤ R.frames) (hR2 : (st.map fun v => v.category).sum + 13 ≤ R.locals) (hd : decode cc pc = .ok (.invokestatic index, 3))
    (kk : im_V p l e R s m args below meth c g nL Q ad nn cn bc bs (pc + 3) lv (.int (if y < x then y else x) :: st)) : im_V p l e R s m args below meth c g nL Q ad nn cn bc bs pc lv (.int y :: .int x :: st) :=
  fun M hM ls H locs cells slots hl hP hD hS h1 h2 => va_mmin X.1 X.2.1 (X.2.2.1.trans hl.1.symm) X.2.2.2.1 (X.2.2.2.2.1 _ w1) (X.2.2.2.2.1 _ ws_yJ9_min_7cf53) (X.2.2.2.2.1 _ wn_J9) (X.2.2.2.2.1 _ wq_min) hR1 hR2 (by omega) (by omega) hd (kk M hM ls H locs cells slots hl hP hD hS h1 h2)
theorem iv_mminL (X : im_X p l s m args meth c g cc nL own ret) {index : Nat} {x y : Int64} (w1 : Cond.methodLink own index yJ9_min_f86c9 ∈ al_W) (hR1 : 1 ≤ R.frames) (hR2 : (st.map fun v => v.category).sum + 15 ≤ R.locals) (hd : decode cc pc = .ok (.invokestatic index, 3))
    (kk : im_V p l e R s m args below meth c g nL Q ad nn cn bc bs (pc + 3) lv (.long (if y < x then y else x) :: st)) : im_V p l e R s m args below meth c g nL Q ad nn cn bc bs pc lv (.long y :: .long x :: st) :=
  fun M hM ls H locs cells slots hl hP hD hS h1 h2 => va_mmin_long X.1 X.2.1 (X.2.2.1.trans hl.1.symm) X.2.2.2.1 (X.2.2.2.2.1 _ w1) (X.2.2.2.2.1 _ ws_yJ9_min_f86c9) (X.2.2.2.2.1 _ wn_J9) (X.2.2.2.2.1 _ wq_minL) hR1 hR2 (by omega) (by omega) hd (kk M hM ls H locs cells slots hl hP hD hS h1 h2)
theorem Met_ofWF {y : MethodName} {ws ws' : List Cond} {rm : Room} {Pc : Array Value → State → Prop} {Qc : Array Value → State → Outcome → State → Prop} {mc ms : Nat} {free : Addr → Prop} {cc : ByteArray} {maxL : Nat} {ret : Option FieldType}
    (hy : plainFor y = true) (hw : ws = Cond.code y cc maxL ret :: ws')
    (body : ∀ p e s m args below meth c s₁, BodyLoose p l y (headSpec ws rm) cc maxL ret e s m args below meth c s₁ → c.maxLocals = maxL → Pc args s →
      W p l e (headSpec ws rm).room s m args below meth c s.heap [] 0 0 (MQ below Qc args s mc ms free) (entryFrame m args maxL)) : Met l y ws rm Pc Qc mc ms free := by
  refine MetFree.of_bodySF (code := cc) (maxLocals := maxL) (ret := ret) hy ?_ ?_
  · intro args s m h hn
    obtain ⟨meth, c, h1, h2, h3, h4, h5, h6, -, -⟩ := Cond.code_spec hn (atoms_spec (ws := ws) h _ (by rw [hw]; exact List.mem_cons_self))
    exact ⟨meth, c, h1, h2, h3, h4, h5, h6⟩
  · intro p e s m args below meth c s₁ B hml hP _
    have hh0 : s₁.heap = s.heap := by rw [B.state]; rfl
    obtain ⟨t, a1, o, b1, b2, b3⟩ := body p e s m args below meth c s₁ B hml hP s₁ hh0 (Stand.of_body B)
    exact ⟨t, o, a1, b1, b2, ⟨b3.1, b3.2⟩⟩
theorem is_metF {S S' : im_S} {d : Nat} {y : MethodName} {vs : List Value} {r0 : Option Value} (hy : plainFor y = true) (hown : y.cls = own) (hvs : (lg_sl vs).length ≤ nL)
    (body : ∀ (p : Program) (e : Env) (s : State) (m : MethodId) (below : List Frame) (meth : Method) (c : Code), im_X p l s m vs.toArray meth c g cc nL own ret → im_V p l e (im_R d 0 0) s m vs.toArray below meth c g nL (im_Z below g ad vs.toArray s r0 S') ad im_N (im_cn g ad S) 0 0 0 (lv_args 0 vs) []) :
    im_E l g ad d y cc nL ret vs S r0 S' := by
  intro M hM
  refine Met_ofWF (cc := cc) (maxL := nL) (ret := ret) hy rfl ?_
  intro p e s m args below meth c s₁ B hml hv
  obtain ⟨rfl, h1, h2, h3, h4, h5, h6⟩ := hv
  have hts := atoms_spec (ws := im_ws y cc nL ret) B.pre
  have hownS : s.vm.findClass own = some m.cls := by rw [← hown]; exact findClass_of_methodNamed B.named
  have hb := body p e s m below meth c ⟨B.exec, B.bytes, hml, hownS, fun w hw => hts w (List.mem_cons_of_mem _ hw), h4, h1, h2, h6, B.returns, B.notSynchronized⟩
  rw [lg_entry_eq]
  exact hb M hM _ s.heap [] 0 0 (lv_entry vs hvs) h3 h5 va_S.rf (Nat.zero_add 0) (Nat.zero_add 0)
end IMM
