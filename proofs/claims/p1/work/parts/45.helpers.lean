/-! the law's four helpers, which catch -/
abbrev im_wsH (y : MethodName) (cc : ByteArray) (nL : Nat) (ret : Option FieldType) (hh : List (Nat × Nat × Nat × Nat)) : List Cond := .codeWith y cc nL ret hh :: al_W
def im_EH (l : Launch) (g : im_G) (ad : Nat → Nat) (d : Nat) (y : MethodName) (cc : ByteArray) (nL : Nat) (ret : Option FieldType) (hh : List (Nat × Nat × Nat × Nat)) (vs : List Value) (S : im_S) (r0 : Option Value) (S' : im_S) : Prop :=
  ∀ M : im_M, im_Rep ad im_N (im_cn g ad S) M → Met l y (im_wsH y cc nL ret hh) (im_R d 1 6) (va_Pc vs (im_U g M)) (im_Q g (fun r M' => r = r0 ∧ im_Rep ad im_N (im_cn g ad S') M')) 1 6 (im_A g)
abbrev im_ZH (below : List Frame) (g : im_G) (ad : Nat → Nat) (args : Array Value) (s : State) (r0 : Option Value) (S' : im_S) : State → Prop := MQ below (im_Q g (fun r M' => r = r0 ∧ im_Rep ad im_N (im_cn g ad S') M')) args s 1 6 (im_A g)
section IMH2
variable {p : Program} {l : Launch} {e : Env} {R : Room} {s : State} {m : MethodId} {args : Array Value} {below : List Frame} {meth : Method} {c : Code} {g : im_G} {cc : ByteArray} {nL : Nat} {own : String} {ret : Option FieldType} {Q : State → Prop}
variable {ad : Nat → Nat} {pc : Nat} {lv : List (Nat × Value)} {st : List Value} {S S' : im_S} {d : Nat}
theorem is_metH {y : MethodName} {hh : List (Nat × Nat × Nat × Nat)} {vs : List Value} {r0 : Option Value} (hy : plainName y.cls = true) (hown : y.cls = own) (hvs : (lg_sl vs).length ≤ nL)
    (body : ∀ (p : Program) (e : Env) (s : State) (m : MethodId) (below : List Frame) (meth : Method) (c : Code), im_X p l s m vs.toArray meth c g cc nL own ret → c.exceptionTable.toList = tableOf hh → im_V p l e (im_R d 1 6) s m vs.toArray below meth c g nL (im_ZH below g ad vs.toArray s r0 S') ad im_N (im_cn g ad S) 1 6 0 (lv_args 0 vs) []) :
    im_EH l g ad d y cc nL ret hh vs S r0 S' := by
  intro M hM
  refine MetFree.of_bodyS (code := cc) (maxLocals := nL) (ret := ret) hy ?_ ?_
  · intro args s m h hn
    obtain ⟨m9, meth, c, hn9, h1, h2, h3, h4, -, h5, h6, -⟩ := Cond.codeWith_spec (atoms_spec (ws := im_wsH y cc nL ret hh) h _ List.mem_cons_self)
    cases hn.symm.trans hn9
    exact ⟨meth, c, h1, h2, h3, h4, h5, h6⟩
  · intro p e s m args below meth c s₁ B hml hv _
    have hh0 : s₁.heap = s.heap := by rw [B.state]; rfl
    obtain ⟨rfl, h1, h2, h3, h4, h5, h6⟩ := hv
    have hts := atoms_spec (ws := im_wsH y cc nL ret hh) B.pre
    have hownS : s.vm.findClass own = some m.cls := by rw [← hown]; exact findClass_of_methodNamed B.named
    have htab := vx_table (x := y) B (hts _ List.mem_cons_self)
    have hb := body p e s m below meth c ⟨B.exec, B.bytes, hml, hownS, fun w hw => hts w (List.mem_cons_of_mem _ hw), h4, h1, h2, h6, B.returns, B.notSynchronized⟩ htab
    have K : W p l e (im_R d 1 6) s m vs.toArray below meth c s₁.heap [] 0 0 (im_ZH below g ad vs.toArray s r0 S') (entryFrame m vs.toArray nL) := by
      rw [hh0, lg_entry_eq]
      exact hb M hM _ s.heap [] 0 0 (lv_entry vs hvs) h3 h5 va_S.rf rfl rfl
    obtain ⟨t, a1, o, b1, b2, b3⟩ := K s₁ rfl (Stand.of_body B)
    exact ⟨t, o, a1, b1, b2, b3⟩
theorem is_callVX (X : im_X p l s m args meth c g cc nL own ret) {C : String} {T : u_T} {N index : Nat} (ci : Nat) {fs : List Value} {y : MethodName} {cc' : ByteArray} {nL' : Nat} {ret' : Option FieldType} {d' : Nat} {i0 : Nat} (As : List Value) (rest : List Value) (na : Nat) (hna : As.length = na) {o : String ⊕ Option Value}
    (hM : im_EX l g ad d' y cc' nL' ret' (.ref (ad i0) :: As) S o S') (hc : vwCl[ci]? = some (C, T, N)) (hi0 : i0 < im_N) (he : im_cn g ad S i0 = .inr (ci, fs)) (w1 : Cond.methodLink own index y ∈ al_W) (w2 : Cond.instanceMethod y ∈ al_W) (w3 : Cond.selects C y y ∈ al_W) (w4 : Cond.initialized C ∈ al_W) (w5 : Cond.code y cc' nL' ret' ∈ al_W)
    (hdy : y.cls = C ∧ y.cls ≠ "java/lang/invoke/MethodHandle" ∧ y.cls ≠ "java/lang/invoke/VarHandle" ∧ (parseMethodDescriptor y.desc).map (fun d => d.parameters.length) = some na) (hR1 : d' + 1 ≤ d) (hR2 : 8 + (nL' + 11) + 40 * d' ≤ 40 * d) (hst : (rest.map fun v => v.category).sum ≤ 8) (hstk : st = As.reverse ++ .ref (ad i0) :: rest)
    (hd : decode cc pc = .ok (.invokevirtual index, 3)) (kk : ∀ r, o = .inr r → im_V p l e (im_R d 1 6) s m args below meth c g nL Q ad im_N (im_cn g ad S') 0 0 (pc + 3) lv (r.toList ++ rest))
    (kx : ∀ E, o = .inl E → ∃ (rows : List ExceptionTableEntry) (x : ExceptionTableEntry) (suf : List ExceptionTableEntry) (name : String), c.exceptionTable.toList = rows ++ x :: suf ∧ (∀ z ∈ rows, covers z pc = false ∨ (z.catchType ≠ 0 ∧ ∃ nm : String, Cond.classLink own z.catchType nm ∈ al_W ∧ va_Nc E nm s)) ∧ covers x pc = true ∧ x.catchType ≠ 0 ∧ Cond.classLink own x.catchType name ∈ al_W ∧ (Cond.castable E name).before args s = true ∧ ∀ q : Nat, im_V p l e (im_R d 1 6) s m args below meth c g nL Q ad im_N (im_cn g ad S') 0 0 x.handlerPc lv [.ref q]) :
    im_V p l e (im_R d 1 6) s m args below meth c g nL Q ad im_N (im_cn g ad S) 1 6 pc lv st := by
  intro M hR ls H locs cells slots hl hP hD hS h1 h2
  obtain ⟨q0, hq⟩ := pl_get (f := M.2) (hR.1 i0 hi0).1
  rw [(hR.1 i0 hi0).2, he] at hq
  have g1 : cells + 1 = 1 := h1
  have g2 : slots + 6 = 6 := h2
  have hrun := vx_runV (rest := rest) (As := As) ⟨X.1, X.2.1, X.2.2.1, X.2.2.2.1, X.2.2.2.2.1⟩ (hM M hR) (cwV As.length X.2.2.2.2.1 (im_goodV w1 w2 w3 w4 w5) rfl rfl rfl (by rw [hna]; exact hdy) ⟨hR1, hR2⟩) (R := im_R d 1 6) (p := p) (e := e) (below := below) (meth := meth) (H := H) (locs := locs) (cells := cells) (slots := slots) (g := F0 m pc ls st) ⟨im_blind, va_recv X.2.2.2.2.2.1 hP hc hq, fun U hU hW => ⟨rfl, im_Uof X hP hD hS hU hW⟩⟩ rfl rfl hl.1 hstk (lv_room hst) hd ⟨by show cells + 1 ≤ 1; omega, by show slots + 6 ≤ 6; omega⟩
  intro T hT X2
  rcases hrun T hT X2 with ⟨v, st₀, t, T', L, h0, X', hL, e1, e2, ⟨⟨r, M', hv, ⟨ho, hRep⟩, hU⟩, hz, hk⟩, stp⟩ | ⟨q, st₀, t, T', L, E, ce, h0, X', hL, e1, e2, ⟨M', ⟨ho, hRep⟩, hP', hD', hz, hk⟩, hcell, hvm, hcl, stp⟩
  · cases hv
    rw [h0] at hz hk
    have hS' : va_S (im_A g) s.heap T'.heap (locs ++ L) := ⟨Nat.le_trans hS.1 (by rw [e1]; exact hz), fun q g1 g2 => by rw [e1, hk q (Nat.lt_of_lt_of_le g1 hS.1) g2]; exact hS.2.1 q g1 g2, fun q hq => by
        rcases List.mem_append.mp hq with h | h
        · exact hS.2.2 q h
        · exact hL q h⟩
    obtain ⟨t2, a1, b1⟩ := kk v ho M' hRep ls T'.heap (locs ++ L) (cells + 1) (slots + 6) hl (by rw [e1]; exact hU.2.2.1) hU.2.2.2.2.1 hS' g1 g2 T' rfl X'
    exact ⟨t2, stp t2 a1, b1⟩
  · rw [h0] at hz hk
    have hS' : va_S (im_A g) s.heap T'.heap (locs ++ L) := ⟨Nat.le_trans hS.1 (by rw [e1]; exact hz), fun q g1 g2 => by rw [e1, hk q (Nat.lt_of_lt_of_le g1 hS.1) g2]; exact hS.2.1 q g1 g2, fun q hq => by
        rcases List.mem_append.mp hq with h | h
        · exact hS.2.2 q h
        · exact hL q h⟩
    obtain ⟨rows, x, suf, name, hsplit, hpass, hx, hx0, hlk, hcast, kw⟩ := kx E ho
    have kc := cx_catch (p := p) (l := l) (e := e) (R := im_R d 1 6) (below := below) (meth := meth) (locs := locs ++ L) (cells := cells + 1) (slots := slots + 6) (Q := Q) (pc := pc) (ls := ls) (rest := rest) (H := T'.heap) X.2.2.2.1 rows x suf hsplit (fun z hz9 => by
      rcases hpass z hz9 with h | ⟨hz1, nm, hn1, hn2⟩
      · exact Or.inl h
      · exact Or.inr ⟨hz1, nm, X.2.2.2.2.1 _ hn1, hn2⟩) hx hx0 (X.2.2.2.2.1 _ hlk) hcast (by rw [e1]; exact hcell) hvm hcl (kw q M' hRep ls T'.heap (locs ++ L) (cells + 1) (slots + 6) hl (by rw [e1]; exact hP') hD' hS' g1 g2)
    obtain ⟨t2, a1, b1⟩ := kc T' rfl X'
    exact ⟨t2, stp.trans a1, b1⟩
theorem is_iretH {own : String} (X : im_X p l s m args meth c g cc nL own (some .int)) {x : Int32} (hd : decode cc pc = .ok (.ireturn, 1)) : im_V p l e (im_R d 1 6) s m args below meth c g nL (im_ZH below g ad args s (some (.int x)) S) ad im_N (im_cn g ad S) 0 0 pc lv [.int x] :=
  fun M hM => ir_iret (R := im_R d 1 6) X hd ⟨rfl, hM⟩
end IMH2
theorem tw_cIAE : Cond.castable xIAE xIAE ∈ im_tw := by decide +kernel
theorem tw_cISE : Cond.castable xISE xISE ∈ im_tw := by decide +kernel
theorem tw_cAE : Cond.castable xAE xAE ∈ im_tw := by decide +kernel
theorem tw_cNSE : Cond.castable xNSE xNSE ∈ im_tw := by decide +kernel
theorem wl_LIAE : Cond.classLink RL 13 xIAE ∈ al_W := al_of (by decide +kernel) rfl
theorem wl_LISE : Cond.classLink RL 19 xISE ∈ al_W := al_of (by decide +kernel) rfl
theorem wl_LAE : Cond.classLink RL 21 xAE ∈ al_W := al_of (by decide +kernel) rfl
theorem wl_LNSE : Cond.classLink RL 27 xNSE ∈ al_W := al_of (by decide +kernel) rfl
theorem im_cst {g : im_G} {s : State} {args : Array Value} {w : Cond} (hZ : ∀ V, g.2.2.2 V → im_Zs g V) (h : ∀ V : State, s.WarmedH V.vm → g.2.2.2 V) (hw : w ∈ im_tw) : w.before args s = true := va_Nw.use (tw_onA w hw) ((hZ s (h s (State.WarmedH.refl s))).2.1 w hw)
