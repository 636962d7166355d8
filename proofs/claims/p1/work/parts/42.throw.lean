/-! methods that throw, and their callers -/
def im_names : List String := ["java/lang/RuntimeException", "java/lang/Exception"]
abbrev xIAE : String := "java/lang/IllegalArgumentException"
abbrev xISE : String := "java/lang/IllegalStateException"
abbrev xAE : String := "java/lang/ArithmeticException"
abbrev xNSE : String := "java/util/NoSuchElementException"
/-- the words of the throws that are not of the good kind: they come with the start -/
def im_tw : List Cond := (vx_at0 RX10 45 xIAE im_names ++ (vx_at0 RX10 95 xISE im_names ++ (vx_at0 RX10 101 xAE im_names ++ vx_at0 RX10 120 xNSE im_names))).filter (fun w => !goodWord w)
/-- what the start gives beside the tables' good words -/
def im_Zs (g : im_G) (V : State) : Prop := im_nest V ∧ (∀ w ∈ im_tw, va_Nw w V) ∧ vx_Zq Bundle.tN "UNASSIGNED_STACK" Bundle.steD (im_A g) V g.2.2.1 ∧ vx_Zq Bundle.tN "SUPPRESSED_SENTINEL" Bundle.listD (im_A g) V g.2.2.1 ∧ va_Nc xIAE xISE V ∧ va_Nc xAE xISE V ∧ va_Nc xAE xIAE V
def im_XC (g : im_G) (FX : String → im_M → Prop) : String → State → State → Prop := fun E st t => ∃ M' : im_M, FX E M' ∧ va_P g.1 vwCl (va_pl M'.1 M'.2) t.heap ∧ va_D (im_A g) (va_pl M'.1 M'.2) ∧ va_F (im_A g) st t
def im_CX (l : Launch) (g : im_G) (d : Nat) (y : MethodName) (cc : ByteArray) (nL : Nat) (ret : Option FieldType) (mc ms : Nat) (vs : List Value) (M : im_M) (F : Option Value → im_M → Prop) (FX : String → im_M → Prop) : Prop :=
  vx_Met l y (im_ws y cc nL ret) (im_R d mc ms) (va_Pc vs (im_U g M)) (im_Q g F) (im_XC g FX) mc ms (im_A g)
theorem tw_of {w : Cond} {L : List Cond} (hw : w ∈ L.filter (fun w => !goodWord w)) (hL : ∀ z ∈ L, z ∈ vx_at0 RX10 45 xIAE im_names ++ (vx_at0 RX10 95 xISE im_names ++ (vx_at0 RX10 101 xAE im_names ++ vx_at0 RX10 120 xNSE im_names))) : w ∈ im_tw :=
  List.mem_filter.mpr ⟨hL w (List.mem_filter.mp hw).1, (List.mem_filter.mp hw).2⟩
theorem tw_onA : ∀ w ∈ im_tw, w.onTables = true := by decide +kernel
theorem twg_45 : ∀ w ∈ (vx_at0 RX10 45 xIAE im_names).filter goodWord, w ∈ lw_tbl := by decide +kernel
theorem twg_95 : ∀ w ∈ (vx_at0 RX10 95 xISE im_names).filter goodWord, w ∈ lw_tbl := by decide +kernel
theorem twg_101 : ∀ w ∈ (vx_at0 RX10 101 xAE im_names).filter goodWord, w ∈ lw_tbl := by decide +kernel
theorem twg_120 : ∀ w ∈ (vx_at0 RX10 120 xNSE im_names).filter goodWord, w ∈ lw_tbl := by decide +kernel
theorem two_45 : ∀ w ∈ Cond.classLink RX10 43 xIAE :: Cond.initialized xIAE :: vx_at0 RX10 45 xIAE im_names, vx_ot w = true := by decide +kernel
theorem two_95 : ∀ w ∈ Cond.classLink RX10 93 xISE :: Cond.initialized xISE :: vx_at0 RX10 95 xISE im_names, vx_ot w = true := by decide +kernel
theorem two_101 : ∀ w ∈ Cond.classLink RX10 99 xAE :: Cond.initialized xAE :: vx_at0 RX10 101 xAE im_names, vx_ot w = true := by decide +kernel
theorem two_120 : ∀ w ∈ Cond.classLink RX10 118 xNSE :: Cond.initialized xNSE :: vx_at0 RX10 120 xNSE im_names, vx_ot w = true := by decide +kernel
section IMT
variable {p : Program} {l : Launch} {e : Env} {R : Room} {s : State} {m : MethodId} {args : Array Value} {below : List Frame} {meth : Method} {c : Code} {g : im_G} {cc : ByteArray} {nL : Nat} {own : String} {ret : Option FieldType} {Q : State → Prop}
variable {bc bs bc' bs' pc : Nat} {lv lv' : List (Nat × Value)} {st : List Value} {M : im_M} {F : Option Value → im_M → Prop} {FX : String → im_M → Prop} {mc ms : Nat}
theorem im_metX {d : Nat} {y : MethodName} {vs : List Value} (hy : plainName y.cls = true) (hown : y.cls = own) (hvs : (lg_sl vs).length ≤ nL)
    (body : ∀ (p : Program) (e : Env) (s : State) (m : MethodId) (below : List Frame) (meth : Method) (c : Code), im_X p l s m vs.toArray meth c g cc nL own ret → (∀ x ∈ c.exceptionTable.toList, False) → im_W p l e (im_R d mc ms) s m vs.toArray below meth c g nL (vx_MQ below (im_Q g F) (im_XC g FX) vs.toArray s mc ms (im_A g)) mc ms 0 (lv_args 0 vs) [] M) :
    im_CX l g d y cc nL ret mc ms vs M F FX := by
  refine vx_ofW (cc := cc) (maxL := nL) (ret := ret) hy rfl ?_
  intro p e s m args below meth c s₁ B hml hnt hv
  obtain ⟨rfl, h1, h2, h3, h4, h5, h6⟩ := hv
  have hts := atoms_spec (ws := im_ws y cc nL ret) B.pre
  have hownS : s.vm.findClass own = some m.cls := by rw [← hown]; exact findClass_of_methodNamed B.named
  have hb := body p e s m below meth c ⟨B.exec, B.bytes, hml, hownS, fun w hw => hts w (List.mem_cons_of_mem _ hw), h4, h1, h2, h6, B.returns, B.notSynchronized⟩ hnt
  rw [lg_entry_eq]
  exact hb _ s.heap [] 0 0 (lv_entry vs hvs) h3 h5 va_S.rf (Nat.zero_add mc) (Nat.zero_add ms)
theorem ir_retX (k : im_W p l e R s m args below meth c g nL (MQ below (im_Q g F) args s mc ms (im_A g)) bc bs pc lv st M) : im_W p l e R s m args below meth c g nL (vx_MQ below (im_Q g F) (im_XC g FX) args s mc ms (im_A g)) bc bs pc lv st M :=
  fun ls H locs cells slots hl hP hD hS h1 h2 => vx_ret (k ls H locs cells slots hl hP hD hS h1 h2)
theorem ir_throw (X : im_X p l s m args meth c g cc nL own ret) (hlT : l.stackTraces = false) (hZ : ∀ V, g.2.2.2 V → im_Zs g V) {cls : String} {ik ic : Nat} (hcls : Bundle.fit cls = true) (hk : Cond.classLink own ik cls ∈ al_W) (hini : Cond.initialized cls ∈ al_W)
    (hg1 : ∀ w ∈ (vx_at0 own ic cls im_names).filter goodWord, w ∈ lw_tbl) (hg2 : ∀ w ∈ (vx_at0 own ic cls im_names).filter (fun w => !goodWord w), w ∈ im_tw) (hot : ∀ w ∈ Cond.classLink own ik cls :: Cond.initialized cls :: vx_at0 own ic cls im_names, vx_ot w = true)
    (d0 : decode cc pc = .ok (.new ik, 3)) (d3 : decode cc (pc + 3) = .ok (.dup, 1)) (d4 : decode cc (pc + 4) = .ok (.invokespecial ic, 3)) (d7 : decode cc (pc + 7) = .ok (.athrow, 1)) (hnt : ∀ x ∈ c.exceptionTable.toList, False)
    (hR1 : 5 < R.frames) (hR2 : (st.map fun v => v.category).sum + 81 ≤ R.locals) (hb1 : 1 ≤ bc) (hb2 : 6 ≤ bs) (h : FX cls M) :
    im_W p l e R s m args below meth c g nL (vx_MQ below (im_Q g F) (im_XC g FX) args s R.cells R.slots (im_A g)) bc bs pc lv st M := by
  intro ls H locs cells slots hl hP hD hS h1 h2
  obtain ⟨-, ztw, zU, zN, -⟩ := hZ s (X.2.2.2.2.2.2.2.2.1 s (State.WarmedH.refl s))
  have keep : ∀ a : Nat, a < g.2.2.1.size → ¬ im_A g a → s.heap[a]? = g.2.2.1[a]? := fun a ha _ => X.2.2.2.2.2.2.2.1 a ha
  have hat : ∀ w ∈ vx_at0 own ic cls im_names, w.before args s = true := vx_hat (B := im_tw) (fun w hw => X.2.2.2.2.1 w (al_of (hg1 w hw) (List.mem_filter.mp hw).2)) hg2 (fun w hw => va_Nw.use (tw_onA w hw) (ztw w hw))
  refine vx_throw0 X.1 X.2.1 hlT X.2.2.2.1 hcls (by decide +kernel) (X.2.2.2.2.1 _ hk) (X.2.2.2.2.1 _ hini) hat hot (vx_Zq.kept zU keep) (vx_Zq.kept zN keep) hS (hl.1.trans X.2.2.1.symm) d0 d3 d4 d7 (fun x hx => (hnt x hx).elim) hR1 hR2 (by omega) (by omega) X.2.2.2.2.2.2.2.2.2.2 (fun t ha hz hq => ?_) hS.2.2 (by omega) (by omega)
  refine ⟨M, h, hP.kept (fun k q hk => hq q.1 ((hP k q hk).lt)), hD, Nat.le_trans hS.1 hz, fun q q1 q2 => (hq q (Nat.lt_of_lt_of_le q1 hS.1)).trans (hS.2.1 q q1 q2)⟩
end IMT
