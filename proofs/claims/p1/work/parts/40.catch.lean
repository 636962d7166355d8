/-! A THROW CAUGHT BY THE CALLER: the rows of its table are gone through from the first on; each that covers the place links its class (which may be its first use) and takes the object or does not. -/
/-- a row of the table, seen from the start s0: it is passed, its class (if the place is covered) does not take the thrown one -/
def cx_pass (pl : Platform) (s0 : State) (own : ClassId) (pc : Nat) (thrown : ClassId) (z : ExceptionTableEntry) : Prop :=
  covers z pc = false ∨ (z.catchType ≠ 0 ∧ ∃ k, s0.vm.ClassLinks pl own z.catchType k ∧ s0.vm.assignable thrown k = false)
theorem cx_link {Q : Handler → Pre} {E : CtlPost} {e : Env} {d : Bool} {acts : List Action} {S : State} {f : JFrame} {a : Addr} {x : ExceptionTableEntry} {t : List ExceptionTableEntry} {k : ClassId} {ce : Cell} (hx : covers x f.pc = true) (h0 : x.catchType ≠ 0)
    (hl : S.vm.ClassLinks e.platform f.method.cls x.catchType k) (hcell : S.heap[a]? = some ce) (hobj : ∀ j, ce.vm ≠ .statics j) (hk : ∃ j, S.vm.classes[ce.cls]? = some j) (hc : ∃ j, S.vm.classes[k]? = some j) :
    (S.vm.assignable ce.cls k = true → (wp (findHandler.go f a (x :: t)) Q E e d acts S ↔ Q (.found x.handlerPc) d acts (S.setVm (S.vm.noted f.method.cls x.catchType (.cls k))))) ∧
    (S.vm.assignable ce.cls k = false → (wp (findHandler.go f a (x :: t)) Q E e d acts S ↔ wp (findHandler.go f a t) Q E e d acts (S.setVm (S.vm.noted f.method.cls x.catchType (.cls k))))) := by
  have ho := (resolveClass_links e.toSetting hl).op (op := VmOp.resolveClass f.method.cls x.catchType) rfl
  have hal : S.vm.Alike (S.vm.noted f.method.cls x.catchType (.cls k)) := (Vm.Alike.refl S.vm).noted _ _ _
  obtain ⟨j1, e1⟩ := hk
  obtain ⟨j2, e2⟩ := hc
  obtain ⟨j1', e1', -⟩ := hal.2.2 _ _ e1
  obtain ⟨j2', e2', -⟩ := hal.2.2 _ _ e2
  simp only [covers] at hx
  constructor
  · intro hf
    rw [← hal.assignable] at hf
    simp [findHandler.go, hx, h0, ho.1, ho.2, hcell, hobj, e1', e2', hf, VmOp.dirties, VmOp.acts]
  · intro hf
    rw [← hal.assignable] at hf
    simp [findHandler.go, hx, h0, ho.1, ho.2, hcell, hobj, e1', e2', hf, VmOp.dirties, VmOp.acts]
theorem cx_find {e : Env} {s0 : State} {f : JFrame} {a : Addr} {ce : Cell} (hobj : ∀ j, ce.vm ≠ .statics j) (hk0 : ∃ j, s0.vm.classes[ce.cls]? = some j) (x : ExceptionTableEntry) (suf : List ExceptionTableEntry) (hx : covers x f.pc = true) (h0 : x.catchType ≠ 0) {k : ClassId}
    (hl : s0.vm.ClassLinks e.platform f.method.cls x.catchType k) (hfit : s0.vm.assignable ce.cls k = true) :
    ∀ (rows : List ExceptionTableEntry) (S : State), s0.WarmedH S.vm → S.heap[a]? = some ce → (∀ z ∈ rows, cx_pass e.platform s0 f.method.cls f.pc ce.cls z) →
      ∃ vm', s0.WarmedH vm' ∧ ∀ (Q : Handler → Pre) (E : CtlPost) (d : Bool) (acts : List Action), wp (findHandler.go f a (rows ++ x :: suf)) Q E e d acts S ↔ Q (.found x.handlerPc) d acts (S.setVm vm') := by
  obtain ⟨j0, ej⟩ := hk0
  have link : ∀ (z : ExceptionTableEntry) (k' : ClassId) (S : State), s0.WarmedH S.vm → s0.vm.ClassLinks e.platform f.method.cls z.catchType k' → s0.WarmedH (S.vm.noted f.method.cls z.catchType (.cls k')) ∧ ∃ j, S.vm.classes[k']? = some j := by
    intro z k' S hW hz
    obtain ⟨dk, _, _, kt, hd, _, _, _, _, hkt, _, hop⟩ := hz.here
    obtain ⟨kt', hkt', -⟩ := hW.alike.2.2 _ _ hkt
    exact ⟨hW.noted hd hop (State.rightAt_cls hz), kt', hkt'⟩
  intro rows
  induction rows with
  | nil =>
    intro S hW hcell _
    obtain ⟨j1, ej1, -⟩ := hW.alike.2.2 _ _ ej
    obtain ⟨hW', hc'⟩ := link x k S hW hl
    exact ⟨_, hW', fun Q E d acts => (cx_link hx h0 (hW.classLinks hl) hcell hobj ⟨j1, ej1⟩ hc').1 (by rw [hW.alike.assignable]; exact hfit)⟩
  | cons z zs ih =>
    intro S hW hcell hp
    obtain ⟨j1, ej1, -⟩ := hW.alike.2.2 _ _ ej
    have hp' : ∀ w ∈ zs, cx_pass e.platform s0 f.method.cls f.pc ce.cls w := fun w hw => hp w (List.mem_cons_of_mem _ hw)
    cases hcov : covers z f.pc with
    | false =>
      obtain ⟨vm', hW', hq⟩ := ih S hW hcell hp'
      exact ⟨vm', hW', fun Q E d acts => by rw [List.cons_append, W.findHandler_go_skip hcov]; exact hq Q E d acts⟩
    | true =>
      rcases hp z List.mem_cons_self with h | ⟨hz0, k', hz, hno⟩
      · rw [h] at hcov; cases hcov
      · obtain ⟨hW1, hc1⟩ := link z k' S hW hz
        obtain ⟨vm', hW', hq⟩ := ih (S.setVm (S.vm.noted f.method.cls z.catchType (.cls k'))) hW1 hcell hp'
        exact ⟨vm', hW', fun Q E d acts => ((cx_link hcov hz0 (hW.classLinks hz) hcell hobj ⟨j1, ej1⟩ hc1).2 (by rw [hW.alike.assignable]; exact hno)).trans (hq Q E d acts)⟩
theorem cx_steps {tb : Tables} {e : Env} {S tg : State} {f : JFrame} {c : Code} {below : List Frame} {a : Addr} (h : At S f.method c below) {pc : Nat} {vm' : Vm}
    (hfind : ∀ (Q : Handler → Pre) (E : CtlPost) (d : Bool) (acts : List Action), wp (findHandler f a) Q E e d acts ((S.setTop f).pushFrame (.throwing a)) ↔ Q (.found pc) d acts (((S.setTop f).pushFrame (.throwing a)).setVm vm'))
    (hrest : Steps tb e below ((S.setVm vm').setTop { f with pc := pc, stack := [.ref a] }) tg) : Steps tb e below ((S.setTop f).pushFrame (.throwing a)) tg := by
  obtain ⟨hgo, hw⟩ := h.throwing a
  obtain ⟨f0, hf0⟩ := Option.isSome_iff_exists.mp h.top
  obtain ⟨r, hr⟩ := State.topJava?_eq_some.mp hf0
  have hstep : (stepThrowing e ((S.setTop f).pushFrame (.throwing a)) a (.java f :: S.frames.tail)).Is ((((S.setTop f).pushFrame (.throwing a)).setVm vm').setFrames (.java { f with pc := pc, stack := [.ref a] } :: S.frames.tail)) [] := by
    simp only [stepThrowing, searchFrame, vmDo]
    generalize hres : Sem.go _ e false [] ((S.setTop f).pushFrame (.throwing a)) = res
    obtain ⟨as, rfl, ha⟩ := Sem.eq_ok_of hres (a := Handler.found pc) (s' := ((S.setTop f).pushFrame (.throwing a)).setVm vm') (acts' := []) (by simp [hfind _ _ _ _])
    exact ⟨rfl, ha⟩
  refine Steps.head hgo hw ?_
  rw [stepThread_throwing (frames_entered h.top _), hstep.1]
  have hr' : (S.setVm vm').frames = .java f0 :: r := hr
  rw [State.setTop_of_frames _ hr'] at hrest
  have e1 : ((S.setTop f).pushFrame (.throwing a)).setVm vm' = (S.setVm vm').setFrames (.throwing a :: .java f :: r) := by
    rw [State.pushFrame, State.frames_setTop _ hr, State.setTop_of_frames _ hr, State.setFrames_setFrames]
    rfl
  rw [e1, State.setFrames_setFrames, hr, List.tail_cons]
  exact hrest
section CXR
variable {p : Program} {l : Launch} {e : Env} {R : Room} {s : State} {m : MethodId} {args : Array Value} {below : List Frame} {meth : Method} {c : Code} {H : Heap} {locs : List Loc} {cells slots : Nat} {Q : State → Prop} {pc : Nat} {ls : Array Slot} {rest : List Value}
/-- caught: the walk goes on at the handler, the thrown object alone on the stack -/
theorem cx_catch {own name E : String} {ce : Cell} {q : Addr} (hown : s.vm.findClass own = some m.cls) (rows : List ExceptionTableEntry) (x : ExceptionTableEntry) (suf : List ExceptionTableEntry) (hsplit : c.exceptionTable.toList = rows ++ x :: suf)
    (hpass : ∀ z ∈ rows, covers z pc = false ∨ (z.catchType ≠ 0 ∧ ∃ nm : String, (Cond.classLink own z.catchType nm).before args s = true ∧ va_Nc E nm s)) (hx : covers x pc = true) (h0 : x.catchType ≠ 0)
    (hlink : (Cond.classLink own x.catchType name).before args s = true) (hcast : (Cond.castable E name).before args s = true) (hcell : H[q]? = some ce) (hv : ce.vm = .none) (hcl : s.vm.findClass E = some ce.cls)
    (kk : W p l e R s m args below meth c H locs cells slots Q (F0 m x.handlerPc ls [.ref q])) : vx_W p l e R s m args below meth c H locs cells slots Q (F0 m pc ls rest) q := by
  intro T hT X
  have hpl : e.platform.magicAccessors = ({} : Platform).magicAccessors := by rw [X.admits.platform]
  obtain ⟨c3, c4, hc3, hc4, hasg⟩ := Cond.castable_spec hcast
  cases Option.some.inj (hc3.symm.trans hcl)
  obtain ⟨c5, hc5, hl5⟩ := Cond.classLink_spec hown hlink e.platform hpl
  cases Option.some.inj (hc4.symm.trans hc5)
  have hk0 : ∃ j, s.vm.classes[ce.cls]? = some j := by obtain ⟨k9, h9, -⟩ := Vm.findClass_spec hcl; exact ⟨k9, h9⟩
  obtain ⟨vm', hW', hf⟩ := cx_find (f := F0 m pc ls rest) (a := q) (ce := ce) (fun j hj => by rw [hv] at hj; cases hj) hk0 x suf hx h0 hl5 hasg rows ((T.setTop (F0 m pc ls rest)).pushFrame (.throwing q)) X.warmed (show T.heap[q]? = some ce by rw [hT]; exact hcell) (fun z hz => by
    rcases hpass z hz with h | ⟨hz0, nm, hl1, hn1⟩
    · exact Or.inl h
    · obtain ⟨c6, hc6, hl6⟩ := Cond.classLink_spec hown hl1 e.platform hpl
      obtain ⟨a8, b8, g1, g2, g3⟩ := hn1
      cases Option.some.inj (g1.symm.trans hcl)
      cases Option.some.inj (g2.symm.trans hc6)
      exact Or.inr ⟨hz0, _, hl6, g3⟩)
  have X' := X.noted hW'
  obtain ⟨t, a1, b1⟩ := kk (T.setVm vm') hT X'
  refine ⟨t, ?_, b1⟩
  exact cx_steps (f := F0 m pc ls rest) X.here (fun Q E d acts => by rw [W.findHandler_eq (show ((T.setTop (F0 m pc ls rest)).pushFrame (.throwing q)).vm.method? m = some meth from X.method') X.code, hsplit]; exact hf Q E d acts) a1
end CXR
