/-! THE POOL: a memory is a list of addresses and what each holds. Every method of the system is walked over the one pool. -/
abbrev im_M : Type := List Nat × (Nat → va_E)
abbrev im_G : Type := va_G × (Nat → ClassId) × Heap × (State → Prop)
abbrev im_tys (cy : Nat → ClassId) : List (ClassId × FieldType) := [(cy 0, .byte), (cy 1, .int), (cy 2, .long)]
/-- the addresses that may change: those made since the law began -/
abbrev im_A (g : im_G) : Nat → Prop := fun q => g.2.2.1.size ≤ q
/-- the room of a method that stands d calls high -/
abbrev im_R (d mc ms : Nat) : Room := { frames := d, cells := mc, slots := ms, locals := 40 * d }
/-- the state U holds the pool M; below the law's start the heap is as it was -/
def im_U (g : im_G) (M : im_M) (U : State) : Prop :=
  g.2.2.1.size ≤ U.heap.size ∧ (∀ q : Nat, q < g.2.2.1.size → U.heap[q]? = g.2.2.1[q]?) ∧ va_P g.1 vwCl (va_pl M.1 M.2) U.heap ∧
  va_K g.1 vwCl (im_tys g.2.1) U ∧ va_D (im_A g) (va_pl M.1 M.2) ∧ ∀ V : State, U.WarmedH V.vm → g.2.2.2 V
def im_Q (g : im_G) (F : Option Value → im_M → Prop) : Array Value → State → Outcome → State → Prop := fun _ st oc t =>
  (∃ (r : Option Value) (M : im_M), oc = .returned r ∧ F r M ∧ im_U g M t) ∧ va_F (im_A g) st t
abbrev im_ws (y : MethodName) (cc : ByteArray) (nL : Nat) (ret : Option FieldType) : List Cond := .code y cc nL ret :: al_W
/-- THE CONTRACT of a method: from the pool M with the arguments vs it returns, with F of its answer and the pool behind it; at most mc cells of ms slots are new -/
def im_C (l : Launch) (g : im_G) (d : Nat) (y : MethodName) (cc : ByteArray) (nL : Nat) (ret : Option FieldType) (mc ms : Nat) (vs : List Value) (M : im_M) (F : Option Value → im_M → Prop) : Prop :=
  Met l y (im_ws y cc nL ret) (im_R d mc ms) (va_Pc vs (im_U g M)) (im_Q g F) mc ms (im_A g)
/-- what a walk knows of its method -/
def im_X (p : Program) (l : Launch) (s : State) (m : MethodId) (args : Array Value) (meth : Method) (c : Code) (g : im_G) (cc : ByteArray) (nL : Nat) (own : String) (ret : Option FieldType) : Prop :=
  p.tables.exec = Jvm.exec ∧ c.code = cc ∧ c.maxLocals = nL ∧ s.vm.findClass own = some m.cls ∧ (∀ w ∈ al_W, w.before args s = true) ∧
  va_K g.1 vwCl (im_tys g.2.1) s ∧ g.2.2.1.size ≤ s.heap.size ∧ (∀ q : Nat, q < g.2.2.1.size → s.heap[q]? = g.2.2.1[q]?) ∧ (∀ V : State, s.WarmedH V.vm → g.2.2.2 V) ∧
  meth.sig.returnType = ret ∧ meth.locks = false
/-- the machine in the walked method at pc, with locals lv, stack st, pool M, and bc cells, bs slots left to make, comes to Q -/
def im_W (p : Program) (l : Launch) (e : Env) (R : Room) (s : State) (m : MethodId) (args : Array Value) (below : List Frame) (meth : Method) (c : Code) (g : im_G) (nL : Nat) (Q : State → Prop) (bc bs pc : Nat) (lv : List (Nat × Value)) (st : List Value) (M : im_M) : Prop :=
  ∀ (ls : Array Slot) (H : Heap) (locs : List Loc) (cells slots : Nat), lv_has ls nL lv → va_P g.1 vwCl (va_pl M.1 M.2) H → va_D (im_A g) (va_pl M.1 M.2) → va_S (im_A g) s.heap H locs →
    cells + bc = R.cells → slots + bs = R.slots → W p l e R s m args below meth c H locs cells slots Q (F0 m pc ls st)
def im_get : List (Nat × Value) → Nat → Option Value
  | [], _ => none
  | (k, v) :: r, i => if k = i then some v else im_get r i
theorem im_get_at : ∀ {lv : List (Nat × Value)} {i : Nat} {v : Value}, im_get lv i = some v → (i, v) ∈ lv
  | (k, w) :: r, i, v, h => by
    unfold im_get at h
    by_cases hk : k = i
    · rw [if_pos hk] at h; cases h; subst hk; exact List.mem_cons_self
    · rw [if_neg hk] at h; exact List.mem_cons_of_mem _ (im_get_at h)
theorem im_slot {ls : Array Slot} {nL : Nat} {lv : List (Nat × Value)} (h : lv_has ls nL lv) {i : Nat} {v : Value} (hv : im_get lv i = some v) : ls[i]? = some (.val v) := h.2.2 (i, v) (im_get_at hv)
abbrev im_st1 (lv : List (Nat × Value)) (i : Nat) (v : Value) : List (Nat × Value) := (i, v) :: lv.filter (fun q => !(q.1 == i) && !(q.1 + 1 == i && q.2.category == 2))
abbrev im_st2 (lv : List (Nat × Value)) (i : Nat) (v : Value) : List (Nat × Value) := (i, v) :: lv.filter (fun q => !(q.1 == i) && (!(q.1 == i + 1) && !(q.1 + 1 == i && q.2.category == 2)))
section IMR
variable {p : Program} {l : Launch} {e : Env} {R : Room} {s : State} {m : MethodId} {args : Array Value} {below : List Frame} {meth : Method} {c : Code} {g : im_G} {cc : ByteArray} {nL : Nat} {own : String} {ret : Option FieldType} {Q : State → Prop}
variable {bc bs pc : Nat} {lv lv' : List (Nat × Value)} {st : List Value} {M : im_M}
theorem ir_iconst (X : im_X p l s m args meth c g cc nL own ret) {n : Int} {v : Int32} (hd : decode cc pc = .ok (.iconst n, 1)) (hv : Int32.ofInt n = v) (k : im_W p l e R s m args below meth c g nL Q bc bs (pc + 1) lv (.int v :: st) M) : im_W p l e R s m args below meth c g nL Q bc bs pc lv st M :=
  fun ls H locs cells slots hl hP hD hS h1 h2 => lv_iconst X.1 X.2.1 hd hv (k ls H locs cells slots hl hP hD hS h1 h2)
theorem ir_bipush (X : im_X p l s m args meth c g cc nL own ret) {n : Int} {v : Int32} (hd : decode cc pc = .ok (.bipush n, 2)) (hv : (Int8.ofInt n).toInt32 = v) (k : im_W p l e R s m args below meth c g nL Q bc bs (pc + 2) lv (.int v :: st) M) : im_W p l e R s m args below meth c g nL Q bc bs pc lv st M :=
  fun ls H locs cells slots hl hP hD hS h1 h2 => lv_bipush X.1 X.2.1 hd hv (k ls H locs cells slots hl hP hD hS h1 h2)
theorem ir_sipush (X : im_X p l s m args meth c g cc nL own ret) {n : Int} {v : Int32} (hd : decode cc pc = .ok (.sipush n, 3)) (hv : (Int16.ofInt n).toInt32 = v) (k : im_W p l e R s m args below meth c g nL Q bc bs (pc + 3) lv (.int v :: st) M) : im_W p l e R s m args below meth c g nL Q bc bs pc lv st M :=
  fun ls H locs cells slots hl hP hD hS h1 h2 => lv_sipush X.1 X.2.1 hd hv (k ls H locs cells slots hl hP hD hS h1 h2)
theorem ir_lconst (X : im_X p l s m args meth c g cc nL own ret) {n : Fin 2} {v : Int64} (hd : decode cc pc = .ok (.lconst n, 1)) (hv : Int64.ofNat (n : Nat) = v) (k : im_W p l e R s m args below meth c g nL Q bc bs (pc + 1) lv (.long v :: st) M) : im_W p l e R s m args below meth c g nL Q bc bs pc lv st M :=
  fun ls H locs cells slots hl hP hD hS h1 h2 => lv_lconst X.1 X.2.1 hd hv (k ls H locs cells slots hl hP hD hS h1 h2)
theorem ir_iload_n (X : im_X p l s m args meth c g cc nL own ret) {k : Fin 4} {x : Int32} (hd : decode cc pc = .ok (.iload_n k, 1)) (hg : im_get lv k = some (.int x)) (kk : im_W p l e R s m args below meth c g nL Q bc bs (pc + 1) lv (.int x :: st) M) : im_W p l e R s m args below meth c g nL Q bc bs pc lv st M :=
  fun ls H locs cells slots hl hP hD hS h1 h2 => lv_iload_n X.1 X.2.1 hd rfl (im_slot hl hg) (kk ls H locs cells slots hl hP hD hS h1 h2)
theorem ir_iload (X : im_X p l s m args meth c g cc nL own ret) {i : Nat} {x : Int32} (hd : decode cc pc = .ok (.iload i, 2)) (hg : im_get lv i = some (.int x)) (kk : im_W p l e R s m args below meth c g nL Q bc bs (pc + 2) lv (.int x :: st) M) : im_W p l e R s m args below meth c g nL Q bc bs pc lv st M :=
  fun ls H locs cells slots hl hP hD hS h1 h2 => lv_iload X.1 X.2.1 hd (im_slot hl hg) (kk ls H locs cells slots hl hP hD hS h1 h2)
theorem ir_lload_n (X : im_X p l s m args meth c g cc nL own ret) {k : Fin 4} {x : Int64} (hd : decode cc pc = .ok (.lload_n k, 1)) (hg : im_get lv k = some (.long x)) (kk : im_W p l e R s m args below meth c g nL Q bc bs (pc + 1) lv (.long x :: st) M) : im_W p l e R s m args below meth c g nL Q bc bs pc lv st M :=
  fun ls H locs cells slots hl hP hD hS h1 h2 => lv_lload_n X.1 X.2.1 hd rfl (im_slot hl hg) (kk ls H locs cells slots hl hP hD hS h1 h2)
theorem ir_lload (X : im_X p l s m args meth c g cc nL own ret) {i : Nat} {x : Int64} (hd : decode cc pc = .ok (.lload i, 2)) (hg : im_get lv i = some (.long x)) (kk : im_W p l e R s m args below meth c g nL Q bc bs (pc + 2) lv (.long x :: st) M) : im_W p l e R s m args below meth c g nL Q bc bs pc lv st M :=
  fun ls H locs cells slots hl hP hD hS h1 h2 => lv_lload X.1 X.2.1 hd (im_slot hl hg) (kk ls H locs cells slots hl hP hD hS h1 h2)
theorem ir_aload_n (X : im_X p l s m args meth c g cc nL own ret) {k : Fin 4} {x : Nat} (hd : decode cc pc = .ok (.aload_n k, 1)) (hg : im_get lv k = some (.ref x)) (kk : im_W p l e R s m args below meth c g nL Q bc bs (pc + 1) lv (.ref x :: st) M) : im_W p l e R s m args below meth c g nL Q bc bs pc lv st M :=
  fun ls H locs cells slots hl hP hD hS h1 h2 => lv_aload_n X.1 X.2.1 hd rfl (im_slot hl hg) (kk ls H locs cells slots hl hP hD hS h1 h2)
theorem ir_aload (X : im_X p l s m args meth c g cc nL own ret) {i : Nat} {x : Nat} (hd : decode cc pc = .ok (.aload i, 2)) (hg : im_get lv i = some (.ref x)) (kk : im_W p l e R s m args below meth c g nL Q bc bs (pc + 2) lv (.ref x :: st) M) : im_W p l e R s m args below meth c g nL Q bc bs pc lv st M :=
  fun ls H locs cells slots hl hP hD hS h1 h2 => lv_aload X.1 X.2.1 hd (im_slot hl hg) (kk ls H locs cells slots hl hP hD hS h1 h2)
theorem ir_istore_n (X : im_X p l s m args meth c g cc nL own ret) {k : Fin 4} {x : Int32} (hd : decode cc pc = .ok (.istore_n k, 1)) (hn : (k : Nat) < nL) (hl' : im_st1 lv k (.int x) = lv') (kk : im_W p l e R s m args below meth c g nL Q bc bs (pc + 1) lv' st M) : im_W p l e R s m args below meth c g nL Q bc bs pc lv (.int x :: st) M :=
  fun ls H locs cells slots hl hP hD hS h1 h2 => lv_istore_n X.1 X.2.1 hd rfl hl hn hl' (fun ls' hl2 => kk ls' H locs cells slots hl2 hP hD hS h1 h2)
theorem ir_istore (X : im_X p l s m args meth c g cc nL own ret) {i : Nat} {x : Int32} (hd : decode cc pc = .ok (.istore i, 2)) (hn : i < nL) (hl' : im_st1 lv i (.int x) = lv') (kk : im_W p l e R s m args below meth c g nL Q bc bs (pc + 2) lv' st M) : im_W p l e R s m args below meth c g nL Q bc bs pc lv (.int x :: st) M :=
  fun ls H locs cells slots hl hP hD hS h1 h2 => lv_istore X.1 X.2.1 hd hl hn hl' (fun ls' hl2 => kk ls' H locs cells slots hl2 hP hD hS h1 h2)
theorem ir_astore_n (X : im_X p l s m args meth c g cc nL own ret) {k : Fin 4} {x : Nat} (hd : decode cc pc = .ok (.astore_n k, 1)) (hn : (k : Nat) < nL) (hl' : im_st1 lv k (.ref x) = lv') (kk : im_W p l e R s m args below meth c g nL Q bc bs (pc + 1) lv' st M) : im_W p l e R s m args below meth c g nL Q bc bs pc lv (.ref x :: st) M :=
  fun ls H locs cells slots hl hP hD hS h1 h2 => lv_astore_n X.1 X.2.1 hd rfl hl hn hl' (fun ls' hl2 => kk ls' H locs cells slots hl2 hP hD hS h1 h2)
theorem ir_astore (X : im_X p l s m args meth c g cc nL own ret) {i : Nat} {x : Nat} (hd : decode cc pc = .ok (.astore i, 2)) (hn : i < nL) (hl' : im_st1 lv i (.ref x) = lv') (kk : im_W p l e R s m args below meth c g nL Q bc bs (pc + 2) lv' st M) : im_W p l e R s m args below meth c g nL Q bc bs pc lv (.ref x :: st) M :=
  fun ls H locs cells slots hl hP hD hS h1 h2 => lv_astore X.1 X.2.1 hd hl hn hl' (fun ls' hl2 => kk ls' H locs cells slots hl2 hP hD hS h1 h2)
theorem ir_lstore_n (X : im_X p l s m args meth c g cc nL own ret) {k : Fin 4} {x : Int64} (hd : decode cc pc = .ok (.lstore_n k, 1)) (hn : (k : Nat) + 1 < nL) (hl' : im_st2 lv k (.long x) = lv') (kk : im_W p l e R s m args below meth c g nL Q bc bs (pc + 1) lv' st M) : im_W p l e R s m args below meth c g nL Q bc bs pc lv (.long x :: st) M :=
  fun ls H locs cells slots hl hP hD hS h1 h2 => lv_lstore_n X.1 X.2.1 hd rfl hl hn hl' (fun ls' hl2 => kk ls' H locs cells slots hl2 hP hD hS h1 h2)
theorem ir_lstore (X : im_X p l s m args meth c g cc nL own ret) {i : Nat} {x : Int64} (hd : decode cc pc = .ok (.lstore i, 2)) (hn : i + 1 < nL) (hl' : im_st2 lv i (.long x) = lv') (kk : im_W p l e R s m args below meth c g nL Q bc bs (pc + 2) lv' st M) : im_W p l e R s m args below meth c g nL Q bc bs pc lv (.long x :: st) M :=
  fun ls H locs cells slots hl hP hD hS h1 h2 => lv_lstore X.1 X.2.1 hd hl hn hl' (fun ls' hl2 => kk ls' H locs cells slots hl2 hP hD hS h1 h2)
theorem ir_iinc (X : im_X p l s m args meth c g cc nL own ret) {i : Nat} {n : Int} {x v : Int32} (hd : decode cc pc = .ok (.iinc i n, 3)) (hg : im_get lv i = some (.int x)) (hn : i < nL) (hv : x + Int32.ofInt n = v) (hl' : im_st1 lv i (.int v) = lv') (kk : im_W p l e R s m args below meth c g nL Q bc bs (pc + 3) lv' st M) : im_W p l e R s m args below meth c g nL Q bc bs pc lv st M := by
  intro ls H locs cells slots hl hP hD hS h1 h2
  obtain ⟨k, hk⟩ := List.getElem?_of_mem (im_get_at hg)
  exact lv_iinc X.1 X.2.1 hd hl hk hv hn hl' (fun ls' hl2 => kk ls' H locs cells slots hl2 hP hD hS h1 h2)
end IMR
