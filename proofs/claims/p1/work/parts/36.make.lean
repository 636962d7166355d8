/-! CONSTRUCTORS. The pool as two rows, addresses al and what they hold ct, in the order of making; in front of them whatever there was (al0, ct0). -/
def im_L (al : List Nat) (ct : List va_E) (M : im_M) : Prop := M.1 = al ∧ al.length = ct.length ∧ al.Nodup ∧ ∀ (j : Nat) (a : Nat) (x : va_E), al[j]? = some a → ct[j]? = some x → M.2 a = x
theorem im_L.new {al : List Nat} {ct : List va_E} {M : im_M} (h : im_L al ct M) {q : Nat} (hq : q ∉ M.1) (x : va_E) : im_L (al ++ [q]) (ct ++ [x]) (M.1 ++ [q], va_up M.2 q x) := by
  obtain ⟨h1, h2, h3, h4⟩ := h
  refine ⟨by rw [h1], by simp [h2], List.nodup_append.mpr ⟨h3, by simp, ?_⟩, ?_⟩
  · intro a ha b hb hab
    have : b = q := by simpa using hb
    subst this; subst hab; rw [h1] at hq; exact hq ha
  · intro j a y ha hy
    show va_up M.2 q x a = y
    by_cases hj : j < al.length
    · rw [List.getElem?_append_left hj] at ha
      rw [List.getElem?_append_left (h2 ▸ hj)] at hy
      have hne : a ≠ q := fun z => hq (by rw [h1, ← z]; exact List.mem_of_getElem? ha)
      rw [va_up_ne _ _ hne]; exact h4 j a y ha hy
    · rw [List.getElem?_append_right (by omega)] at ha
      rw [List.getElem?_append_right (by omega)] at hy
      have hz : j - al.length < 1 := (List.getElem?_eq_some_iff.mp ha).1
      rw [show j - al.length = 0 by omega] at ha
      rw [show j - ct.length = 0 by omega] at hy
      cases ha; cases hy; exact va_up_self _ _ _
theorem im_L.put {al : List Nat} {ct : List va_E} {M : im_M} (h : im_L al ct M) {j a : Nat} (ha : al[j]? = some a) (x : va_E) : im_L al (ct.set j x) (M.1, va_up M.2 a x) := by
  obtain ⟨h1, h2, h3, h4⟩ := h
  refine ⟨h1, by simp [h2], h3, ?_⟩
  intro i b y hb hy
  show va_up M.2 a x b = y
  by_cases hij : i = j
  · subst hij
    have : b = a := Option.some.inj (hb.symm.trans ha)
    subst this
    have hl : i < ct.length := by rw [← h2]; exact (List.getElem?_eq_some_iff.mp ha).1
    rw [List.getElem?_set_self hl] at hy
    cases hy; exact va_up_self _ _ _
  · rw [List.getElem?_set_ne (fun z => hij z.symm)] at hy
    have hne : b ≠ a := fun z => by
      subst z
      exact hij ((List.getElem?_inj (List.getElem?_eq_some_iff.mp hb).1 h3).mp (hb.trans ha.symm))
    rw [va_up_ne _ _ hne]; exact h4 i b y hb hy
theorem im_L.get {al : List Nat} {ct : List va_E} {M : im_M} (h : im_L al ct M) {j a : Nat} {x : va_E} (ha : al[j]? = some a) (hx : ct[j]? = some x) : a ∈ M.1 ∧ M.2 a = x := ⟨by rw [h.1]; exact List.mem_of_getElem? ha, h.2.2.2 j a x ha hx⟩
theorem pre_get {α : Type} (p0 l : List α) (j : Nat) : (p0 ++ l)[p0.length + j]? = l[j]? := by rw [List.getElem?_append_right (by omega)]; congr 1; omega
theorem pre_set {α : Type} (p0 l : List α) (j : Nat) (x : α) : (p0 ++ l).set (p0.length + j) x = p0 ++ l.set j x := by rw [List.set_append_right _ _ (by omega)]; congr 2; omega
/-- the walk of a constructor of the object a: in front of it what stood before (al0, ct0), behind it what it made (al, ct); fs: its fields -/
def im_K (p : Program) (l : Launch) (e : Env) (R : Room) (s : State) (m : MethodId) (args : Array Value) (below : List Frame) (meth : Method) (c : Code) (g : im_G) (nL : Nat) (Q : State → Prop) (al0 : List Nat) (ct0 : List va_E) (a ci : Nat) (fs : List Value) (al : List Nat) (ct : List va_E) (bc bs pc : Nat) (lv : List (Nat × Value)) (st : List Value) : Prop :=
  ∀ M : im_M, im_L (al0 ++ a :: al) (ct0 ++ .inr (ci, fs) :: ct) M → im_W p l e R s m args below meth c g nL Q bc bs pc lv st M
section IMN
variable {p : Program} {l : Launch} {e : Env} {R : Room} {s : State} {m : MethodId} {args : Array Value} {below : List Frame} {meth : Method} {c : Code} {g : im_G} {cc : ByteArray} {nL : Nat} {own : String} {ret : Option FieldType} {Q : State → Prop}
variable {al0 al al1 : List Nat} {ct0 ct ct1 : List va_E} {a ci : Nat} {fs : List Value} {bc bs bc' bs' pc : Nat} {lv lv' : List (Nat × Value)} {st : List Value}
theorem ik_iconst (X : im_X p l s m args meth c g cc nL own ret) {n : Int} {v : Int32} (hd : decode cc pc = .ok (.iconst n, 1)) (hv : Int32.ofInt n = v) (k : im_K p l e R s m args below meth c g nL Q al0 ct0 a ci fs al ct bc bs (pc + 1) lv (.int v :: st)) : im_K p l e R s m args below meth c g nL Q al0 ct0 a ci fs al ct bc bs pc lv (st) := fun M hM => ir_iconst X hd hv (k M hM)
theorem ik_bipush (X : im_X p l s m args meth c g cc nL own ret) {n : Int} {v : Int32} (hd : decode cc pc = .ok (.bipush n, 2)) (hv : (Int8.ofInt n).toInt32 = v) (k : im_K p l e R s m args below meth c g nL Q al0 ct0 a ci fs al ct bc bs (pc + 2) lv (.int v :: st)) : im_K p l e R s m args below meth c g nL Q al0 ct0 a ci fs al ct bc bs pc lv (st) := fun M hM => ir_bipush X hd hv (k M hM)
theorem ik_sipush (X : im_X p l s m args meth c g cc nL own ret) {n : Int} {v : Int32} (hd : decode cc pc = .ok (.sipush n, 3)) (hv : (Int16.ofInt n).toInt32 = v) (k : im_K p l e R s m args below meth c g nL Q al0 ct0 a ci fs al ct bc bs (pc + 3) lv (.int v :: st)) : im_K p l e R s m args below meth c g nL Q al0 ct0 a ci fs al ct bc bs pc lv (st) := fun M hM => ir_sipush X hd hv (k M hM)
theorem ik_aload_n (X : im_X p l s m args meth c g cc nL own ret) {k : Fin 4} {x : Nat} (hd : decode cc pc = .ok (.aload_n k, 1)) (hg : im_get lv k = some (.ref x)) (kk : im_K p l e R s m args below meth c g nL Q al0 ct0 a ci fs al ct bc bs (pc + 1) lv (.ref x :: st)) : im_K p l e R s m args below meth c g nL Q al0 ct0 a ci fs al ct bc bs pc lv (st) := fun M hM => ir_aload_n X hd hg (kk M hM)
theorem ik_dup (X : im_X p l s m args meth c g cc nL own ret) {va : Value} (hd : decode cc pc = .ok (.dup, 1)) (hva : va.category = 1) (k : im_K p l e R s m args below meth c g nL Q al0 ct0 a ci fs al ct bc bs (pc + 1) lv (va :: va :: st)) : im_K p l e R s m args below meth c g nL Q al0 ct0 a ci fs al ct bc bs pc lv (va :: st) := fun M hM => ir_dup X hd hva (k M hM)
theorem ik_ldc (X : im_X p l s m args meth c g cc nL own ret) {index : Nat} {v : Int32} (hw : Jvm.Cond.constant own index v ∈ al_W) (hd : decode cc pc = .ok (.ldc index, 2)) (k : im_K p l e R s m args below meth c g nL Q al0 ct0 a ci fs al ct bc bs (pc + 2) lv (.int v :: st)) : im_K p l e R s m args below meth c g nL Q al0 ct0 a ci fs al ct bc bs pc lv st := fun M hM => ir_ldc X hw hd (k M hM)
theorem ik_objInit (X : im_X p l s m args meth c g cc nL own ret) {index : Nat} {b : Nat} (hlink : Cond.methodLink own index Lib.objectInit ∈ al_W) (hd : decode cc pc = .ok (.invokespecial index, 3)) (hR1 : 1 ≤ R.frames) (hR2 : (st.map fun v => v.category).sum + 12 ≤ R.locals) (kk : im_K p l e R s m args below meth c g nL Q al0 ct0 a ci fs al ct bc bs (pc + 3) lv st) : im_K p l e R s m args below meth c g nL Q al0 ct0 a ci fs al ct bc bs pc lv (.ref b :: st) := fun M hM => ir_objInit X hlink wi_objectInit wc_objectInit hd hR1 hR2 (kk M hM)
theorem im_L.new2 {M : im_M} {x0 : va_E} (h : im_L (al0 ++ a :: al) (ct0 ++ x0 :: ct) M) {q : Nat} (hq : q ∉ M.1) (x : va_E) : im_L (al0 ++ a :: (al ++ [q])) (ct0 ++ x0 :: (ct ++ [x])) (M.1 ++ [q], va_up M.2 q x) := by
  have := h.new hq x
  simpa only [List.append_assoc, List.cons_append] using this
theorem ik_new (X : im_X p l s m args meth c g cc nL own ret) {C : String} {T : u_T} {N index : Nat} (cj : Nat) (gs : List Value) (ty : Nat → FieldType) (hty : ∀ k, k < N → parseFieldDescriptor (T k).2.2.1 = some (ty k)) (hc : vwCl[cj]? = some (C, T, N)) (hin : ∀ w ∈ u_ws C T N, w ∈ al_W) (hcl : Cond.classLink own index C ∈ al_W) (hins : Cond.instantiable C N ∈ al_W) (hini : Cond.initialized C ∈ al_W) (hfs : ∀ j, j < N → defaultValue (ty j) = vp_V gs j) (hd : decode cc pc = .ok (.new index, 3)) (hb1 : bc = bc' + 1) (hb2 : bs = bs' + N)
    (kk : ∀ q : Nat, im_K p l e R s m args below meth c g nL Q al0 ct0 a ci fs (al ++ [q]) (ct ++ [.inr (cj, gs)]) bc' bs' (pc + 3) lv (.ref q :: st)) : im_K p l e R s m args below meth c g nL Q al0 ct0 a ci fs al ct bc bs pc lv st :=
  fun M hM => ir_new X cj gs ty hty hc hin hcl hins hini hfs hd hb1 hb2 (fun q hq _ => kk q _ (hM.new2 hq _))
theorem ik_newa (X : im_X p l s m args meth c g cc nL own ret) {at0 : ArrayType} {ty : FieldType} (t : Nat) (ht : (im_tys g.2.1)[t]? = some (g.2.1 t, ty)) (hty : newarray.typeOf at0 = ty) (hpr : ∀ C, ty ≠ .object C) (hw : Cond.arrayClass ty ∈ al_W) {n : Int32} {N : Nat} (x : vp_A) (hx : ∀ cA : ClassId, vp_cell cA x = arrV cA N (fun _ => defaultValue ty)) (hn : ¬ n < 0) (hN : n.toNatClampNeg = N) (hby : N * componentBytes ty ≤ 536870912) (hd : decode cc pc = .ok (.newarray at0, 2)) (hb1 : bc = bc' + 1) (hb2 : bs = bs' + N)
    (kk : ∀ q : Nat, im_K p l e R s m args below meth c g nL Q al0 ct0 a ci fs (al ++ [q]) (ct ++ [.inl (g.2.1 t, x)]) bc' bs' (pc + 2) lv (.ref q :: st)) : im_K p l e R s m args below meth c g nL Q al0 ct0 a ci fs al ct bc bs pc lv (.int n :: st) :=
  fun M hM => ir_newa X t ht hty hpr hw x hx hn hN hby hd hb1 hb2 (fun q hq _ => kk q _ (hM.new2 hq _))
theorem ik_newI (X : im_X p l s m args meth c g cc nL own ret) {n : Int32} (N : Nat) (hn : ¬ n < 0) (hN : n.toNatClampNeg = N) (hby : N * componentBytes .int ≤ 536870912) (hd : decode cc pc = .ok (.newarray .int, 2)) (hb1 : bc = bc' + 1) (hb2 : bs = bs' + N)
    (kk : ∀ q : Nat, im_K p l e R s m args below meth c g nL Q al0 ct0 a ci fs (al ++ [q]) (ct ++ [.inl (g.2.1 1, N, .inl (fun _ => 0))]) bc' bs' (pc + 2) lv (.ref q :: st)) : im_K p l e R s m args below meth c g nL Q al0 ct0 a ci fs al ct bc bs pc lv (.int n :: st) :=
  ik_newa X 1 rfl rfl (fun C h => by cases h) wa_int (N, .inl (fun _ => 0)) (fun _ => rfl) hn hN hby hd hb1 hb2 kk
theorem ik_newB (X : im_X p l s m args meth c g cc nL own ret) {n : Int32} (N : Nat) (hn : ¬ n < 0) (hN : n.toNatClampNeg = N) (hby : N * componentBytes .byte ≤ 536870912) (hd : decode cc pc = .ok (.newarray .byte, 2)) (hb1 : bc = bc' + 1) (hb2 : bs = bs' + N)
    (kk : ∀ q : Nat, im_K p l e R s m args below meth c g nL Q al0 ct0 a ci fs (al ++ [q]) (ct ++ [.inl (g.2.1 0, N, .inl (fun _ => 0))]) bc' bs' (pc + 2) lv (.ref q :: st)) : im_K p l e R s m args below meth c g nL Q al0 ct0 a ci fs al ct bc bs pc lv (.int n :: st) :=
  ik_newa X 0 rfl rfl (fun C h => by cases h) wa_byte (N, .inl (fun _ => 0)) (fun _ => rfl) hn hN hby hd hb1 hb2 kk
theorem ik_newJ (X : im_X p l s m args meth c g cc nL own ret) {n : Int32} (N : Nat) (hn : ¬ n < 0) (hN : n.toNatClampNeg = N) (hby : N * componentBytes .long ≤ 536870912) (hd : decode cc pc = .ok (.newarray .long, 2)) (hb1 : bc = bc' + 1) (hb2 : bs = bs' + N)
    (kk : ∀ q : Nat, im_K p l e R s m args below meth c g nL Q al0 ct0 a ci fs (al ++ [q]) (ct ++ [.inl (g.2.1 2, N, .inr (.inl (fun _ => 0)))]) bc' bs' (pc + 2) lv (.ref q :: st)) : im_K p l e R s m args below meth c g nL Q al0 ct0 a ci fs al ct bc bs pc lv (.int n :: st) :=
  ik_newa X 2 rfl rfl (fun C h => by cases h) wa_long (N, .inr (.inl (fun _ => 0))) (fun _ => rfl) hn hN hby hd hb1 hb2 kk
theorem ik_put (X : im_X p l s m args meth c g cc nL own ret) {C : String} {T : u_T} {N index : Nat} (k : Nat) {v : Value} (ty : Nat → FieldType) (hty : ∀ k, k < N → parseFieldDescriptor (T k).2.2.1 = some (ty k)) (hnm : ∀ a, a < N → ∀ b, b < N → a ≠ b → (T a).2.1 ≠ (T b).2.1)
    (hc : vwCl[ci]? = some (C, T, N)) (hin : ∀ w ∈ u_ws C T N, w ∈ al_W) (hk : k < N) (hlink : Cond.fieldLink own index (T k).1 (T k).2.1 (T k).2.2.1 ∈ al_W) (hfin : (T k).2.2.2 = false ∨ ((T k).2.2.2 = true ∧ meth.name = "<init>" ∧ (T k).1 = own)) (hn : narrow (ty k) v = v) (hfit : fits (ty k) v = true) (hd : decode cc pc = .ok (.putfield index, 3))
    (hlen : al0.length = ct0.length) (hfl : fs.length = N)
    (kk : (fs.set k v).length = N → im_K p l e R s m args below meth c g nL Q al0 ct0 a ci (fs.set k v) al ct bc bs (pc + 3) lv st) : im_K p l e R s m args below meth c g nL Q al0 ct0 a ci fs al ct bc bs pc lv (v :: .ref a :: st) := by
  intro M hM
  have ha' : (al0 ++ a :: al)[al0.length + 0]? = some a := pre_get al0 (a :: al) 0
  have he' : (ct0 ++ .inr (ci, fs) :: ct)[al0.length + 0]? = some (.inr (ci, fs)) := by rw [hlen]; exact pre_get ct0 (.inr (ci, fs) :: ct) 0
  obtain ⟨h1, h2⟩ := hM.get ha' he'
  have h3 := hM.put ha' (.inr (ci, fs.set k v))
  rw [hlen, pre_set] at h3
  rcases hfin with hf | ⟨hf, hi, hdc⟩
  · exact ir_put X ci k ty hty hnm hc hin hk hlink hf hn hfit hd h1 h2 (by rw [hfl]; exact hk) (kk (by rw [List.length_set]; exact hfl) _ h3)
  · exact ir_putF X ci k ty hty hnm hc hin hk hlink hf hi hdc hn hfit hd h1 h2 (by rw [hfl]; exact hk) (kk (by rw [List.length_set]; exact hfl) _ h3)
theorem ik_vret (X : im_X p l s m args meth c g cc nL own none) {F : Option Value → im_M → Prop} (hd : decode cc pc = .ok (.return_, 1)) (h : ∀ M : im_M, im_L (al0 ++ a :: al) (ct0 ++ .inr (ci, fs) :: ct) M → F none M) : im_K p l e R s m args below meth c g nL (MQ below (im_Q g F) args s R.cells R.slots (im_A g)) al0 ct0 a ci fs al ct bc bs pc lv [] := fun M hM => ir_vret X hd (h M hM)
/-- a constructor's contract: the object, then what it made, by the addresses q -/
def im_J (l : Launch) (g : im_G) (d : Nat) (y : MethodName) (cc : ByteArray) (mc ms ci : Nat) (fs0 : List Value) (fs1 : (Nat → Nat) → List Value) (al1 : (Nat → Nat) → List Nat) (ct1 : (Nat → Nat) → List va_E) : Prop :=
  ∀ (al0 : List Nat) (ct0 : List va_E) (a : Nat) (M : im_M), al0.length = ct0.length → im_L (al0 ++ [a]) (ct0 ++ [.inr (ci, fs0)]) M → im_C l g d y cc 1 none mc ms [.ref a] M (fun r M' => r = none ∧ ∃ q : Nat → Nat, im_L (al0 ++ a :: al1 q) (ct0 ++ .inr (ci, fs1 q) :: ct1 q) M')
theorem ik_call (X : im_X p l s m args meth c g cc nL own ret) {index : Nat} {y : MethodName} {host : String} {cc' : ByteArray} {d' mc' ms' cj : Nat} {b : Nat} (rest : List Value) {gs0 : List Value} {gs1 : (Nat → Nat) → List Value} {al2 : (Nat → Nat) → List Nat} {ct2 : (Nat → Nat) → List va_E}
    (hJ : im_J l g d' y cc' mc' ms' cj gs0 gs1 al2 ct2) (hlen : al0.length = ct0.length) (hlen1 : al1.length = ct1.length) (w1 : ∀ V : State, g.2.2.2 V → va_Nw (.methodLinkNest own index y host) V) (w2 : Cond.instanceMethod y ∈ al_W) (w4 : Cond.initialized y.cls ∈ al_W) (w5 : Cond.code y cc' 1 none ∈ al_W) (hy : y.name = "<init>")
    (hdy : y.cls ≠ "java/lang/invoke/MethodHandle" ∧ y.cls ≠ "java/lang/invoke/VarHandle" ∧ (parseMethodDescriptor y.desc).map (fun d => d.parameters.length) = some 0) (hR1 : d' + 1 ≤ R.frames) (hR2 : 8 + (1 + 11) + 40 * d' ≤ R.locals) (hst : (rest.map fun v => v.category).sum ≤ 8)
    (hd : decode cc pc = .ok (.invokespecial index, 3)) (hb1 : bc = bc' + mc') (hb2 : bs = bs' + ms')
    (kk : ∀ q : Nat → Nat, (al1 ++ b :: al2 q).length = (ct1 ++ .inr (cj, gs1 q) :: ct2 q).length → im_K p l e R s m args below meth c g nL Q al0 ct0 a ci fs (al1 ++ b :: al2 q) (ct1 ++ .inr (cj, gs1 q) :: ct2 q) bc' bs' (pc + 3) lv rest) :
    im_K p l e R s m args below meth c g nL Q al0 ct0 a ci fs (al1 ++ [b]) (ct1 ++ [.inr (cj, gs0)]) bc bs pc lv (.ref b :: rest) := by
  intro M hM
  refine ir_callIN X [] rest (hJ (al0 ++ a :: al1) (ct0 ++ .inr (ci, fs) :: ct1) b M (by simp [hlen, hlen1]) (by simpa only [List.append_assoc, List.cons_append] using hM)) w1 w2 w4 w5 hy hdy hR1 hR2 hst rfl hd hb1 hb2 (fun r M' hf => ?_)
  obtain ⟨rfl, q, h⟩ := hf
  have h' : im_L (al0 ++ a :: (al1 ++ b :: al2 q)) (ct0 ++ .inr (ci, fs) :: (ct1 ++ .inr (cj, gs1 q) :: ct2 q)) M' := by simpa only [List.append_assoc, List.cons_append] using h
  have hl := h'.2.1
  refine kk q ?_ M' h'
  simp only [List.length_append, List.length_cons] at hl ⊢
  omega
end IMN
theorem ik_go {p : Program} {l : Launch} {e : Env} {R : Room} {s : State} {m : MethodId} {args : Array Value} {below : List Frame} {meth : Method} {c : Code} {g : im_G} {nL : Nat} {Q : State → Prop} {al0 : List Nat} {ct0 : List va_E} {a ci : Nat} {fs : List Value} {bc bs pc : Nat} {lv : List (Nat × Value)} {st : List Value} {M : im_M} (h : im_L (al0 ++ [a]) (ct0 ++ [.inr (ci, fs)]) M) (k : im_K p l e R s m args below meth c g nL Q al0 ct0 a ci fs [] [] bc bs pc lv st) : im_W p l e R s m args below meth c g nL Q bc bs pc lv st M := k M h
