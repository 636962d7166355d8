/-! the rows of the pool walk that read or write cells, or make them -/
theorem pl_get {L : List Nat} {f : Nat → va_E} {a : Nat} (h : a ∈ L) : ∃ k : Nat, (va_pl L f)[k]? = some (a, f a) := va_pl_get (X := []) h
theorem pl_set {A : Nat → Prop} {L : List Nat} {f : Nat → va_E} {a k : Nat} {e : va_E} (hD : va_D A (va_pl L f)) (h : a ∈ L) (hk : (va_pl L f)[k]? = some (a, f a)) : (va_pl L f).set k (a, e) = va_pl L (va_up f a e) := va_pl_set (X := []) hD h hk
theorem pl_fresh {D : va_G} {cl : List vw_C} {L : List Nat} {f : Nat → va_E} {A : Nat → Prop} {a : Nat} {x : va_E} (hD : va_D A (va_pl L f ++ [(a, x)])) : a ∉ L ∧ A a := by
  have hlast : (va_pl L f ++ [(a, x)])[(va_pl L f).length]? = some (a, x) := by simp
  refine ⟨fun h => ?_, hD.2 _ _ hlast⟩
  obtain ⟨k, hk⟩ := pl_get (f := f) h
  have hlt := (List.getElem?_eq_some_iff.mp hk).1
  have hk2 : (va_pl L f ++ [(a, x)])[k]? = some (a, f a) := by rw [List.getElem?_append_left hlt]; exact hk
  have := hD.1 _ _ _ _ hk2 hlast rfl
  omega
section IMH
variable {p : Program} {l : Launch} {e : Env} {R : Room} {s : State} {m : MethodId} {args : Array Value} {below : List Frame} {meth : Method} {c : Code} {g : im_G} {cc : ByteArray} {nL : Nat} {own : String} {ret : Option FieldType} {Q : State → Prop}
variable {bc bs pc : Nat} {lv lv' : List (Nat × Value)} {st : List Value} {M : im_M}
/-- getfield: the object at a is of class ci; its k-th field -/
theorem ir_get (X : im_X p l s m args meth c g cc nL own ret) {C : String} {T : u_T} {N index : Nat} {a : Nat} (ci : Nat) {fs : List Value} (k : Nat) {v : Value} (hc : vwCl[ci]? = some (C, T, N)) (hin : ∀ w ∈ u_ws C T N, w ∈ al_W) (hk : k < N)
    (hlink : Cond.fieldLink own index (T k).1 (T k).2.1 (T k).2.2.1 ∈ al_W) (hd : decode cc pc = .ok (.getfield index, 3)) (ha : a ∈ M.1) (he : M.2 a = .inr (ci, fs)) (hv : fs[k]? = some v)
    (kk : im_W p l e R s m args below meth c g nL Q bc bs (pc + 3) lv (v :: st) M) : im_W p l e R s m args below meth c g nL Q bc bs pc lv (.ref a :: st) M := by
  intro ls H locs cells slots hl hP hD hS h1 h2
  obtain ⟨q0, hq⟩ := pl_get (f := M.2) ha
  rw [he] at hq
  exact va_get X.1 X.2.1 X.2.2.2.2.1 hin X.2.2.2.1 X.2.2.2.2.2.1 hP q0 hq hc k hk (X.2.2.2.2.1 _ hlink) (fun _ h => h) hv hd (kk ls H locs cells slots hl hP hD hS h1 h2)
/-- putfield, a field that is not final -/
theorem ir_put (X : im_X p l s m args meth c g cc nL own ret) {C : String} {T : u_T} {N index : Nat} {a : Nat} (ci : Nat) {fs : List Value} (k : Nat) {v : Value} (ty : Nat → FieldType) (hty : ∀ k, k < N → parseFieldDescriptor (T k).2.2.1 = some (ty k)) (hnm : ∀ a, a < N → ∀ b, b < N → a ≠ b → (T a).2.1 ≠ (T b).2.1)
    (hc : vwCl[ci]? = some (C, T, N)) (hin : ∀ w ∈ u_ws C T N, w ∈ al_W) (hk : k < N) (hlink : Cond.fieldLink own index (T k).1 (T k).2.1 (T k).2.2.1 ∈ al_W) (hfin : (T k).2.2.2 = false) (hn : narrow (ty k) v = v) (hfit : fits (ty k) v = true) (hd : decode cc pc = .ok (.putfield index, 3))
    (ha : a ∈ M.1) (he : M.2 a = .inr (ci, fs)) (hl0 : k < fs.length)
    (kk : im_W p l e R s m args below meth c g nL Q bc bs (pc + 3) lv st (M.1, va_up M.2 a (.inr (ci, fs.set k v)))) : im_W p l e R s m args below meth c g nL Q bc bs pc lv (v :: .ref a :: st) M := by
  intro ls H locs cells slots hl hP hD hS h1 h2
  obtain ⟨q0, hq⟩ := pl_get (f := M.2) ha
  have hq' := hq
  rw [he] at hq
  refine va_put X.1 X.2.1 X.2.2.2.2.1 hin ty hty hnm X.2.2.2.1 X.2.2.2.2.2.1 hP hD hS q0 hq hc k hk (X.2.2.2.2.1 _ hlink) (fun _ h => h) hfin (hty k hk) hn hfit hl0 hd (fun H1 locs1 hP1 hD1 hS1 => ?_)
  rw [pl_set hD ha hq'] at hP1 hD1
  exact kk ls H1 locs1 cells slots hl hP1 hD1 hS1 h1 h2
/-- putfield of a final field, in the constructor -/
theorem ir_putF (X : im_X p l s m args meth c g cc nL own ret) {C : String} {T : u_T} {N index : Nat} {a : Nat} (ci : Nat) {fs : List Value} (k : Nat) {v : Value} (ty : Nat → FieldType) (hty : ∀ k, k < N → parseFieldDescriptor (T k).2.2.1 = some (ty k)) (hnm : ∀ a, a < N → ∀ b, b < N → a ≠ b → (T a).2.1 ≠ (T b).2.1)
    (hc : vwCl[ci]? = some (C, T, N)) (hin : ∀ w ∈ u_ws C T N, w ∈ al_W) (hk : k < N) (hlink : Cond.fieldLink own index (T k).1 (T k).2.1 (T k).2.2.1 ∈ al_W) (hfin : (T k).2.2.2 = true) (hi : meth.name = "<init>") (hdecl : (T k).1 = own) (hn : narrow (ty k) v = v) (hfit : fits (ty k) v = true) (hd : decode cc pc = .ok (.putfield index, 3))
    (ha : a ∈ M.1) (he : M.2 a = .inr (ci, fs)) (hl0 : k < fs.length)
    (kk : im_W p l e R s m args below meth c g nL Q bc bs (pc + 3) lv st (M.1, va_up M.2 a (.inr (ci, fs.set k v)))) : im_W p l e R s m args below meth c g nL Q bc bs pc lv (v :: .ref a :: st) M := by
  intro ls H locs cells slots hl hP hD hS h1 h2
  obtain ⟨q0, hq⟩ := pl_get (f := M.2) ha
  have hq' := hq
  rw [he] at hq
  refine va_putF X.1 X.2.1 X.2.2.2.2.1 hin ty hty hnm X.2.2.2.1 X.2.2.2.2.2.1 hP hD hS q0 hq hc k hk (X.2.2.2.2.1 _ hlink) (fun _ h => h) hfin hi hdecl (hty k hk) hn hfit hl0 hd (fun H1 locs1 hP1 hD1 hS1 => ?_)
  rw [pl_set hD ha hq'] at hP1 hD1
  exact kk ls H1 locs1 cells slots hl hP1 hD1 hS1 h1 h2
theorem ir_iald (X : im_X p l s m args meth c g cc nL own ret) {a n : Nat} {f : Nat → Int32} {i : Int32} (hd : decode cc pc = .ok (.iaload, 1)) (ha : a ∈ M.1) (he : M.2 a = .inl (g.2.1 1, n, .inl f)) (hi : vp_in i n)
    (kk : im_W p l e R s m args below meth c g nL Q bc bs (pc + 1) lv (.int (f i.toNatClampNeg) :: st) M) : im_W p l e R s m args below meth c g nL Q bc bs pc lv (.int i :: .ref a :: st) M := by
  intro ls H locs cells slots hl hP hD hS h1 h2
  obtain ⟨q0, hq⟩ := pl_get (f := M.2) ha
  rw [he] at hq
  exact va_iald X.1 X.2.1 X.2.2.2.2.2.1 hP q0 1 hq rfl hi hd (kk ls H locs cells slots hl hP hD hS h1 h2)
theorem ir_bald (X : im_X p l s m args meth c g cc nL own ret) {a n : Nat} {f : Nat → Int32} {i : Int32} (hd : decode cc pc = .ok (.baload, 1)) (ha : a ∈ M.1) (he : M.2 a = .inl (g.2.1 0, n, .inl f)) (hi : vp_in i n)
    (kk : im_W p l e R s m args below meth c g nL Q bc bs (pc + 1) lv (.int (f i.toNatClampNeg) :: st) M) : im_W p l e R s m args below meth c g nL Q bc bs pc lv (.int i :: .ref a :: st) M := by
  intro ls H locs cells slots hl hP hD hS h1 h2
  obtain ⟨q0, hq⟩ := pl_get (f := M.2) ha
  rw [he] at hq
  exact va_bald X.1 X.2.1 X.2.2.2.2.2.1 hP q0 0 hq rfl hi hd (kk ls H locs cells slots hl hP hD hS h1 h2)
theorem ir_lald (X : im_X p l s m args meth c g cc nL own ret) {a n : Nat} {f : Nat → Int64} {i : Int32} (hd : decode cc pc = .ok (.laload, 1)) (ha : a ∈ M.1) (he : M.2 a = .inl (g.2.1 2, n, .inr (.inl f))) (hi : vp_in i n)
    (kk : im_W p l e R s m args below meth c g nL Q bc bs (pc + 1) lv (.long (f i.toNatClampNeg) :: st) M) : im_W p l e R s m args below meth c g nL Q bc bs pc lv (.int i :: .ref a :: st) M := by
  intro ls H locs cells slots hl hP hD hS h1 h2
  obtain ⟨q0, hq⟩ := pl_get (f := M.2) ha
  rw [he] at hq
  exact va_lald X.1 X.2.1 X.2.2.2.2.2.1 hP q0 2 hq rfl hi hd (kk ls H locs cells slots hl hP hD hS h1 h2)
theorem ir_iast (X : im_X p l s m args meth c g cc nL own ret) {a n : Nat} {f : Nat → Int32} {i x : Int32} (hd : decode cc pc = .ok (.iastore, 1)) (ha : a ∈ M.1) (he : M.2 a = .inl (g.2.1 1, n, .inl f)) (hi : vp_in i n)
    (kk : im_W p l e R s m args below meth c g nL Q bc bs (pc + 1) lv st (M.1, va_up M.2 a (.inl (g.2.1 1, n, .inl (upd f i.toNatClampNeg x))))) : im_W p l e R s m args below meth c g nL Q bc bs pc lv (.int x :: .int i :: .ref a :: st) M := by
  intro ls H locs cells slots hl hP hD hS h1 h2
  obtain ⟨q0, hq⟩ := pl_get (f := M.2) ha
  have hq' := hq
  rw [he] at hq
  refine va_iast X.1 X.2.1 X.2.2.2.2.2.1 hP hD hS q0 1 hq rfl hi hd (fun H1 locs1 hP1 hD1 hS1 => ?_)
  rw [pl_set hD ha hq'] at hP1 hD1
  exact kk ls H1 locs1 cells slots hl hP1 hD1 hS1 h1 h2
theorem ir_bast (X : im_X p l s m args meth c g cc nL own ret) {a n : Nat} {f : Nat → Int32} {i x : Int32} (hd : decode cc pc = .ok (.bastore, 1)) (ha : a ∈ M.1) (he : M.2 a = .inl (g.2.1 0, n, .inl f)) (hi : vp_in i n)
    (kk : im_W p l e R s m args below meth c g nL Q bc bs (pc + 1) lv st (M.1, va_up M.2 a (.inl (g.2.1 0, n, .inl (upd f i.toNatClampNeg (vp_nar .byte x)))))) : im_W p l e R s m args below meth c g nL Q bc bs pc lv (.int x :: .int i :: .ref a :: st) M := by
  intro ls H locs cells slots hl hP hD hS h1 h2
  obtain ⟨q0, hq⟩ := pl_get (f := M.2) ha
  have hq' := hq
  rw [he] at hq
  refine va_bast X.1 X.2.1 X.2.2.2.2.2.1 hP hD hS q0 0 hq rfl hi hd (fun H1 locs1 hP1 hD1 hS1 => ?_)
  rw [pl_set hD ha hq'] at hP1 hD1
  exact kk ls H1 locs1 cells slots hl hP1 hD1 hS1 h1 h2
theorem ir_last (X : im_X p l s m args meth c g cc nL own ret) {a n : Nat} {f : Nat → Int64} {i : Int32} {x : Int64} (hd : decode cc pc = .ok (.lastore, 1)) (ha : a ∈ M.1) (he : M.2 a = .inl (g.2.1 2, n, .inr (.inl f))) (hi : vp_in i n)
    (kk : im_W p l e R s m args below meth c g nL Q bc bs (pc + 1) lv st (M.1, va_up M.2 a (.inl (g.2.1 2, n, .inr (.inl (vp_updL f i.toNatClampNeg x)))))) : im_W p l e R s m args below meth c g nL Q bc bs pc lv (.long x :: .int i :: .ref a :: st) M := by
  intro ls H locs cells slots hl hP hD hS h1 h2
  obtain ⟨q0, hq⟩ := pl_get (f := M.2) ha
  have hq' := hq
  rw [he] at hq
  refine va_last X.1 X.2.1 X.2.2.2.2.2.1 hP hD hS q0 2 hq rfl hi hd (fun H1 locs1 hP1 hD1 hS1 => ?_)
  rw [pl_set hD ha hq'] at hP1 hD1
  exact kk ls H1 locs1 cells slots hl hP1 hD1 hS1 h1 h2
theorem ir_alen (X : im_X p l s m args meth c g cc nL own ret) {a : Nat} (t : Nat) (ht : t < 3) {x : vp_A} {v : Int32} (hd : decode cc pc = .ok (.arraylength, 1)) (ha : a ∈ M.1) (he : M.2 a = .inl (g.2.1 t, x)) (hv : Int32.ofNat x.1 = v)
    (kk : im_W p l e R s m args below meth c g nL Q bc bs (pc + 1) lv (.int v :: st) M) : im_W p l e R s m args below meth c g nL Q bc bs pc lv (.ref a :: st) M := by
  intro ls H locs cells slots hl hP hD hS h1 h2
  obtain ⟨q0, hq⟩ := pl_get (f := M.2) ha
  rw [he] at hq
  have hk := kk ls H locs cells slots hl hP hD hS h1 h2
  match t, ht with
  | 0, _ => exact va_alen X.1 X.2.1 X.2.2.2.2.2.1 hP q0 0 hq rfl hv hd hk
  | 1, _ => exact va_alen X.1 X.2.1 X.2.2.2.2.2.1 hP q0 1 hq rfl hv hd hk
  | 2, _ => exact va_alen X.1 X.2.1 X.2.2.2.2.2.1 hP q0 2 hq rfl hv hd hk
/-- new: a fresh object, its fields as they are born -/
theorem ir_new (X : im_X p l s m args meth c g cc nL own ret) {C : String} {T : u_T} {N index : Nat} (ci : Nat) (fs : List Value) (ty : Nat → FieldType) (hty : ∀ k, k < N → parseFieldDescriptor (T k).2.2.1 = some (ty k))
    (hc : vwCl[ci]? = some (C, T, N)) (hin : ∀ w ∈ u_ws C T N, w ∈ al_W) (hcl : Cond.classLink own index C ∈ al_W) (hins : Cond.instantiable C N ∈ al_W) (hini : Cond.initialized C ∈ al_W) (hfs : ∀ j, j < N → defaultValue (ty j) = vp_V fs j) (hd : decode cc pc = .ok (.new index, 3)) {bc' bs' : Nat} (hb1 : bc = bc' + 1) (hb2 : bs = bs' + N)
    (kk : ∀ q : Nat, q ∉ M.1 → g.2.2.1.size ≤ q → im_W p l e R s m args below meth c g nL Q bc' bs' (pc + 3) lv (.ref q :: st) (M.1 ++ [q], va_up M.2 q (.inr (ci, fs)))) : im_W p l e R s m args below meth c g nL Q bc bs pc lv st M := by
  intro ls H locs cells slots hl hP hD hS h1 h2
  have hA : ∀ q, s.heap.size ≤ q → im_A g q := fun q h => Nat.le_trans X.2.2.2.2.2.2.1 h
  refine va_new X.1 X.2.1 X.2.2.2.2.1 hin ty hty X.2.2.2.1 (X.2.2.2.2.1 _ hcl) (X.2.2.2.2.1 _ hins) (X.2.2.2.2.1 _ hini) X.2.2.2.2.2.1 hP hD hS hA hc hfs (by omega) (by omega) hd (fun q H1 hP1 hD1 hS1 => ?_)
  obtain ⟨hq, hq2⟩ := pl_fresh (D := g.1) (cl := vwCl) hD1
  rw [va_pl_push hq] at hP1 hD1
  exact kk q hq hq2 ls H1 locs (cells + 1) (slots + N) hl hP1 hD1 hS1 (by omega) (by omega)
/-- newarray of bytes, ints, longs: zeros -/
theorem ir_newa (X : im_X p l s m args meth c g cc nL own ret) {at0 : ArrayType} {ty : FieldType} (t : Nat) (ht : (im_tys g.2.1)[t]? = some (g.2.1 t, ty)) (hty : newarray.typeOf at0 = ty) (hpr : ∀ C, ty ≠ .object C) (hw : Cond.arrayClass ty ∈ al_W) {n : Int32} {N : Nat} (x : vp_A) (hx : ∀ cA : ClassId, vp_cell cA x = arrV cA N (fun _ => defaultValue ty)) (hn : ¬ n < 0) (hN : n.toNatClampNeg = N) (hby : N * componentBytes ty ≤ 536870912)
    (hd : decode cc pc = .ok (.newarray at0, 2)) {bc' bs' : Nat} (hb1 : bc = bc' + 1) (hb2 : bs = bs' + N)
    (kk : ∀ q : Nat, q ∉ M.1 → g.2.2.1.size ≤ q → im_W p l e R s m args below meth c g nL Q bc' bs' (pc + 2) lv (.ref q :: st) (M.1 ++ [q], va_up M.2 q (.inl (g.2.1 t, x)))) : im_W p l e R s m args below meth c g nL Q bc bs pc lv (.int n :: st) M := by
  intro ls H locs cells slots hl hP hD hS h1 h2
  have hA : ∀ q, s.heap.size ≤ q → im_A g q := fun q h => Nat.le_trans X.2.2.2.2.2.2.1 h
  refine va_newa X.1 X.2.1 (by rw [hty]; exact X.2.2.2.2.1 _ hw) hty X.2.2.2.2.2.1 hP hD hS hA hx hn hN hby (by omega) (by omega) hd (fun q cA H1 hK1 hP1 hD1 hS1 => ?_)
  have e1 : va_RA s cA ty := (hK1.2 3 (cA, ty) rfl).2
  have e2 : va_RA s (g.2.1 t) ty := (X.2.2.2.2.2.1.2 t (g.2.1 t, ty) ht).2
  have e3 : cA = g.2.1 t := by
    cases ty with
    | object C => exact absurd rfl (hpr C)
    | _ => exact Option.some.inj (e1.symm.trans e2)
  rw [e3] at hP1 hD1
  obtain ⟨hq, hq2⟩ := pl_fresh (D := g.1) (cl := vwCl) hD1
  rw [va_pl_push hq] at hP1 hD1
  exact kk q hq hq2 ls H1 locs (cells + 1) (slots + N) hl hP1 hD1 hS1 (by omega) (by omega)
/-- Object's constructor -/
theorem ir_objInit (X : im_X p l s m args meth c g cc nL own ret) {index : Nat} {a : Nat} (hlink : Cond.methodLink own index Lib.objectInit ∈ al_W) (hins : Cond.instanceMethod Lib.objectInit ∈ al_W) (hcode : Cond.code Lib.objectInit ⟨#[0xb1]⟩ 1 none ∈ al_W) (hd : decode cc pc = .ok (.invokespecial index, 3)) (hR1 : 1 ≤ R.frames) (hR2 : (st.map fun v => v.category).sum + 12 ≤ R.locals)
    (kk : im_W p l e R s m args below meth c g nL Q bc bs (pc + 3) lv st M) : im_W p l e R s m args below meth c g nL Q bc bs pc lv (.ref a :: st) M := by
  intro ls H locs cells slots hl hP hD hS h1 h2
  exact W.objInit X.1 X.2.1 X.2.2.2.1 (X.2.2.2.2.1 _ hlink) (X.2.2.2.2.1 _ hins) (X.2.2.2.2.1 _ hcode) rfl (by rw [X.2.2.1]; exact hl.1) rfl hd hR1 (by show 2 * 0 + _ + 12 ≤ _; omega) (kk ls H locs cells slots hl hP hD hS h1 h2)
end IMH
