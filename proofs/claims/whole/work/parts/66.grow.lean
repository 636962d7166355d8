/-! methods that make arrays anew: the address function may change at the numbers of a mask; what they make is paid by the lengths' growth -/
def mx (gm : Nat → Bool) (ad ga : Nat → Nat) (i : Nat) : Nat := cond (gm i) (ga i) (ad i)
def gC (i : Nat) : Bool := Nat.ble 73 i && Nat.ble i 74
def gA (i : Nat) : Bool := (Nat.ble 65 i && Nat.ble i 66) || ((Nat.ble 68 i && Nat.ble i 71) || (Nat.ble 73 i && Nat.ble i 74))
theorem gC_A : ∀ i, gC i = true → gA i = true := by
  intro i h
  unfold gC at h
  unfold gA
  rw [h, Bool.or_true, Bool.or_true]
theorem gA_A : ∀ i, gA i = true → gA i = true := fun _ h => h
theorem gC_C : ∀ i, gC i = true → gC i = true := fun _ h => h
theorem mx_self (gm : Nat → Bool) (ad : Nat → Nat) : mx gm ad ad = ad := by
  funext i
  unfold mx
  cases gm i <;> rfl
theorem mx_mx {gm gm' : Nat → Bool} (hs : ∀ i, gm' i = true → gm i = true) (ad ga gb : Nat → Nat) : mx gm' (mx gm ad ga) gb = mx gm ad (mx gm' ga gb) := by
  funext i
  unfold mx
  cases h : gm' i with
  | true => rw [hs i h]; rfl
  | false => rfl
/-- the lengths of all that grows -/
def gP (S : im_S) : Nat := S.2.2 65 + S.2.2 66 + S.2.2 68 + S.2.2 69 + S.2.2 70 + S.2.2 71 + S.2.2 73 + S.2.2 74
def im_EG (gm : Nat → Bool) (l : Launch) (g : im_G) (ad : Nat → Nat) (d : Nat) (y : MethodName) (cc : ByteArray) (nL : Nat) (ret : Option FieldType) (vs : List Value) (S : im_S) (r0 : Option Value) (S' : im_S) : Prop :=
  ∀ M : im_M, im_Rep ad im_N (im_cn g ad S) M → im_C l g d y cc nL ret ((gP S' - gP S) / 64) (2 * (gP S' - gP S)) vs M (fun r M' => r = r0 ∧ ∃ ga : Nat → Nat, im_Rep (mx gm ad ga) im_N (im_cn g (mx gm ad ga) S') M')
abbrev im_ZG (gm : Nat → Bool) (below : List Frame) (g : im_G) (ad : Nat → Nat) (args : Array Value) (s : State) (mc ms : Nat) (r0 : Option Value) (S' : im_S) : State → Prop := MQ below (im_Q g (fun r M' => r = r0 ∧ ∃ ga : Nat → Nat, im_Rep (mx gm ad ga) im_N (im_cn g (mx gm ad ga) S') M')) args s mc ms (im_A g)
/-- the lengths never fall -/
def Mo {α : Type} (x : Option (α × im_S)) (S : im_S) : Prop := ∀ (r : α) (S' : im_S), x = some (r, S') → gP S ≤ gP S'
theorem Mo_none {α : Type} (S : im_S) : Mo (none : Option (α × im_S)) S := fun _ _ h => by cases h
theorem Mo_gd {α : Type} {b : Bool} {x : Option (α × im_S)} {S : im_S} (h : Mo x S) : Mo (gd b x) S := fun r S' e => h r S' (gd_some e).2
theorem Mo_some {α : Type} {r : α} {S S1 : im_S} (e : S1.2.2 = S.2.2) : Mo (some (r, S1)) S := fun _ _ h => by
  cases h
  unfold gP
  rw [e]
  exact Nat.le_refl _
theorem Mo_ite {α : Type} {c : Prop} [Decidable c] {x y : Option (α × im_S)} {S : im_S} (h1 : Mo x S) (h2 : Mo y S) : Mo (if c then x else y) S := by
  by_cases hc : c
  · rw [if_pos hc]; exact h1
  · rw [if_neg hc]; exact h2
theorem Mo_bind {α β : Type} {x : Option (α × im_S)} {f : α × im_S → Option (β × im_S)} {S : im_S} (h1 : Mo x S) (h2 : ∀ q : α × im_S, Mo (f q) q.2) : Mo (x.bind f) S := by
  intro r S' e
  obtain ⟨a, ha, hb⟩ := bd_some e
  exact Nat.le_trans (h1 a.1 a.2 ha) (h2 a r S' hb)
theorem Mo_of {α : Type} {x : Option (α × im_S)} {S1 S : im_S} (h : Mo x S1) (e : S1.2.2 = S.2.2) : Mo x S := by
  intro r S' q
  have := h r S' q
  unfold gP at this ⊢
  rw [e] at this
  exact this
theorem mo_use {α : Type} {x : Option (α × im_S)} {S S' : im_S} {r : α} (e : x = some (r, S')) (h : Mo x S) : gP S ≤ gP S' := h r S' e
theorem gb_step {S S1 Se : im_S} {k bc : Nat} (m : gP S ≤ gP S1) (b : (gP Se - gP S) / 64 + k ≤ bc) : (gP Se - gP S1) / 64 + k ≤ bc := by omega
theorem gb_step2 {S S1 Se : im_S} {k bs : Nat} (m : gP S ≤ gP S1) (b : 2 * gP Se + k ≤ 2 * gP S + bs) : 2 * gP Se + k ≤ 2 * gP S1 + bs := by omega
section IMGR
variable {p : Program} {l : Launch} {e : Env} {R : Room} {s : State} {m : MethodId} {args : Array Value} {below : List Frame} {meth : Method} {c : Code} {g : im_G} {cc : ByteArray} {nL : Nat} {own : String} {ret : Option FieldType} {Q : State → Prop}
variable {gm gm' : Nat → Bool} {ad ga : Nat → Nat} {bc bs pc mc ms d : Nat} {lv lv' : List (Nat × Value)} {st : List Value} {S S1 S' Se : im_S}
theorem is_metG {y : MethodName} {vs : List Value} {r0 : Option Value} (hy : plainName y.cls = true) (hown : y.cls = own) (hvs : (lg_sl vs).length ≤ nL)
    (body : ∀ (p : Program) (e : Env) (s : State) (m : MethodId) (below : List Frame) (meth : Method) (c : Code), im_X p l s m vs.toArray meth c g cc nL own ret → ∀ (ga : Nat → Nat) (bc bs : Nat), (gP S' - gP S) / 64 + 0 ≤ bc → 2 * gP S' + 0 ≤ 2 * gP S + bs → im_V p l e (im_R d ((gP S' - gP S) / 64) (2 * (gP S' - gP S))) s m vs.toArray below meth c g nL (im_ZG gm below g ad vs.toArray s ((gP S' - gP S) / 64) (2 * (gP S' - gP S)) r0 S') (mx gm ad ga) im_N (im_cn g (mx gm ad ga) S) bc bs 0 (lv_args 0 vs) []) :
    im_EG gm l g ad d y cc nL ret vs S r0 S' :=
  fun M hM => im_met hy hown hvs (fun p e s m below meth c X _ => body p e s m below meth c X ad ((gP S' - gP S) / 64) (2 * (gP S' - gP S)) (by omega) (by omega) M (by rw [mx_self]; exact hM))
theorem is_iretG (X : im_X p l s m args meth c g cc nL own (some .int)) {x : Int32} (hd : decode cc pc = .ok (.ireturn, 1)) : im_V p l e (im_R d mc ms) s m args below meth c g nL (im_ZG gm below g ad args s mc ms (some (.int x)) S) (mx gm ad ga) im_N (im_cn g (mx gm ad ga) S) bc bs pc lv [.int x] :=
  fun M hM => ir_iret (R := im_R d mc ms) X hd ⟨rfl, ga, hM⟩
theorem is_zretG (X : im_X p l s m args meth c g cc nL own (some .boolean)) {x : Int32} (hd : decode cc pc = .ok (.ireturn, 1)) (hn : narrow .boolean (.int x) = .int x) : im_V p l e (im_R d mc ms) s m args below meth c g nL (im_ZG gm below g ad args s mc ms (some (.int x)) S) (mx gm ad ga) im_N (im_cn g (mx gm ad ga) S) bc bs pc lv [.int x] :=
  fun M hM => ir_zret (R := im_R d mc ms) X rfl hn hd ⟨rfl, ga, hM⟩
theorem is_lretG (X : im_X p l s m args meth c g cc nL own (some .long)) {x : Int64} (hd : decode cc pc = .ok (.lreturn, 1)) : im_V p l e (im_R d mc ms) s m args below meth c g nL (im_ZG gm below g ad args s mc ms (some (.long x)) S) (mx gm ad ga) im_N (im_cn g (mx gm ad ga) S) bc bs pc lv [.long x] :=
  fun M hM => ir_lret (R := im_R d mc ms) X hd ⟨rfl, ga, hM⟩
theorem is_vretG (X : im_X p l s m args meth c g cc nL own none) (hd : decode cc pc = .ok (.return_, 1)) : im_V p l e (im_R d mc ms) s m args below meth c g nL (im_ZG gm below g ad args s mc ms none S) (mx gm ad ga) im_N (im_cn g (mx gm ad ga) S) bc bs pc lv [] :=
  fun M hM => ir_vret (R := im_R d mc ms) X hd ⟨rfl, ga, hM⟩
theorem is_callVG (X : im_X p l s m args meth c g cc nL own ret) {C : String} {T : u_T} {N index : Nat} (ci : Nat) {fs : List Value} {y : MethodName} {cc' : ByteArray} {nL' : Nat} {ret' : Option FieldType} {d' : Nat} {i0 : Nat} (As : List Value) (rest : List Value) (na : Nat) (hna : As.length = na) {r : Option Value} (hsub : ∀ i, gm' i = true → gm i = true)
    (hM : im_EG gm' l g (mx gm ad ga) d' y cc' nL' ret' (.ref (mx gm ad ga i0) :: As) S r S1) (hc : vwCl[ci]? = some (C, T, N)) (hi0 : i0 < im_N) (he : im_cn g (mx gm ad ga) S i0 = .inr (ci, fs)) (w1 : Cond.methodLink own index y ∈ al_W) (w2 : Cond.instanceMethod y ∈ al_W) (w3 : Cond.selects C y y ∈ al_W) (w4 : Cond.initialized C ∈ al_W) (w5 : Cond.code y cc' nL' ret' ∈ al_W)
    (hdy : y.cls = C ∧ y.cls ≠ "java/lang/invoke/MethodHandle" ∧ y.cls ≠ "java/lang/invoke/VarHandle" ∧ (parseMethodDescriptor y.desc).map (fun d => d.parameters.length) = some na) (hR1 : d' + 1 ≤ R.frames) (hR2 : 8 + (nL' + 11) + 40 * d' ≤ R.locals) (hst : (rest.map fun v => v.category).sum ≤ 8) (hstk : st = As.reverse ++ .ref (mx gm ad ga i0) :: rest)
    (hd : decode cc pc = .ok (.invokevirtual index, 3)) (m1 : gP S ≤ gP S1) (m2 : gP S1 ≤ gP Se) {k1 k2 : Nat} (b1 : (gP Se - gP S) / 64 + k1 ≤ bc) (b2 : 2 * gP Se + k2 ≤ 2 * gP S + bs)
    (kk : ∀ (ga : Nat → Nat) (bc bs : Nat), (gP Se - gP S1) / 64 + k1 ≤ bc → 2 * gP Se + k2 ≤ 2 * gP S1 + bs → im_V p l e R s m args below meth c g nL Q (mx gm ad ga) im_N (im_cn g (mx gm ad ga) S1) bc bs (pc + 3) lv (r.toList ++ rest)) : im_V p l e R s m args below meth c g nL Q (mx gm ad ga) im_N (im_cn g (mx gm ad ga) S) bc bs pc lv st :=
  fun M hR => ir_callV X ci As rest (hM M hR) hc (hR.1 i0 hi0).1 ((hR.1 i0 hi0).2.trans he) w1 w2 w3 w4 w5 (by rw [hna]; exact hdy) hR1 hR2 hst hstk hd (bc' := bc - (gP S1 - gP S) / 64) (bs' := bs - 2 * (gP S1 - gP S)) (by omega) (by omega) (fun r' M' h => by
    obtain ⟨rfl, gb, h2⟩ := h
    rw [mx_mx hsub] at h2
    exact kk _ _ _ (by omega) (by omega) M' h2)
end IMGR
/-! a number below 135, one by one -/
def alln (P : Nat → Prop) : Nat → Prop
  | 0 => True
  | n + 1 => alln P n ∧ P n
theorem alln_use {P : Nat → Prop} : ∀ {n : Nat}, alln P n → ∀ i, i < n → P i
  | 0, _, _, h => absurd h (by omega)
  | n + 1, h, i, hi => by
    by_cases e : i = n
    · subst e; exact h.2
    · exact alln_use h.1 i (by omega)
/-! an array is made anew, longer: what it held, then zeros -/
def gI (S : im_S) (j n : Nat) : im_S := (va_up S.1 j (fun k => if k < S.2.2 j then S.1 j k else 0), S.2.1, va_up S.2.2 j n)
def gJ (S : im_S) (j n : Nat) : im_S := (S.1, va_up S.2.1 j (fun k => if k < S.2.2 j then S.2.1 j k else 0), va_up S.2.2 j n)
def gok (S : im_S) (j : Nat) (n : Int32) : Bool := decide (0 ≤ n.toInt ∧ S.2.2 j + 64 ≤ n.toNatClampNeg ∧ 2 * S.2.2 j ≤ n.toNatClampNeg ∧ n.toNatClampNeg ≤ 67108864)
def gby (S : im_S) (j : Nat) : Bool := (List.range (S.2.2 j)).all (fun i => fits .byte (.int (S.1 j i)))
theorem rep_grow {g : im_G} {ad ad' : Nat → Nat} {S S' : im_S} {M : im_M} {q j o : Nat} {x y : va_E} (hR : im_Rep ad im_N (im_cn g ad S) M) (hq : q ∉ M.1) (hj : j < im_N) (ho : o < im_N) (hjo : j ≠ o) (e1 : ∀ i, i < im_N → i ≠ j → ad' i = ad i) (e2 : ad' j = q) (e3 : alln (fun i => i ≠ j → i ≠ o → im_cn g ad S i = im_cn g ad' S' i) im_N) (e4 : im_cn g ad' S' j = x) (e5 : im_cn g ad' S' o = y) :
    im_Rep ad' im_N (im_cn g ad' S') (M.1 ++ [q], va_up (va_up M.2 q x) (ad o) y) := by
  have hne : ∀ i, i < im_N → ad i ≠ q := fun i hi z => hq (by rw [← z]; exact (hR.1 i hi).1)
  refine ⟨fun i hi => ?_, fun i k hi hk z => ?_⟩
  · by_cases hij : i = j
    · subst hij
      rw [e2, e4]
      refine ⟨List.mem_append_right _ List.mem_cons_self, ?_⟩
      show va_up (va_up M.2 q x) (ad o) y q = x
      rw [va_up_ne _ _ (fun z => hne o ho z.symm), va_up_self]
    · rw [e1 i hi hij]
      refine ⟨List.mem_append_left _ (hR.1 i hi).1, ?_⟩
      show va_up (va_up M.2 q x) (ad o) y (ad i) = _
      by_cases hio : i = o
      · subst hio
        rw [va_up_self, e5]
      · rw [va_up_ne _ _ (fun z => hio (hR.2 i o hi ho z)), va_up_ne _ _ (hne i hi), (hR.1 i hi).2]
        exact alln_use e3 i hi hij hio
  · by_cases hij : i = j
    · by_cases hkj : k = j
      · rw [hij, hkj]
      · rw [hij, e2, e1 k hk hkj] at z
        exact absurd z.symm (hne k hk)
    · by_cases hkj : k = j
      · rw [hkj, e2, e1 i hi hij] at z
        exact absurd z (hne i hi)
      · rw [e1 i hi hij, e1 k hk hkj] at z
        exact hR.2 i k hi hk z
