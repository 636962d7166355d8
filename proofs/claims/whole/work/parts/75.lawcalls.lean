/-! the law's helpers and calls, where the address function may change -/
def fx (u v w : Nat) (ad : Nat → Nat) (i : Nat) : Nat := cond (Nat.beq i 0) u (cond (Nat.beq i 75) v (cond (Nat.beq i 134) w (ad i)))
theorem fx_of {u v w : Nat} {ad' : Nat → Nat} (h0 : ad' 0 = u) (h1 : ad' 75 = v) (h2 : ad' 134 = w) : ad' = fx u v w ad' := by
  funext i
  unfold fx
  cases e0 : Nat.beq i 0 with
  | true => rw [Nat.eq_of_beq_eq_true e0]; exact h0
  | false =>
    cases e1 : Nat.beq i 75 with
    | true => rw [Nat.eq_of_beq_eq_true e1]; exact h1
    | false =>
      cases e2 : Nat.beq i 134 with
      | true => rw [Nat.eq_of_beq_eq_true e2]; exact h2
      | false => rfl
theorem rl_fx {g : im_G} {u v w : Nat} {ad : Nat → Nat} {S' : im_S} {M' : im_M} (h : im_RL g (fx u v w ad) S' M') : ∃ ad' : Nat → Nat, im_Rep (fx u v w ad') im_N (im_cn g (fx u v w ad') S') M' := by
  obtain ⟨ad', ⟨h0, h1, h2⟩, h3⟩ := h
  refine ⟨ad', ?_⟩
  rw [← fx_of (u := u) (v := v) (w := w) h0 h1 h2]
  exact h3
theorem mx_fx {u v w : Nat} {ad ga : Nat → Nat} : mx gA (fx u v w ad) ga = fx u v w (mx gA (fx u v w ad) ga) := fx_of rfl rfl rfl
def im_EHL (l : Launch) (g : im_G) (u v w : Nat) (ad : Nat → Nat) (d : Nat) (y : MethodName) (cc : ByteArray) (nL : Nat) (ret : Option FieldType) (hh : List (Nat × Nat × Nat × Nat)) (vs : List Value) (S : im_S) (r0 : Option Value) (S1 S' : im_S) : Prop :=
  ∀ M : im_M, im_Rep (fx u v w ad) im_N (im_cn g (fx u v w ad) S) M → Met l y (im_wsH y cc nL ret hh) (im_R d (1 + (gP S1 - gP S) / 64) (6 + 2 * (gP S1 - gP S))) (va_Pc vs (im_U g M)) (im_Q g (fun r M' => r = r0 ∧ ∃ ad : Nat → Nat, im_Rep (fx u v w ad) im_N (im_cn g (fx u v w ad) S') M')) (1 + (gP S1 - gP S) / 64) (6 + 2 * (gP S1 - gP S)) (im_A g)
abbrev im_ZHL (below : List Frame) (g : im_G) (u v w : Nat) (args : Array Value) (s : State) (mc ms : Nat) (r0 : Option Value) (S' : im_S) : State → Prop := MQ below (im_Q g (fun r M' => r = r0 ∧ ∃ ad : Nat → Nat, im_Rep (fx u v w ad) im_N (im_cn g (fx u v w ad) S') M')) args s mc ms (im_A g)
section IMHL
variable {p : Program} {l : Launch} {e : Env} {R : Room} {s : State} {m : MethodId} {args : Array Value} {below : List Frame} {meth : Method} {c : Code} {g : im_G} {cc : ByteArray} {nL : Nat} {own : String} {ret : Option FieldType} {Q : State → Prop}
variable {u v w : Nat} {ad : Nat → Nat} {pc bc bs mc ms : Nat} {lv : List (Nat × Value)} {st : List Value} {S S1 S' : im_S} {d B k1 k2 : Nat}
theorem is_metHL {y : MethodName} {hh : List (Nat × Nat × Nat × Nat)} {vs : List Value} {r0 : Option Value} (hy : plainName y.cls = true) (hown : y.cls = own) (hvs : (lg_sl vs).length ≤ nL)
    (body : ∀ (p : Program) (e : Env) (s : State) (m : MethodId) (below : List Frame) (meth : Method) (c : Code), im_X p l s m vs.toArray meth c g cc nL own ret → c.exceptionTable.toList = tableOf hh → im_V p l e (im_R d (1 + (gP S1 - gP S) / 64) (6 + 2 * (gP S1 - gP S))) s m vs.toArray below meth c g nL (im_ZHL below g u v w vs.toArray s (1 + (gP S1 - gP S) / 64) (6 + 2 * (gP S1 - gP S)) r0 S') (fx u v w ad) im_N (im_cn g (fx u v w ad) S) (1 + (gP S1 - gP S) / 64) (6 + 2 * (gP S1 - gP S)) 0 (lv_args 0 vs) []) :
    im_EHL l g u v w ad d y cc nL ret hh vs S r0 S1 S' := by
  intro M hM
  refine MetFree.of_bodyS (code := cc) (maxLocals := nL) (ret := ret) hy ?_ ?_
  · intro args s m h hn
    obtain ⟨m9, meth, c, hn9, h1, h2, h3, h4, -, h5, h6, -⟩ := Cond.codeWith_spec (atoms_spec (ws := im_wsH y cc nL ret hh) h _ List.mem_cons_self)
    cases hn.symm.trans hn9
    exact ⟨meth, c, h1, h2, h3, h4, h5, h6⟩
  · intro p e s m args below meth c s₁ B hml hv _
    have hh0 : s₁.heap = s.heap := by rw [B.state]; rfl
    obtain ⟨rfl, h1, h2, h3, h4, h5, h6⟩ := hv
    have hts := atoms_spec (ws := im_wsH y cc nL ret hh) B.pre
    have hownS : s.vm.findClass own = some m.cls := by rw [← hown]; exact findClass_of_methodNamed B.named
    have htab := vx_table (x := y) B (hts _ List.mem_cons_self)
    have hb := body p e s m below meth c ⟨B.exec, B.bytes, hml, hownS, fun w hw => hts w (List.mem_cons_of_mem _ hw), h4, h1, h2, h6, B.returns, B.notSynchronized⟩ htab
    have K : W p l e (im_R d (1 + (gP S1 - gP S) / 64) (6 + 2 * (gP S1 - gP S))) s m vs.toArray below meth c s₁.heap [] 0 0 (im_ZHL below g u v w vs.toArray s (1 + (gP S1 - gP S) / 64) (6 + 2 * (gP S1 - gP S)) r0 S') (entryFrame m vs.toArray nL) := by
      rw [hh0, lg_entry_eq]
      exact hb M hM _ s.heap [] 0 0 (lv_entry vs hvs) h3 h5 va_S.rf (Nat.zero_add _) (Nat.zero_add _)
    obtain ⟨t, a1, o, b1, b2, b3⟩ := K s₁ rfl (Stand.of_body B)
    exact ⟨t, o, a1, b1, b2, b3⟩
theorem is_callVXL (X : im_X p l s m args meth c g cc nL own ret) {C : String} {T : u_T} {N index : Nat} (ci : Nat) {fs : List Value} {y : MethodName} {cc' : ByteArray} {nL' : Nat} {ret' : Option FieldType} {d' : Nat} {i0 : Nat} (As : List Value) (rest : List Value) (na : Nat) (hna : As.length = na) {o : String ⊕ Option Value}
    (hM : im_EXL l g (fx u v w ad) d' y cc' nL' ret' (.ref (fx u v w ad i0) :: As) S o S') (hc : vwCl[ci]? = some (C, T, N)) (hi0 : i0 < im_N) (he : im_cn g (fx u v w ad) S i0 = .inr (ci, fs)) (w1 : Cond.methodLink own index y ∈ al_W) (w2 : Cond.instanceMethod y ∈ al_W) (w3 : Cond.selects C y y ∈ al_W) (w4 : Cond.initialized C ∈ al_W) (w5 : Cond.code y cc' nL' ret' ∈ al_W)
    (hdy : y.cls = C ∧ y.cls ≠ "java/lang/invoke/MethodHandle" ∧ y.cls ≠ "java/lang/invoke/VarHandle" ∧ (parseMethodDescriptor y.desc).map (fun d => d.parameters.length) = some na) (hR1 : d' + 1 ≤ d) (hR2 : 8 + (nL' + 11) + 40 * d' ≤ 40 * d) (hst : (rest.map fun v => v.category).sum ≤ 8) (hstk : st = As.reverse ++ .ref (fx u v w ad i0) :: rest)
    (hd : decode cc pc = .ok (.invokevirtual index, 3)) (kk : ∀ r, o = .inr r → ∀ ad : Nat → Nat, im_V p l e (im_R d (1 + (gP S' - gP S) / 64) (6 + 2 * (gP S' - gP S))) s m args below meth c g nL Q (fx u v w ad) im_N (im_cn g (fx u v w ad) S') 0 0 (pc + 3) lv (r.toList ++ rest))
    (kx : ∀ E, o = .inl E → ∃ (rows : List ExceptionTableEntry) (x : ExceptionTableEntry) (suf : List ExceptionTableEntry) (name : String), c.exceptionTable.toList = rows ++ x :: suf ∧ (∀ z ∈ rows, covers z pc = false ∨ (z.catchType ≠ 0 ∧ ∃ nm : String, Cond.classLink own z.catchType nm ∈ al_W ∧ va_Nc E nm s)) ∧ covers x pc = true ∧ x.catchType ≠ 0 ∧ Cond.classLink own x.catchType name ∈ al_W ∧ (Cond.castable E name).before args s = true ∧ ∀ (q : Nat) (ad : Nat → Nat), im_V p l e (im_R d (1 + (gP S' - gP S) / 64) (6 + 2 * (gP S' - gP S))) s m args below meth c g nL Q (fx u v w ad) im_N (im_cn g (fx u v w ad) S') 0 0 x.handlerPc lv [.ref q]) :
    im_V p l e (im_R d (1 + (gP S' - gP S) / 64) (6 + 2 * (gP S' - gP S))) s m args below meth c g nL Q (fx u v w ad) im_N (im_cn g (fx u v w ad) S) (1 + (gP S' - gP S) / 64) (6 + 2 * (gP S' - gP S)) pc lv st := by
  intro M hR ls H locs cells slots hl hP hD hS h1 h2
  obtain ⟨q0, hq⟩ := pl_get (f := M.2) (hR.1 i0 hi0).1
  rw [(hR.1 i0 hi0).2, he] at hq
  have g1 : cells + (1 + (gP S' - gP S) / 64) = 1 + (gP S' - gP S) / 64 := h1
  have g2 : slots + (6 + 2 * (gP S' - gP S)) = 6 + 2 * (gP S' - gP S) := h2
  have hrun := vx_runV (rest := rest) (As := As) ⟨X.1, X.2.1, X.2.2.1, X.2.2.2.1, X.2.2.2.2.1⟩ (hM M hR) (cwV As.length X.2.2.2.2.1 (im_goodV w1 w2 w3 w4 w5) rfl rfl rfl (by rw [hna]; exact hdy) ⟨hR1, hR2⟩) (R := im_R d (1 + (gP S' - gP S) / 64) (6 + 2 * (gP S' - gP S))) (p := p) (e := e) (below := below) (meth := meth) (H := H) (locs := locs) (cells := cells) (slots := slots) (g := F0 m pc ls st) ⟨im_blind, va_recv X.2.2.2.2.2.1 hP hc hq, fun U hU hW => ⟨rfl, im_Uof X hP hD hS hU hW⟩⟩ rfl rfl hl.1 hstk (lv_room hst) hd ⟨by show cells + (1 + (gP S' - gP S) / 64) ≤ 1 + (gP S' - gP S) / 64; omega, by show slots + (6 + 2 * (gP S' - gP S)) ≤ 6 + 2 * (gP S' - gP S); omega⟩
  intro T hT X2
  rcases hrun T hT X2 with ⟨v9, st₀, t, T', L, h0, X', hL, e1, e2, ⟨⟨r, M', hv, ⟨ho, hRL⟩, hU⟩, hz, hk⟩, stp⟩ | ⟨q, st₀, t, T', L, E, ce, h0, X', hL, e1, e2, ⟨M', ⟨ho, hRL⟩, hP', hD', hz, hk⟩, hcell, hvm, hcl, stp⟩
  · cases hv
    obtain ⟨ad9, hRep⟩ := rl_fx hRL
    rw [h0] at hz hk
    have hS' : va_S (im_A g) s.heap T'.heap (locs ++ L) := ⟨Nat.le_trans hS.1 (by rw [e1]; exact hz), fun q g1 g2 => by rw [e1, hk q (Nat.lt_of_lt_of_le g1 hS.1) g2]; exact hS.2.1 q g1 g2, fun q hq => by
        rcases List.mem_append.mp hq with h | h
        · exact hS.2.2 q h
        · exact hL q h⟩
    obtain ⟨t2, a1, b1⟩ := kk v9 ho ad9 M' hRep ls T'.heap (locs ++ L) (cells + (1 + (gP S' - gP S) / 64)) (slots + (6 + 2 * (gP S' - gP S))) hl (by rw [e1]; exact hU.2.2.1) hU.2.2.2.2.1 hS' g1 g2 T' rfl X'
    exact ⟨t2, stp t2 a1, b1⟩
  · obtain ⟨ad9, hRep⟩ := rl_fx hRL
    rw [h0] at hz hk
    have hS' : va_S (im_A g) s.heap T'.heap (locs ++ L) := ⟨Nat.le_trans hS.1 (by rw [e1]; exact hz), fun q g1 g2 => by rw [e1, hk q (Nat.lt_of_lt_of_le g1 hS.1) g2]; exact hS.2.1 q g1 g2, fun q hq => by
        rcases List.mem_append.mp hq with h | h
        · exact hS.2.2 q h
        · exact hL q h⟩
    obtain ⟨rows, x, suf, name, hsplit, hpass, hx, hx0, hlk, hcast, kw⟩ := kx E ho
    have kc := cx_catch (p := p) (l := l) (e := e) (R := im_R d (1 + (gP S' - gP S) / 64) (6 + 2 * (gP S' - gP S))) (below := below) (meth := meth) (locs := locs ++ L) (cells := cells + (1 + (gP S' - gP S) / 64)) (slots := slots + (6 + 2 * (gP S' - gP S))) (Q := Q) (pc := pc) (ls := ls) (rest := rest) (H := T'.heap) X.2.2.2.1 rows x suf hsplit (fun z hz9 => by
      rcases hpass z hz9 with h | ⟨hz1, nm, hn1, hn2⟩
      · exact Or.inl h
      · exact Or.inr ⟨hz1, nm, X.2.2.2.2.1 _ hn1, hn2⟩) hx hx0 (X.2.2.2.2.1 _ hlk) hcast (by rw [e1]; exact hcell) hvm hcl (kw q ad9 M' hRep ls T'.heap (locs ++ L) (cells + (1 + (gP S' - gP S) / 64)) (slots + (6 + 2 * (gP S' - gP S))) hl (by rw [e1]; exact hP') hD' hS' g1 g2)
    obtain ⟨t2, a1, b1⟩ := kc T' rfl X'
    exact ⟨t2, stp.trans a1, b1⟩
theorem is_iretHL {own : String} (X : im_X p l s m args meth c g cc nL own (some .int)) {x : Int32} (hd : decode cc pc = .ok (.ireturn, 1)) : im_V p l e (im_R d mc ms) s m args below meth c g nL (im_ZHL below g u v w args s mc ms (some (.int x)) S) (fx u v w ad) im_N (im_cn g (fx u v w ad) S) bc bs pc lv [.int x] :=
  fun M hM => ir_iret (R := im_R d mc ms) X hd ⟨rfl, ad, hM⟩
/-- the law calls a helper -/
theorem is_callSL (X : im_X p l s m args meth c g cc nL own ret) {index : Nat} {y : MethodName} {cc' : ByteArray} {nL' : Nat} {ret' : Option FieldType} {hh : List (Nat × Nat × Nat × Nat)} {d' : Nat} (As : List Value) (rest : List Value) (na : Nat) (hna : As.length = na) {r : Option Value}
    (hM : im_EHL l g u v w ad d' y cc' nL' ret' hh As S r S1 S') (w1 : Cond.methodLink own index y ∈ al_W) (w2 : Cond.static y ∈ al_W) (w4 : Cond.initialized y.cls ∈ al_W) (w5 : Cond.codeWith y cc' nL' ret' hh ∈ al_W)
    (hdy : y.cls ≠ "java/lang/invoke/MethodHandle" ∧ y.cls ≠ "java/lang/invoke/VarHandle" ∧ (parseMethodDescriptor y.desc).map (fun d => d.parameters.length) = some na) (hR1 : d' + 1 ≤ R.frames) (hR2 : 8 + (nL' + 11) + 40 * d' ≤ R.locals) (hst : (rest.map fun v => v.category).sum ≤ 8) (hstk : st = As.reverse ++ rest)
    (hd : decode cc pc = .ok (.invokestatic index, 3)) (m1 : gP S ≤ gP S1) (m2 : gP S1 ≤ B) (b1 : (B - gP S) / 64 + (k1 + 1) ≤ bc) (b2 : 2 * B + (k2 + 6) ≤ 2 * gP S + bs)
    (kk : ∀ (ad : Nat → Nat) (bc bs : Nat), (B - gP S1) / 64 + k1 ≤ bc → 2 * B + k2 ≤ 2 * gP S1 + bs → im_V p l e R s m args below meth c g nL Q (fx u v w ad) im_N (im_cn g (fx u v w ad) S') bc bs (pc + 3) lv (r.toList ++ rest)) : im_V p l e R s m args below meth c g nL Q (fx u v w ad) im_N (im_cn g (fx u v w ad) S) bc bs pc lv st := by
  intro M hR ls H locs cells slots hl hP hD hS h1 h2
  have h1' : cells + ((bc - (1 + (gP S1 - gP S) / 64)) + (1 + (gP S1 - gP S) / 64)) = R.cells := by omega
  have h2' : slots + ((bs - (6 + 2 * (gP S1 - gP S))) + (6 + 2 * (gP S1 - gP S))) = R.slots := by omega
  exact im_call X (vx_runSW (rest := rest) (As := As) (n := As.length) ⟨X.1, X.2.1, X.2.2.1, X.2.2.2.1, X.2.2.2.2.1⟩ (hM M hR) (vx_cwSW As.length X.2.2.2.2.1 (im_goodSH w1 w2 w4 w5) rfl rfl rfl (by rw [hna]; exact hdy) ⟨hR1, hR2⟩) ⟨im_blind, fun U hU hW => ⟨rfl, im_Uof X hP hD hS hU hW⟩⟩ rfl rfl hl.1 hstk (lv_room hst) hd ⟨by omega, by omega⟩) hl hS h1' h2' (fun r' M' h => by obtain ⟨rfl, ad9, h3⟩ := h; exact kk ad9 _ _ (by omega) (by omega) M' h3)
/-- the law calls start -/
theorem is_callVL (X : im_X p l s m args meth c g cc nL own ret) {C : String} {T : u_T} {N index : Nat} (ci : Nat) {fs : List Value} {y : MethodName} {cc' : ByteArray} {nL' : Nat} {ret' : Option FieldType} {d' : Nat} {i0 : Nat} (As : List Value) (rest : List Value) (na : Nat) (hna : As.length = na) {r : Option Value}
    (hM : im_EG gA l g (fx u v w ad) d' y cc' nL' ret' (.ref (fx u v w ad i0) :: As) S r S1) (hc : vwCl[ci]? = some (C, T, N)) (hi0 : i0 < im_N) (he : im_cn g (fx u v w ad) S i0 = .inr (ci, fs)) (w1 : Cond.methodLink own index y ∈ al_W) (w2 : Cond.instanceMethod y ∈ al_W) (w3 : Cond.selects C y y ∈ al_W) (w4 : Cond.initialized C ∈ al_W) (w5 : Cond.code y cc' nL' ret' ∈ al_W)
    (hdy : y.cls = C ∧ y.cls ≠ "java/lang/invoke/MethodHandle" ∧ y.cls ≠ "java/lang/invoke/VarHandle" ∧ (parseMethodDescriptor y.desc).map (fun d => d.parameters.length) = some na) (hR1 : d' + 1 ≤ R.frames) (hR2 : 8 + (nL' + 11) + 40 * d' ≤ R.locals) (hst : (rest.map fun v => v.category).sum ≤ 8) (hstk : st = As.reverse ++ .ref (fx u v w ad i0) :: rest)
    (hd : decode cc pc = .ok (.invokevirtual index, 3)) (m1 : gP S ≤ gP S1) (m2 : gP S1 ≤ B) (b1 : (B - gP S) / 64 + (k1 + 1) ≤ bc) (b2 : 2 * B + (k2 + 6) ≤ 2 * gP S + bs)
    (kk : ∀ (ad : Nat → Nat) (bc bs : Nat), (B - gP S1) / 64 + k1 ≤ bc → 2 * B + k2 ≤ 2 * gP S1 + bs → im_V p l e R s m args below meth c g nL Q (fx u v w ad) im_N (im_cn g (fx u v w ad) S1) bc bs (pc + 3) lv (r.toList ++ rest)) : im_V p l e R s m args below meth c g nL Q (fx u v w ad) im_N (im_cn g (fx u v w ad) S) bc bs pc lv st :=
  fun M hR => ir_callV X ci As rest (hM M hR) hc (hR.1 i0 hi0).1 ((hR.1 i0 hi0).2.trans he) w1 w2 w3 w4 w5 (by rw [hna]; exact hdy) hR1 hR2 hst hstk hd (bc' := bc - (gP S1 - gP S) / 64) (bs' := bs - 2 * (gP S1 - gP S)) (by omega) (by omega) (fun r' M' h => by
    obtain ⟨rfl, gb, h2⟩ := h
    rw [mx_fx] at h2
    exact kk _ _ _ (by omega) (by omega) M' h2)
end IMHL
