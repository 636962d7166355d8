/-! the law's own rows: its script, its helpers -/
section IMLW
variable {p : Program} {l : Launch} {e : Env} {R : Room} {s : State} {m : MethodId} {args : Array Value} {below : List Frame} {meth : Method} {c : Code} {g : im_G} {cc : ByteArray} {nL : Nat} {own : String} {ret : Option FieldType} {Q : State → Prop}
variable {ad : Nat → Nat} {nn : Nat} {cn : Nat → va_E} {bc bs bc' bs' pc : Nat} {lv : List (Nat × Value)} {st : List Value} {S S' : im_S} {b L : Nat} {xs : Nat → Int32}
theorem iv_sld (X : im_X p l s m args meth c g cc nL own ret) (hX : va_X b L xs s s.heap) (hbl : b < s.heap.size) (hbA : ¬ im_A g b) {i : Int32} (hd : decode cc pc = .ok (.iaload, 1)) (hin : vp_in i L) {x : Int32} (hx : xs i.toNatClampNeg = x) (kk : im_V p l e R s m args below meth c g nL Q ad nn cn bc bs (pc + 1) lv (.int x :: st)) : im_V p l e R s m args below meth c g nL Q ad nn cn bc bs pc lv (.int i :: .ref b :: st) := by
  subst hx
  exact fun M hM ls H locs cells slots hl hP hD hS h1 h2 => va_sld X.1 X.2.1 hX hbl hbA hS hin hd (kk M hM ls H locs cells slots hl hP hD hS h1 h2)
theorem iv_slen (X : im_X p l s m args meth c g cc nL own ret) (hX : va_X b L xs s s.heap) (hbl : b < s.heap.size) (hbA : ¬ im_A g b) (hd : decode cc pc = .ok (.arraylength, 1)) (kk : im_V p l e R s m args below meth c g nL Q ad nn cn bc bs (pc + 1) lv (.int (Int32.ofNat L) :: st)) : im_V p l e R s m args below meth c g nL Q ad nn cn bc bs pc lv (.ref b :: st) :=
  fun M hM ls H locs cells slots hl hP hD hS h1 h2 => va_slen X.1 X.2.1 hX hbl hbA hS hd (kk M hM ls H locs cells slots hl hP hD hS h1 h2)
theorem im_goodSH {index : Nat} {y : MethodName} {cc' : ByteArray} {nL' : Nat} {ret' : Option FieldType} {hh : List (Nat × Nat × Nat × Nat)} (w1 : Cond.methodLink own index y ∈ al_W) (w2 : Cond.static y ∈ al_W) (w4 : Cond.initialized y.cls ∈ al_W) (w5 : Cond.codeWith y cc' nL' ret' hh ∈ al_W) : GoodIn al_W (va_wsS own index y (im_wsH y cc' nL' ret' hh)) := by
  intro w hw
  simp only [va_wsS, im_wsH, List.cons_append, List.nil_append, List.mem_cons] at hw
  rcases hw with rfl | rfl | rfl | rfl | hw
  · exact al_self _ w1
  · exact al_self _ w2
  · exact al_self _ w4
  · exact al_self _ w5
  · exact al_self _ hw
theorem is_callSH (X : im_X p l s m args meth c g cc nL own ret) {index : Nat} {y : MethodName} {cc' : ByteArray} {nL' : Nat} {ret' : Option FieldType} {hh : List (Nat × Nat × Nat × Nat)} {d' : Nat} (As : List Value) (rest : List Value) (na : Nat) (hna : As.length = na) {r : Option Value}
    (hM : im_EH l g ad d' y cc' nL' ret' hh As S r S') (w1 : Cond.methodLink own index y ∈ al_W) (w2 : Cond.static y ∈ al_W) (w4 : Cond.initialized y.cls ∈ al_W) (w5 : Cond.codeWith y cc' nL' ret' hh ∈ al_W)
    (hdy : y.cls ≠ "java/lang/invoke/MethodHandle" ∧ y.cls ≠ "java/lang/invoke/VarHandle" ∧ (parseMethodDescriptor y.desc).map (fun d => d.parameters.length) = some na) (hR1 : d' + 1 ≤ R.frames) (hR2 : 8 + (nL' + 11) + 40 * d' ≤ R.locals) (hst : (rest.map fun v => v.category).sum ≤ 8) (hstk : st = As.reverse ++ rest)
    (hd : decode cc pc = .ok (.invokestatic index, 3)) (hb1 : bc = bc' + 1) (hb2 : bs = bs' + 6) (kk : im_V p l e R s m args below meth c g nL Q ad im_N (im_cn g ad S') bc' bs' (pc + 3) lv (r.toList ++ rest)) : im_V p l e R s m args below meth c g nL Q ad im_N (im_cn g ad S) bc bs pc lv st := by
  intro M hR ls H locs cells slots hl hP hD hS h1 h2
  subst hb1; subst hb2
  exact im_call X (vx_runSW (rest := rest) (As := As) (n := As.length) ⟨X.1, X.2.1, X.2.2.1, X.2.2.2.1, X.2.2.2.2.1⟩ (hM M hR) (vx_cwSW As.length X.2.2.2.2.1 (im_goodSH w1 w2 w4 w5) rfl rfl rfl (by rw [hna]; exact hdy) ⟨hR1, hR2⟩) ⟨im_blind, fun U hU hW => ⟨rfl, im_Uof X hP hD hS hU hW⟩⟩ rfl rfl hl.1 hstk (lv_room hst) hd ⟨by omega, by omega⟩) hl hS h1 h2 (fun r' M' h => by obtain ⟨rfl, h3⟩ := h; exact kk M' h3)
end IMLW
theorem wcw_compile : Cond.codeWith yL_compile cL_compile 3 (some .int) [(0, 8, 11, 13)] ∈ al_W := al_of (by decide +kernel) rfl
theorem wcw_fire : Cond.codeWith yL_fire cL_fire 6 (some .int) [(0, 11, 14, 19), (0, 11, 18, 13), (0, 11, 22, 21)] ∈ al_W := al_of (by decide +kernel) rfl
theorem wcw_value : Cond.codeWith yL_value cL_value 3 (some .int) [(0, 7, 10, 27)] ∈ al_W := al_of (by decide +kernel) rfl
theorem wcw_cell : Cond.codeWith yL_cell cL_cell 5 (some .int) [(0, 9, 12, 27)] ∈ al_W := al_of (by decide +kernel) rfl
