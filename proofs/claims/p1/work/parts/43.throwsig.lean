/-! methods that throw, over states of numbers -/
def im_EX (l : Launch) (g : im_G) (ad : Nat → Nat) (d : Nat) (y : MethodName) (cc : ByteArray) (nL : Nat) (ret : Option FieldType) (vs : List Value) (S : im_S) (o : String ⊕ Option Value) (S' : im_S) : Prop :=
  ∀ M : im_M, im_Rep ad im_N (im_cn g ad S) M → im_CX l g d y cc nL ret 1 6 vs M (fun r M' => o = .inr r ∧ im_Rep ad im_N (im_cn g ad S') M') (fun E M' => o = .inl E ∧ im_Rep ad im_N (im_cn g ad S') M')
abbrev im_ZX (below : List Frame) (g : im_G) (ad : Nat → Nat) (args : Array Value) (s : State) (o : String ⊕ Option Value) (S' : im_S) : State → Prop := vx_MQ below (im_Q g (fun r M' => o = .inr r ∧ im_Rep ad im_N (im_cn g ad S') M')) (im_XC g (fun E M' => o = .inl E ∧ im_Rep ad im_N (im_cn g ad S') M')) args s 1 6 (im_A g)
def ox_I (o : String ⊕ Int32) : String ⊕ Option Value := match o with | .inl E => .inl E | .inr x => .inr (some (.int x))
def ox_J (o : String ⊕ Int64) : String ⊕ Option Value := match o with | .inl E => .inl E | .inr x => .inr (some (.long x))
theorem wn_xIAE : Cond.initialized xIAE ∈ al_W := al_of (by decide +kernel) rfl
theorem wn_xISE : Cond.initialized xISE ∈ al_W := al_of (by decide +kernel) rfl
theorem wn_xAE : Cond.initialized xAE ∈ al_W := al_of (by decide +kernel) rfl
theorem wn_xNSE : Cond.initialized xNSE ∈ al_W := al_of (by decide +kernel) rfl
theorem wl_xIAE : Cond.classLink RX10 43 xIAE ∈ al_W := al_of (by decide +kernel) rfl
theorem wl_xISE : Cond.classLink RX10 93 xISE ∈ al_W := al_of (by decide +kernel) rfl
theorem wl_xAE : Cond.classLink RX10 99 xAE ∈ al_W := al_of (by decide +kernel) rfl
theorem wl_xNSE : Cond.classLink RX10 118 xNSE ∈ al_W := al_of (by decide +kernel) rfl
section IMU
variable {p : Program} {l : Launch} {e : Env} {R : Room} {s : State} {m : MethodId} {args : Array Value} {below : List Frame} {meth : Method} {c : Code} {g : im_G} {cc : ByteArray} {nL : Nat} {ret : Option FieldType} {Q : State → Prop}
variable {ad : Nat → Nat} {pc : Nat} {lv : List (Nat × Value)} {st : List Value} {S S' : im_S} {d : Nat}
theorem is_metX {own : String} {y : MethodName} {vs : List Value} {o : String ⊕ Option Value} (hy : plainName y.cls = true) (hown : y.cls = own) (hvs : (lg_sl vs).length ≤ nL)
    (body : ∀ (p : Program) (e : Env) (s : State) (m : MethodId) (below : List Frame) (meth : Method) (c : Code), im_X p l s m vs.toArray meth c g cc nL own ret → (∀ x ∈ c.exceptionTable.toList, False) → im_V p l e (im_R d 1 6) s m vs.toArray below meth c g nL (im_ZX below g ad vs.toArray s o S') ad im_N (im_cn g ad S) 1 6 0 (lv_args 0 vs) []) :
    im_EX l g ad d y cc nL ret vs S o S' :=
  fun M hM => im_metX hy hown hvs (fun p e s m below meth c X hn => body p e s m below meth c X hn M hM)
theorem is_iretX {own : String} (X : im_X p l s m args meth c g cc nL own (some .int)) {x : Int32} (hd : decode cc pc = .ok (.ireturn, 1)) : im_V p l e (im_R d 1 6) s m args below meth c g nL (im_ZX below g ad args s (ox_I (.inr x)) S) ad im_N (im_cn g ad S) 1 6 pc lv [.int x] :=
  fun M hM => ir_retX (ir_iret (R := im_R d 1 6) X hd ⟨rfl, hM⟩)
theorem is_lretX {own : String} (X : im_X p l s m args meth c g cc nL own (some .long)) {x : Int64} (hd : decode cc pc = .ok (.lreturn, 1)) : im_V p l e (im_R d 1 6) s m args below meth c g nL (im_ZX below g ad args s (ox_J (.inr x)) S) ad im_N (im_cn g ad S) 1 6 pc lv [.long x] :=
  fun M hM => ir_retX (ir_lret (R := im_R d 1 6) X hd ⟨rfl, hM⟩)
theorem is_thIAE (X : im_X p l s m args meth c g cc nL RX10 ret) (hlT : l.stackTraces = false) (hZ : ∀ V, g.2.2.2 V → im_Zs g V) (hnt : ∀ x ∈ c.exceptionTable.toList, False) (d0 : decode cc pc = .ok (.new 43, 3)) (d3 : decode cc (pc + 3) = .ok (.dup, 1)) (d4 : decode cc (pc + 4) = .ok (.invokespecial 45, 3)) (d7 : decode cc (pc + 7) = .ok (.athrow, 1)) (hR1 : 5 < d) (hR2 : (st.map fun v => v.category).sum + 81 ≤ 40 * d) :
    im_V p l e (im_R d 1 6) s m args below meth c g nL (im_ZX below g ad args s (.inl xIAE) S) ad im_N (im_cn g ad S) 1 6 pc lv st :=
  fun M hM => ir_throw (R := im_R d 1 6) X hlT hZ (by decide +kernel) wl_xIAE wn_xIAE twg_45 (fun w hw => tw_of hw (fun z hz => List.mem_append_left _ hz)) two_45 d0 d3 d4 d7 hnt hR1 hR2 (by decide) (by decide) ⟨rfl, hM⟩
theorem is_thISE (X : im_X p l s m args meth c g cc nL RX10 ret) (hlT : l.stackTraces = false) (hZ : ∀ V, g.2.2.2 V → im_Zs g V) (hnt : ∀ x ∈ c.exceptionTable.toList, False) (d0 : decode cc pc = .ok (.new 93, 3)) (d3 : decode cc (pc + 3) = .ok (.dup, 1)) (d4 : decode cc (pc + 4) = .ok (.invokespecial 95, 3)) (d7 : decode cc (pc + 7) = .ok (.athrow, 1)) (hR1 : 5 < d) (hR2 : (st.map fun v => v.category).sum + 81 ≤ 40 * d) :
    im_V p l e (im_R d 1 6) s m args below meth c g nL (im_ZX below g ad args s (.inl xISE) S) ad im_N (im_cn g ad S) 1 6 pc lv st :=
  fun M hM => ir_throw (R := im_R d 1 6) X hlT hZ (by decide +kernel) wl_xISE wn_xISE twg_95 (fun w hw => tw_of hw (fun z hz => List.mem_append_right _ (List.mem_append_left _ hz))) two_95 d0 d3 d4 d7 hnt hR1 hR2 (by decide) (by decide) ⟨rfl, hM⟩
theorem is_thAE (X : im_X p l s m args meth c g cc nL RX10 ret) (hlT : l.stackTraces = false) (hZ : ∀ V, g.2.2.2 V → im_Zs g V) (hnt : ∀ x ∈ c.exceptionTable.toList, False) (d0 : decode cc pc = .ok (.new 99, 3)) (d3 : decode cc (pc + 3) = .ok (.dup, 1)) (d4 : decode cc (pc + 4) = .ok (.invokespecial 101, 3)) (d7 : decode cc (pc + 7) = .ok (.athrow, 1)) (hR1 : 5 < d) (hR2 : (st.map fun v => v.category).sum + 81 ≤ 40 * d) :
    im_V p l e (im_R d 1 6) s m args below meth c g nL (im_ZX below g ad args s (.inl xAE) S) ad im_N (im_cn g ad S) 1 6 pc lv st :=
  fun M hM => ir_throw (R := im_R d 1 6) X hlT hZ (by decide +kernel) wl_xAE wn_xAE twg_101 (fun w hw => tw_of hw (fun z hz => List.mem_append_right _ (List.mem_append_right _ (List.mem_append_left _ hz)))) two_101 d0 d3 d4 d7 hnt hR1 hR2 (by decide) (by decide) ⟨rfl, hM⟩
theorem is_thNSE (X : im_X p l s m args meth c g cc nL RX10 ret) (hlT : l.stackTraces = false) (hZ : ∀ V, g.2.2.2 V → im_Zs g V) (hnt : ∀ x ∈ c.exceptionTable.toList, False) (d0 : decode cc pc = .ok (.new 118, 3)) (d3 : decode cc (pc + 3) = .ok (.dup, 1)) (d4 : decode cc (pc + 4) = .ok (.invokespecial 120, 3)) (d7 : decode cc (pc + 7) = .ok (.athrow, 1)) (hR1 : 5 < d) (hR2 : (st.map fun v => v.category).sum + 81 ≤ 40 * d) :
    im_V p l e (im_R d 1 6) s m args below meth c g nL (im_ZX below g ad args s (.inl xNSE) S) ad im_N (im_cn g ad S) 1 6 pc lv st :=
  fun M hM => ir_throw (R := im_R d 1 6) X hlT hZ (by decide +kernel) wl_xNSE wn_xNSE twg_120 (fun w hw => tw_of hw (fun z hz => List.mem_append_right _ (List.mem_append_right _ (List.mem_append_right _ hz)))) two_120 d0 d3 d4 d7 hnt hR1 hR2 (by decide) (by decide) ⟨rfl, hM⟩
end IMU
