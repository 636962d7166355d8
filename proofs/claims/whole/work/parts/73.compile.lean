/-! compile: on a good text the two graphs change places -/
def sw (i : Nat) : Nat := cond (Nat.ble 6 i && Nat.ble i 29) (i + 34) (cond (Nat.ble 40 i && Nat.ble i 63) (i - 34) i)
def swS (S : im_S) : im_S := (fun i => S.1 (sw i), fun i => S.2.1 (sw i), fun i => S.2.2 (sw i))
theorem sw_all : alln (fun i => sw i < im_N ∧ sw (sw i) = i) im_N := by
  repeat' first | exact trivial | refine ⟨?_, ⟨Nat.le_of_ble_eq_true rfl, rfl⟩⟩
theorem gP_swS (S : im_S) : gP (swS S) = gP S := rfl
theorem va_up_up {α : Type} (f : Nat → α) (i : Nat) (x y : α) : va_up (va_up f i x) i y = va_up f i y := by
  funext k
  by_cases h : k = i
  · subst h; rw [va_up_self, va_up_self]
  · rw [va_up_ne _ _ h, va_up_ne _ _ h, va_up_ne _ _ h]
/-- the memory behind load: the machine has the parser's graph too -/
def ld_cn (g : im_G) (ad : Nat → Nat) (S : im_S) : Nat → va_E := va_up (im_cn g ad S) 38 (.inr (7, [.ref (ad 6), .ref (ad 64), .int 0, .int (S.1 38 3), .long (S.2.1 38 4), .ref (ad 67), .ref (ad 72), .ref (ad 39), .int (S.1 38 8), .int 0, .int (S.1 38 10), .int (S.1 38 11), .int (S.1 38 12), .int (S.1 38 13), .int (S.1 38 14), .long (S.2.1 38 15)]))
/-- .. and the parser has the machine's -/
def ld_cn2 (g : im_G) (ad : Nat → Nat) (S : im_S) : Nat → va_E := va_up (ld_cn g ad S) 3 (.inr (9, [.ref (ad 5), .ref (ad 40), .ref (ad 30), .ref (ad 34), .ref (ad 4), .int (S.1 3 5), .int (S.1 3 6), .int (S.1 3 7), .int (S.1 3 8), .int (S.1 3 9), .int (S.1 3 10)]))
set_option maxHeartbeats 4000000 in
set_option maxRecDepth 100000 in
theorem ld_sh (g : im_G) (ad : Nat → Nat) (S : im_S) : alln (fun i => ld_cn2 g ad S (sw i) = im_cn g (fun i => ad (sw i)) (swS (uI (uI S 38 9 0) 38 2 0)) i) im_N := by
  repeat' first | exact trivial | refine ⟨?_, rfl⟩
theorem rep_swap {g : im_G} {ad : Nat → Nat} {S : im_S} {M : im_M} (h : im_Rep ad im_N (ld_cn2 g ad S) M) : im_Rep (fun i => ad (sw i)) im_N (im_cn g (fun i => ad (sw i)) (swS (uI (uI S 38 9 0) 38 2 0))) M := by
  refine ⟨fun i hi => ?_, fun i j hi hj z => ?_⟩
  · have q := alln_use sw_all i hi
    exact ⟨(h.1 (sw i) q.1).1, (h.1 (sw i) q.1).2.trans (alln_use (ld_sh g ad S) i hi)⟩
  · have q := alln_use sw_all i hi
    have q2 := alln_use sw_all j hj
    have := h.2 (sw i) (sw j) q.1 q2.1 z
    rw [← q.2, ← q2.2, this]
set_option maxHeartbeats 4000000 in
set_option maxRecDepth 100000 in
theorem ld_e (l : Launch) (g : im_G) (ad : Nat → Nat) (S : im_S) {M : im_M} (hR : im_Rep ad im_N (im_cn g ad S) M) : im_C l g 0 yX5_load cX5_load 2 none 0 0 [.ref (ad 38), .ref (ad 6)] M (fun r M' => r = none ∧ im_Rep ad im_N (ld_cn g ad S) M') := by
  refine im_met (own := RX5) (by decide +kernel) rfl (Nat.le_of_ble_eq_true rfl) (fun p e s m below meth c X _ => ?_)
  revert M
  show im_V _ _ _ _ _ _ _ _ _ _ _ _ _ ad im_N (im_cn g ad S) 0 0 0 _ _
  refine iv_aload_n (pc := 0) X dX5_load_0 rfl ?_
  refine iv_aload_n (pc := 1) X dX5_load_1 rfl ?_
  refine iv_put (pc := 2) X 7 0 tyX5 tyX5_ok nmX5 rfl wx_X5 (by decide) wf_X5_12 rfl rfl rfl dX5_load_2 38 (by decide) rfl (Nat.le_of_ble_eq_true rfl) ?_
  refine iv_aload_n (pc := 5) X dX5_load_5 rfl ?_
  refine iv_iconst (pc := 6) X dX5_load_6 ic_0 ?_
  refine iv_put (pc := 7) X 7 9 tyX5 tyX5_ok nmX5 rfl wx_X5 (by decide) wf_X5_43 rfl rfl rfl dX5_load_7 38 (by decide) rfl (Nat.le_of_ble_eq_true rfl) ?_
  refine iv_aload_n (pc := 10) X dX5_load_10 rfl ?_
  refine iv_iconst (pc := 11) X dX5_load_11 ic_0 ?_
  refine iv_put (pc := 12) X 7 2 tyX5 tyX5_ok nmX5 rfl wx_X5 (by decide) wf_X5_47 rfl rfl rfl dX5_load_12 38 (by decide) rfl (Nat.le_of_ble_eq_true rfl) ?_
  intro M hM
  rw [va_up_up, va_up_up] at hM
  exact ir_vret (R := im_R 0 0 0) (pc := 15) X dX5_load_15 ⟨rfl, hM⟩
section IMCM
variable {p : Program} {l : Launch} {e : Env} {R : Room} {s : State} {m : MethodId} {args : Array Value} {below : List Frame} {meth : Method} {c : Code} {g : im_G} {cc : ByteArray} {nL : Nat} {ret : Option FieldType} {Q : State → Prop}
variable {ad ad' : Nat → Nat} {pc bc bs mc ms : Nat} {lv : List (Nat × Value)} {st : List Value} {S S' : im_S} {d : Nat}
theorem is_metXC {own : String} {y : MethodName} {vs : List Value} {o : String ⊕ Option Value} (hy : plainName y.cls = true) (hown : y.cls = own) (hvs : (lg_sl vs).length ≤ nL)
    (body : ∀ (mc ms : Nat) (p : Program) (e : Env) (s : State) (m : MethodId) (below : List Frame) (meth : Method) (c : Code), im_X p l s m vs.toArray meth c g cc nL own ret → (∀ x ∈ c.exceptionTable.toList, False) → im_V p l e (im_R d (1 + mc) (6 + ms)) s m vs.toArray below meth c g nL (im_ZXL below g ad vs.toArray s (1 + mc) (6 + ms) o S') ad im_N (im_cn g ad S) (1 + mc) (6 + ms) 0 (lv_args 0 vs) []) :
    im_EXL l g ad d y cc nL ret vs S o S' :=
  fun M hM => im_metX hy hown hvs (fun p e s m below meth c X hn => body ((gP S' - gP S) / 64) (2 * (gP S' - gP S)) p e s m below meth c X hn M hM)
theorem is_iretXC {own : String} (X : im_X p l s m args meth c g cc nL own (some .int)) {x : Int32} (h : adL ad ad') (hd : decode cc pc = .ok (.ireturn, 1)) : im_V p l e (im_R d mc ms) s m args below meth c g nL (im_ZXL below g ad args s mc ms (ox_I (.inr x)) S) ad' im_N (im_cn g ad' S) bc bs pc lv [.int x] :=
  fun M hM => ir_retX (ir_iret (R := im_R d mc ms) X hd ⟨rfl, _, h, hM⟩)
theorem is_thIAEC (X : im_X p l s m args meth c g cc nL RX10 ret) (hlT : l.stackTraces = false) (hZ : ∀ V, g.2.2.2 V → im_Zs g V) (hnt : ∀ x ∈ c.exceptionTable.toList, False) (d0 : decode cc pc = .ok (.new 43, 3)) (d3 : decode cc (pc + 3) = .ok (.dup, 1)) (d4 : decode cc (pc + 4) = .ok (.invokespecial 45, 3)) (d7 : decode cc (pc + 7) = .ok (.athrow, 1)) (hR1 : 5 < d) (hR2 : (st.map fun v => v.category).sum + 81 ≤ 40 * d) :
    im_V p l e (im_R d (1 + mc) (6 + ms)) s m args below meth c g nL (im_ZXL below g ad args s (1 + mc) (6 + ms) (.inl xIAE) S) ad im_N (im_cn g ad S) (1 + mc) (6 + ms) pc lv st :=
  fun M hM => ir_throw (R := im_R d (1 + mc) (6 + ms)) X hlT hZ (by decide +kernel) wl_xIAE wn_xIAE twg_45 (fun w hw => tw_of hw (fun z hz => List.mem_append_left _ hz)) two_45 d0 d3 d4 d7 hnt hR1 hR2 (by omega) (by omega) ⟨rfl, ad, ⟨rfl, rfl, rfl⟩, hM⟩
end IMCM
def f_X10_compile (fu : Nat) (S : im_S) : Option ((String ⊕ Int32) × im_S) := (f_X7_read fu (S.1 0 4) (uI S 0 4 0)).bind (fun q => if (q.1 : Int32) ≠ 0 then some (.inr (q.2.1 22 3), swS (uI (uI q.2 38 9 0) 38 2 0)) else some (.inl xIAE, q.2))
set_option maxHeartbeats 4000000 in
set_option maxRecDepth 100000 in
theorem f_X10_compile_x (l : Launch) (g : im_G) (ad : Nat → Nat) (hZt : ∀ V, g.2.2.2 V → im_Zt g V) {q w : Nat} (hZu : ∀ V, g.2.2.2 V → im_Zu q w g V) (hlT : l.stackTraces = false) (hZ : ∀ V, g.2.2.2 V → im_Zs g V) (fu : Nat) (S : im_S) (o : String ⊕ Int32) (S' : im_S) (hm : f_X10_compile fu S = some (o, S')) : im_EXL l g ad 7 yX10_compile cX10_compile 3 (some Jvm.ClassFile.FieldType.int) [.ref (ad 0)] S (ox_I o) S' := by
  unfold f_X10_compile at hm
  refine is_metXC (own := RX10) (by decide +kernel) rfl (Nat.le_of_ble_eq_true rfl) (fun mc ms p e s m below meth c X hnt => ?_)
  refine iv_aload_n (pc := 0) X dX10_compile_0 rfl ?_
  refine gF_X10_31_0 (pc := 1) X dX10_compile_1 (x := S.1 0 4) rfl ?_
  refine iv_istore_n (pc := 4) X dX10_compile_4 (by decide) (lv' := [(1, .int (S.1 0 4)), (0, .ref (ad 0))]) rfl ?_
  refine iv_aload_n (pc := 5) X dX10_compile_5 rfl ?_
  refine iv_iconst (pc := 6) X dX10_compile_6 ic_0 ?_
  refine pF_X10_31_0 (pc := 7) X dX10_compile_7 ?_
  refine iv_aload_n (pc := 10) X dX10_compile_10 rfl ?_
  refine gF_X10_20_0 (pc := 11) X dX10_compile_11 ?_
  refine iv_aload_n (pc := 14) X dX10_compile_14 rfl ?_
  refine gF_X10_9_0 (pc := 15) X dX10_compile_15 ?_
  refine iv_iload_n (pc := 18) X dX10_compile_18 rfl ?_
  obtain ⟨⟨r2, S1⟩, hc3, hm⟩ := bd_some hm
  refine cV_X10_39_3 (pc := 19) X [.ref (ad 1), .int (S.1 0 4)] [] 2 rfl (f_X7_read_e l g ad hZt hZu fu (S.1 0 4) (uI S 0 4 0) _ _ hc3) (Nat.le_of_ble_eq_true rfl) (Nat.le_of_ble_eq_true rfl) (Nat.le_of_ble_eq_true rfl) rfl dX10_compile_19 ?_
  refine iv_if_ne (pc := 22) X dX10_compile_22 (tgt := 33) rfl (fun hb4 => ?_) (fun hb4 => ?_)
  · rw [if_pos hb4] at hm
    cases hm
    refine iv_aload_n (pc := 33) X dX10_compile_33 rfl ?_
    refine gF_X10_27_0 (pc := 34) X dX10_compile_34 ?_
    refine gF_X10_46_38 (pc := 37) X dX10_compile_37 ?_
    refine iv_astore_n (pc := 40) X dX10_compile_40 (by decide) (lv' := [(2, .ref (ad 40)), (1, .int (S.1 0 4)), (0, .ref (ad 0))]) rfl ?_
    refine iv_aload_n (pc := 41) X dX10_compile_41 rfl ?_
    refine gF_X10_27_0 (pc := 42) X dX10_compile_42 ?_
    refine iv_aload_n (pc := 45) X dX10_compile_45 rfl ?_
    refine gF_X10_20_0 (pc := 46) X dX10_compile_46 ?_
    refine gF_X10_50_3 (pc := 49) X dX10_compile_49 ?_
    intro M hR
    refine ir_callV (pc := 52) (bc' := 1 + mc) (bs' := 6 + ms) X 7 [.ref (ad 6)] [] (ld_e l g ad S1 hR) rfl (hR.1 38 (by decide)).1 ((hR.1 38 (by decide)).2.trans rfl) wm_X10_51 wi_yX5_load we_yX5_load wn_X5 wc_yX5_load (by show yX5_load.cls = RX5 ∧ yX5_load.cls ≠ "java/lang/invoke/MethodHandle" ∧ yX5_load.cls ≠ "java/lang/invoke/VarHandle" ∧ (parseMethodDescriptor yX5_load.desc).map (fun d => d.parameters.length) = some 1; decide) (Nat.le_of_ble_eq_true rfl) (Nat.le_of_ble_eq_true rfl) (Nat.le_of_ble_eq_true rfl) rfl dX10_compile_52 rfl rfl (fun r' M' h => ?_)
    obtain ⟨rfl, h2⟩ := h
    revert M' h2
    show im_V _ _ _ _ _ _ _ _ _ _ _ _ _ ad im_N (ld_cn g ad S1) _ _ _ _ _
    refine iv_aload_n (pc := 55) X dX10_compile_55 rfl ?_
    refine iv_get (pc := 56) X 12 2 rfl wx_X10 (by decide) wf_X10_20 dX10_compile_56 0 (by decide) rfl rfl ?_
    refine iv_aload_n (pc := 59) X dX10_compile_59 rfl ?_
    refine iv_put (pc := 60) X 9 1 tyX7 tyX7_ok nmX7 rfl wx_X7 (by decide) wf_X10_50 rfl rfl rfl dX10_compile_60 3 (by decide) rfl (Nat.le_of_ble_eq_true rfl) ?_
    intro M2 hM2
    refine (?_ : im_V _ _ _ _ _ _ _ _ _ _ _ _ _ (fun i => ad (sw i)) im_N (im_cn g (fun i => ad (sw i)) (swS (uI (uI S1 38 9 0) 38 2 0))) _ _ _ _ _) M2 (rep_swap hM2)
    refine iv_aload_n (pc := 63) X dX10_compile_63 rfl ?_
    refine gF_X10_27_0 (pc := 64) X dX10_compile_64 ?_
    refine gF_X10_46_38 (pc := 67) X dX10_compile_67 ?_
    refine gF_X10_55_40 (pc := 70) X dX10_compile_70 ?_
    refine gF_X10_61_56 (pc := 73) X dX10_compile_73 (x := S1.1 22 3) rfl ?_
    exact is_iretXC (pc := 76) X ⟨rfl, rfl, rfl⟩ dX10_compile_76
  · rw [if_neg hb4] at hm
    cases hm
    exact is_thIAEC (pc := 25) X hlT hZ hnt dX10_compile_25 dX10_compile_28 dX10_compile_29 dX10_compile_32 (by decide) (Nat.le_of_ble_eq_true rfl)
