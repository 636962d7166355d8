/-! the class's signs: a String constant that the start gives; String.indexOf over it (written by wip/whole/mk58.py) -/
def sgA : Nat → Int32 := fun j => match j with | 0 => 40 | 1 => 41 | 2 => 91 | 3 => 93 | 4 => 44 | 5 => 59 | 6 => 61 | 7 => 60 | 8 => 43 | 9 => 45 | 10 => 42 | 11 => 47 | 12 => 37 | 13 => 38 | 14 => 124 | 15 => 33 | _ => 0
def im_Zu (q w : Nat) (g : im_G) (V : State) : Prop := vk_R RX9 47 "()[],;=<+-*/%&|!" q V ∧ va_O RJ0 q (im_A g) V g.2.2.1 ∧ va_OF "java/lang/String" "coder" "B" (.int 0) q (im_A g) V g.2.2.1 ∧ va_OF "java/lang/String" "value" "[B" (.ref w) q (im_A g) V g.2.2.1 ∧ va_T .byte w 16 (fun j => .int (sgA j)) (im_A g) V g.2.2.1 ∧ va_Z "java/lang/String" "COMPACT_STRINGS" "Z" (.int 1) (im_A g) V g.2.2.1
set_option maxHeartbeats 4000000 in
set_option maxRecDepth 100000 in
theorem zu_start (g : im_G) {args : Array Value} {s : State} (hg : g.2.2.1 = s.heap) (hts : ∀ w ∈ lw_tbl, w.before args s = true) (hgv : (Jvm.Cond.and given_1 narrow_1).before args s = true) : ∃ q w : Nat, ∀ V : State, s.WarmedH V.vm → im_Zu q w g V := by
  have hs := flat_of_before _ hgv
  have hA : ∀ a : Nat, a < s.heap.size → ¬ im_A g a := fun a ha h => by unfold im_A at h; rw [hg] at h; omega
  obtain ⟨a, c, cA, kA, q1, q2, q3, q4, q5, q6, -⟩ := Cond.exactly_spec (args := args) (first := s) (o := none) (s := s) (idx := []) (t := (.string "TagFlow$Tokens" 47)) (cls := "java/lang/String") (hs (Cond.exactly (.string "TagFlow$Tokens" 47) "java/lang/String") (by decide +kernel))
  have e0 := va_eqt (hs (Cond.eq (.elem (.field (.string "TagFlow$Tokens" 47) "java/lang/String" "value" "[B") (.int 0)) (.int 40)) (by decide +kernel))
  have e1 := va_eqt (hs (Cond.eq (.elem (.field (.string "TagFlow$Tokens" 47) "java/lang/String" "value" "[B") (.int 1)) (.int 41)) (by decide +kernel))
  have e2 := va_eqt (hs (Cond.eq (.elem (.field (.string "TagFlow$Tokens" 47) "java/lang/String" "value" "[B") (.int 2)) (.int 91)) (by decide +kernel))
  have e3 := va_eqt (hs (Cond.eq (.elem (.field (.string "TagFlow$Tokens" 47) "java/lang/String" "value" "[B") (.int 3)) (.int 93)) (by decide +kernel))
  have e4 := va_eqt (hs (Cond.eq (.elem (.field (.string "TagFlow$Tokens" 47) "java/lang/String" "value" "[B") (.int 4)) (.int 44)) (by decide +kernel))
  have e5 := va_eqt (hs (Cond.eq (.elem (.field (.string "TagFlow$Tokens" 47) "java/lang/String" "value" "[B") (.int 5)) (.int 59)) (by decide +kernel))
  have e6 := va_eqt (hs (Cond.eq (.elem (.field (.string "TagFlow$Tokens" 47) "java/lang/String" "value" "[B") (.int 6)) (.int 61)) (by decide +kernel))
  have e7 := va_eqt (hs (Cond.eq (.elem (.field (.string "TagFlow$Tokens" 47) "java/lang/String" "value" "[B") (.int 7)) (.int 60)) (by decide +kernel))
  have e8 := va_eqt (hs (Cond.eq (.elem (.field (.string "TagFlow$Tokens" 47) "java/lang/String" "value" "[B") (.int 8)) (.int 43)) (by decide +kernel))
  have e9 := va_eqt (hs (Cond.eq (.elem (.field (.string "TagFlow$Tokens" 47) "java/lang/String" "value" "[B") (.int 9)) (.int 45)) (by decide +kernel))
  have e10 := va_eqt (hs (Cond.eq (.elem (.field (.string "TagFlow$Tokens" 47) "java/lang/String" "value" "[B") (.int 10)) (.int 42)) (by decide +kernel))
  have e11 := va_eqt (hs (Cond.eq (.elem (.field (.string "TagFlow$Tokens" 47) "java/lang/String" "value" "[B") (.int 11)) (.int 47)) (by decide +kernel))
  have e12 := va_eqt (hs (Cond.eq (.elem (.field (.string "TagFlow$Tokens" 47) "java/lang/String" "value" "[B") (.int 12)) (.int 37)) (by decide +kernel))
  have e13 := va_eqt (hs (Cond.eq (.elem (.field (.string "TagFlow$Tokens" 47) "java/lang/String" "value" "[B") (.int 13)) (.int 38)) (by decide +kernel))
  have e14 := va_eqt (hs (Cond.eq (.elem (.field (.string "TagFlow$Tokens" 47) "java/lang/String" "value" "[B") (.int 14)) (.int 124)) (by decide +kernel))
  have e15 := va_eqt (hs (Cond.eq (.elem (.field (.string "TagFlow$Tokens" 47) "java/lang/String" "value" "[B") (.int 15)) (.int 33)) (by decide +kernel))
  have hel : ∀ j : Nat, j < 16 → (Term.elem (.field (.string "TagFlow$Tokens" 47) "java/lang/String" "value" "[B") (.int (Int32.ofNat j))).eval args s none [] s = some (.int (sgA j)) := by
    intro j hj
    match j, hj with
    | 0, _ => exact e0
    | 1, _ => exact e1
    | 2, _ => exact e2
    | 3, _ => exact e3
    | 4, _ => exact e4
    | 5, _ => exact e5
    | 6, _ => exact e6
    | 7, _ => exact e7
    | 8, _ => exact e8
    | 9, _ => exact e9
    | 10, _ => exact e10
    | 11, _ => exact e11
    | 12, _ => exact e12
    | 13, _ => exact e13
    | 14, _ => exact e14
    | 15, _ => exact e15
    | j + 16, h => exact absurd h (by omega)
  obtain ⟨t, ht, hT⟩ := va_Tof (N := 16) (f := fun j => .int (sgA j)) (A := im_A g) (by decide) (hs (Cond.arrayOf (.field (.string "TagFlow$Tokens" 47) "java/lang/String" "value" "[B") .byte) (by decide +kernel)) (va_eqt (hs (Cond.eq (.length (.field (.string "TagFlow$Tokens" 47) "java/lang/String" "value" "[B")) (.int 16)) (by decide +kernel))) hel hA
  have hO : va_O RJ0 a (im_A g) s s.heap := ⟨cA, q3, q5, by rw [q6]; exact q2, hA a (Array.getElem?_eq_some_iff.mp q3).1⟩
  have hC : va_OF "java/lang/String" "coder" "B" (.int 0) a (im_A g) s s.heap := vk_OFof q1 (va_eqt (hs (Cond.eq (.field (.string "TagFlow$Tokens" 47) "java/lang/String" "coder" "B") (.int 0)) (by decide +kernel))) hA
  have hV : va_OF "java/lang/String" "value" "[B" (.ref t) a (im_A g) s s.heap := vk_OFof q1 ht hA
  have hZ : va_Z "java/lang/String" "COMPACT_STRINGS" "Z" (.int 1) (im_A g) s s.heap := va_Zof (hts _ (by decide +kernel)) (hts _ (by decide +kernel)) (va_eqt (hs (Cond.eq (.static "java/lang/String" "COMPACT_STRINGS" "Z") (.int 1)) (by decide +kernel))) hA
  have hR : vk_R RX9 47 "()[],;=<+-*/%&|!" a s := vk_R.of (hts _ (by decide +kernel)) q1
  refine ⟨a, t, fun V hW => ?_⟩
  unfold im_Zu
  rw [hg]
  exact ⟨vk_R.warm hW hR, va_O.moved hW.alike hO, va_OF.moved hW.alike hC, va_OF.moved hW.alike hV, va_T.moved hW.alike hT, va_Z.moved hW.alike hZ⟩
section IMSG
variable {p : Program} {l : Launch} {e : Env} {R : Room} {s : State} {m : MethodId} {args : Array Value} {below : List Frame} {meth : Method} {c : Code} {g : im_G} {cc : ByteArray} {nL : Nat} {own : String} {ret : Option FieldType} {Q : State → Prop}
variable {ad : Nat → Nat} {nn : Nat} {cn : Nat → va_E} {bc bs pc : Nat} {lv : List (Nat × Value)} {st : List Value} {q w : Nat} {S S' : im_S}
theorem iv_sgldc (X : im_X p l s m args meth c g cc nL RX9 ret) {tx : String} {index : Nat} (hZ : vk_R RX9 index tx q s) (hd : decode cc pc = .ok (.ldc index, 2)) (kk : im_V p l e R s m args below meth c g nL Q ad nn cn bc bs (pc + 2) lv (.ref q :: st)) : im_V p l e R s m args below meth c g nL Q ad nn cn bc bs pc lv st :=
  fun M hM ls H locs cells slots hl hP hD hS h1 h2 => va_ldcS X.1 X.2.1 X.2.2.2.1 hZ hd (kk M hM ls H locs cells slots hl hP hD hS h1 h2)
theorem iv_sgget (X : im_X p l s m args meth c g cc nL own ret) {o n d : String} {index : Nat} {v : Value} (hE : va_OF o n d v q (im_A g) s g.2.2.1) (hlink : Cond.fieldLink own index o n d ∈ al_W) (hd : decode cc pc = .ok (.getfield index, 3)) (kk : im_V p l e R s m args below meth c g nL Q ad nn cn bc bs (pc + 3) lv (v :: st)) : im_V p l e R s m args below meth c g nL Q ad nn cn bc bs pc lv (.ref q :: st) :=
  fun M hM ls H locs cells slots hl hP hD hS h1 h2 => vk_getf X.1 X.2.1 (hE.kept (fun a ha _ => X.2.2.2.2.2.2.2.1 a ha)) hS X.2.2.2.1 (X.2.2.2.2.1 _ hlink) (fun _ h => h) hd (kk M hM ls H locs cells slots hl hP hD hS h1 h2)
theorem iv_sgst (X : im_X p l s m args meth c g cc nL own ret) {C n d : String} {index : Nat} {v : Value} (hZ : va_Z C n d v (im_A g) s g.2.2.1) (hlink : Cond.fieldLink own index C n d ∈ al_W) (hd : decode cc pc = .ok (.getstatic index, 3)) (kk : im_V p l e R s m args below meth c g nL Q ad nn cn bc bs (pc + 3) lv (v :: st)) : im_V p l e R s m args below meth c g nL Q ad nn cn bc bs pc lv st :=
  fun M hM ls H locs cells slots hl hP hD hS h1 h2 => va_gets X.1 X.2.1 (hZ.kept (fun a ha _ => X.2.2.2.2.2.2.2.1 a ha)) hS X.2.2.2.1 (X.2.2.2.2.1 _ hlink) (fun _ h => h) hd (kk M hM ls H locs cells slots hl hP hD hS h1 h2)
theorem iv_sglen (X : im_X p l s m args meth c g cc nL own ret) {ty : FieldType} {N : Nat} {f : Nat → Value} (hT : va_T ty w N f (im_A g) s g.2.2.1) {v : Int32} (hv : Int32.ofNat N = v) (hd : decode cc pc = .ok (.arraylength, 1)) (kk : im_V p l e R s m args below meth c g nL Q ad nn cn bc bs (pc + 1) lv (.int v :: st)) : im_V p l e R s m args below meth c g nL Q ad nn cn bc bs pc lv (.ref w :: st) :=
  fun M hM ls H locs cells slots hl hP hD hS h1 h2 => va_tlen X.1 X.2.1 (hT.kept (fun a ha _ => X.2.2.2.2.2.2.2.1 a ha)) hS hv hd (kk M hM ls H locs cells slots hl hP hD hS h1 h2)
theorem iv_sgld (X : im_X p l s m args meth c g cc nL own ret) {N : Nat} {f : Nat → Value} (hT : va_T .byte w N f (im_A g) s g.2.2.1) {i : Int32} (hin : vp_in i N) {v : Value} (hv : f i.toNatClampNeg = v) (hd : decode cc pc = .ok (.baload, 1)) (kk : im_V p l e R s m args below meth c g nL Q ad nn cn bc bs (pc + 1) lv (v :: st)) : im_V p l e R s m args below meth c g nL Q ad nn cn bc bs pc lv (.int i :: .ref w :: st) := by
  intro M hM ls H locs cells slots hl hP hD hS h1 h2
  obtain ⟨cell, e1, e2, e3, e4, e5, e6, e7⟩ := hT.kept (H1 := s.heap) (fun a ha _ => X.2.2.2.2.2.2.2.1 a ha)
  have hlt : i.toNatClampNeg < N := Nat.not_le.mp fun q => hin (Or.inr q)
  have hin' : ¬ (i < 0 ∨ cell.slots.size ≤ i.toNatClampNeg) := by
    intro q
    rcases q with q | q
    · exact hin (Or.inl q)
    · omega
  exact W.bald (v := v) X.1 X.2.1 (by rw [hS.2.1 w (Array.getElem?_eq_some_iff.mp e1).1 e7]; exact e1) e2 e3 hin' (by rw [e6 _ hlt, hv]) rfl rfl hd (kk M hM ls H locs cells slots hl hP hD hS h1 h2)
theorem is_callQ (X : im_X p l s m args meth c g cc nL own ret) {C : String} {index : Nat} {y : MethodName} {cc' : ByteArray} {nL' : Nat} {ret' : Option FieldType} {d' : Nat} (As : List Value) (rest : List Value) (na : Nat) (hna : As.length = na) {r : Option Value}
    (hM : im_E l g ad d' y cc' nL' ret' (.ref q :: As) S r S') (hO : va_O C q (im_A g) s g.2.2.1) (w1 : Cond.methodLink own index y ∈ al_W) (w2 : Cond.instanceMethod y ∈ al_W) (w3 : Cond.selects C y y ∈ al_W) (w4 : Cond.initialized C ∈ al_W) (w5 : Cond.code y cc' nL' ret' ∈ al_W)
    (hdy : y.cls = C ∧ y.cls ≠ "java/lang/invoke/MethodHandle" ∧ y.cls ≠ "java/lang/invoke/VarHandle" ∧ (parseMethodDescriptor y.desc).map (fun d => d.parameters.length) = some na) (hR1 : d' + 1 ≤ R.frames) (hR2 : 8 + (nL' + 11) + 40 * d' ≤ R.locals) (hst : (rest.map fun v => v.category).sum ≤ 8) (hstk : st = As.reverse ++ .ref q :: rest)
    (hd : decode cc pc = .ok (.invokevirtual index, 3)) (kk : im_V p l e R s m args below meth c g nL Q ad im_N (im_cn g ad S') bc bs (pc + 3) lv (r.toList ++ rest)) : im_V p l e R s m args below meth c g nL Q ad im_N (im_cn g ad S) bc bs pc lv st := by
  intro M hR ls H locs cells slots hl hP hD hS h1 h2
  subst hna
  obtain ⟨cell, c1, c2, c3, -⟩ := (hO.kept (H1 := s.heap) (fun a ha _ => X.2.2.2.2.2.2.2.1 a ha)).kept hS.2.1
  exact im_call X (va_runV (rest := rest) (As := As) ⟨X.1, X.2.1, X.2.2.1, X.2.2.2.1, X.2.2.2.2.1⟩ (hM M hR) (cwV As.length X.2.2.2.2.1 (im_goodV w1 w2 w3 w4 w5) rfl rfl rfl hdy ⟨hR1, hR2⟩) ⟨im_blind, ⟨cell, c1, c2, c3⟩, fun U hU hW => ⟨rfl, im_Uof X hP hD hS hU hW⟩⟩ rfl rfl hl.1 hstk (lv_room hst) hd ⟨by omega, by omega⟩) hl hS h1 h2 (fun r' M' h => by obtain ⟨rfl, h3⟩ := h; exact kk M' h3)
theorem iv_ishr (X : im_X p l s m args meth c g cc nL own ret) {x y : Int32} (hd : decode cc pc = .ok (.ishr, 1)) (kk : im_V p l e R s m args below meth c g nL Q ad nn cn bc bs (pc + 1) lv (.int (x >>> (y &&& 31)) :: st)) : im_V p l e R s m args below meth c g nL Q ad nn cn bc bs pc lv (.int y :: .int x :: st) :=
  fun M hM ls H locs cells slots hl hP hD hS h1 h2 => lv_ishr X.1 X.2.1 hd (kk M hM ls H locs cells slots hl hP hD hS h1 h2)
end IMSG
set_option maxHeartbeats 4000000 in
set_option maxRecDepth 100000 in
theorem sg_canEncode (l : Launch) (g : im_G) (ad : Nat → Nat) (x : Int32) (S : im_S) : im_E l g ad 0 yJ1_canEncode_9a6ad cJ1_canEncode_9a6ad 1 (some Jvm.ClassFile.FieldType.boolean) [.int x] S (some (.int (if x < 0 then 0 else if (255 : Int32) < x then 0 else 1))) S := by
  refine is_met (own := RJ1) (by decide +kernel) rfl (Nat.le_of_ble_eq_true rfl) (fun p e s m below meth c X => ?_)
  refine iv_iload_n (pc := 0) X dJ1_canEncode_9a6ad_0 rfl ?_
  refine iv_if_lt (pc := 1) X dJ1_canEncode_9a6ad_1 (tgt := 15) rfl (fun hb1 => ?_) (fun hb1 => ?_)
  · rw [if_pos hb1]
    refine iv_iconst (pc := 15) X dJ1_canEncode_9a6ad_15 ic_0 ?_
    exact is_zret (pc := 16) X dJ1_canEncode_9a6ad_16 rfl
  · rw [if_neg hb1]
    refine iv_iload_n (pc := 4) X dJ1_canEncode_9a6ad_4 rfl ?_
    refine iv_sipush (pc := 5) X dJ1_canEncode_9a6ad_5 (show (Int16.ofInt 255).toInt32 = (255 : Int32) by decide) ?_
    refine iv_icmp_gt (pc := 8) X dJ1_canEncode_9a6ad_8 (tgt := 15) rfl (fun hb2 => ?_) (fun hb2 => ?_)
    · rw [if_pos hb2]
      refine iv_iconst (pc := 15) X dJ1_canEncode_9a6ad_15 ic_0 ?_
      exact is_zret (pc := 16) X dJ1_canEncode_9a6ad_16 rfl
    · rw [if_neg hb2]
      refine iv_iconst (pc := 11) X dJ1_canEncode_9a6ad_11 ic_1 ?_
      refine iv_goto (pc := 12) X dJ1_canEncode_9a6ad_12 (tgt := 16) rfl ?_
      exact is_zret (pc := 16) X dJ1_canEncode_9a6ad_16 rfl
def sg_L : Nat → Int32 → Int32 → Option Int32
  | 0, _, _ => none
  | nf + 1, b, i => if (16 : Int32) ≤ i then some (-1) else gd (in_b i 16) (if (sgA i.toNatClampNeg : Int32) ≠ b then sg_L nf b (i + 1) else some i)
set_option maxHeartbeats 4000000 in
set_option maxRecDepth 100000 in
theorem sg_Lw (l : Launch) (g : im_G) (ad : Nat → Nat) {p : Program} {e : Env} {s : State} {m : MethodId} {below : List Frame} {meth : Method} {c : Code} {args : Array Value} {w : Nat} (X : im_X p l s m args meth c g cJ1_indexOfChar_4cfef 6 RJ1 (some Jvm.ClassFile.FieldType.int)) (hT : va_T .byte w 16 (fun j => .int (sgA j)) (im_A g) s g.2.2.1) (x : Int32) (S : im_S) : ∀ (nf : Nat) (b i r : Int32), sg_L nf b i = some r → im_V p l e (im_R 0 0 0) s m args below meth c g 6 (im_Z below g ad args s (some (.int r)) S) ad im_N (im_cn g ad S) 0 0 7 [(0, .ref w), (3, .int 16), (4, .int b), (5, .int i)] [] := by
  intro nf
  induction nf with
  | zero => intro b i r h; cases h
  | succ nf ih =>
    intro b i r h
    unfold sg_L at h
    refine iv_iload (pc := 7) X dJ1_indexOfChar_4cfef_7 rfl ?_
    refine iv_iload_n (pc := 9) X dJ1_indexOfChar_4cfef_9 rfl ?_
    refine iv_icmp_ge (pc := 10) X dJ1_indexOfChar_4cfef_10 (tgt := 31) rfl (fun hb1 => ?_) (fun hb1 => ?_)
    · rw [if_pos hb1] at h
      cases h
      refine iv_iconst (pc := 31) X dJ1_indexOfChar_4cfef_31 (show Int32.ofInt (-1) = (-1 : Int32) by decide) ?_
      exact is_iret (pc := 32) X dJ1_indexOfChar_4cfef_32
    · rw [if_neg hb1] at h
      obtain ⟨hg, h⟩ := gd_some h
      refine iv_aload_n (pc := 13) X dJ1_indexOfChar_4cfef_13 rfl ?_
      refine iv_iload (pc := 14) X dJ1_indexOfChar_4cfef_14 rfl ?_
      refine iv_sgld (pc := 16) X hT (in_b_vp hg) (v := .int (sgA i.toNatClampNeg)) rfl dJ1_indexOfChar_4cfef_16 ?_
      refine iv_iload (pc := 17) X dJ1_indexOfChar_4cfef_17 rfl ?_
      refine iv_icmp_ne (pc := 19) X dJ1_indexOfChar_4cfef_19 (tgt := 25) rfl (fun hb2 => ?_) (fun hb2 => ?_)
      · rw [if_pos hb2] at h
        refine iv_iinc (pc := 25) X dJ1_indexOfChar_4cfef_25 rfl (by decide) (v := i + 1) rfl (lv' := [(5, .int (i + 1)), (0, .ref w), (3, .int 16), (4, .int b)]) rfl ?_
        refine iv_goto (pc := 28) X dJ1_indexOfChar_4cfef_28 (tgt := 7) rfl ?_
        refine iv_sub [1, 2, 3, 0] (lv2 := [(0, .ref w), (3, .int 16), (4, .int b), (5, .int (i + 1))]) rfl ?_
        exact ih b (i + 1) r h
      · rw [if_neg hb2] at h
        cases h
        refine iv_iload (pc := 22) X dJ1_indexOfChar_4cfef_22 rfl ?_
        exact is_iret (pc := 24) X dJ1_indexOfChar_4cfef_24
