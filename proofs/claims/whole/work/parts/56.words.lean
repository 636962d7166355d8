/-! the class's words: a static array of longs that the start gives; Tokens.nameOrWord -/
def wdA : Nat → Int64 := fun j => match j with | 0 => 7103860 | 1 => 26990 | 2 => 26982 | 3 => 1952998766 | 4 => 1701606245 | 5 => 1819242352 | 6 => 512852847717 | 7 => 1852143732 | 8 => 1734964837 | 9 => 7627106 | 10 => 28518 | 11 => 1953658213 | 12 => 439721161573 | _ => 0
def va_Xl (b L : Nat) (xs : Nat → Int64) (U : State) (H : Heap) : Prop := ∃ scr : Cell, H[b]? = some scr ∧ U.isArrayOf scr .long ∧ scr.vm ≠ .unknown ∧ scr.slots.size = L ∧ ∀ j : Nat, j < L → scr.slots[j]? = some (.long (xs j))
theorem va_Xl.moved {b L : Nat} {xs : Nat → Int64} {u U : State} {H : Heap} (hvm : u.vm.Alike U.vm) (h : va_Xl b L xs u H) : va_Xl b L xs U H := by
  obtain ⟨scr, h1, h2, h3, h4, h5⟩ := h
  exact ⟨scr, h1, State.isArrayOf_alike hvm h2, h3, h4, h5⟩
def im_Zt (g : im_G) (V : State) : Prop := ∃ w : Nat, va_Z "TagFlow$Tokens" "WORDS" "[J" (.ref w) (im_A g) V g.2.2.1 ∧ w < g.2.2.1.size ∧ va_Xl w 13 wdA V g.2.2.1
theorem eq_int {args : Array Value} {s : State} {t : Term} {z : Int32} (h : (Cond.eq t (.int z)).before args s = true) : t.eval args s none [] s = some (.int z) := by
  cases hv : t.eval args s none [] s with
  | none => simp [Cond.before, Cond.holds, Cond.value, hv] at h
  | some w =>
    have hz : (Term.int z).eval args s none [] s = some (.int z) := rfl
    simp only [Cond.before, Cond.holds, Cond.value, hv, hz] at h
    cases w <;> simp_all
theorem eq_long {args : Array Value} {s : State} {t : Term} {z : Int64} (h : (Cond.eq t (.long z)).before args s = true) : t.eval args s none [] s = some (.long z) := by
  cases hv : t.eval args s none [] s with
  | none => simp [Cond.before, Cond.holds, Cond.value, hv] at h
  | some w =>
    have hz : (Term.long z).eval args s none [] s = some (.long z) := rfl
    simp only [Cond.before, Cond.holds, Cond.value, hv, hz] at h
    cases w <;> simp_all
theorem len_of {args : Array Value} {s : State} {t : Term} {n : Nat} (hn : n < 2 ^ 31) (h : t.length.eval args s none [] s = some (.int (nI n))) : ∃ a cell, t.eval args s none [] s = some (.ref a) ∧ s.arrayAt? a = some cell ∧ cell.slots.size = n := by
  obtain ⟨a, cell, ha, hc, hv⟩ := Term.length_spec h
  refine ⟨a, cell, ha, hc, ?_⟩
  have hlt : cell.slots.size < 2147483648 := by
    refine Decidable.byContradiction (fun hq => ?_)
    simp only [Term.eval, Option.bind_eq_bind] at h
    simp [ha, hc, hq] at h
  have h3 : nI n = nI cell.slots.size := by injection hv
  have h4 := congrArg Int32.toInt h3
  rw [nI_toInt hn, nI_toInt (by omega)] at h4
  omega
theorem elem_of {args : Array Value} {s : State} {t : Term} {a : Addr} {cell : Cell} {k : Int32} {v : Value} (ha : t.eval args s none [] s = some (.ref a)) (hc : s.arrayAt? a = some cell) (h : (Term.elem t (.int k)).eval args s none [] s = some v) : cell.slots[k.toNatClampNeg]? = some v := by
  obtain ⟨a', j, cell', ha', hj, hc', -, hv⟩ := Term.elem_spec h
  have e1 : a' = a := by rw [ha] at ha'; cases ha'; rfl
  have e2 : j = k := by cases hj; rfl
  subst e1; subst e2
  rw [hc] at hc'
  cases hc'
  exact hv
set_option maxHeartbeats 4000000 in
set_option maxRecDepth 100000 in
theorem zt_start (g : im_G) {args : Array Value} {s : State} (hg : g.2.2.1 = s.heap) (hts : ∀ w ∈ lw_tbl, w.before args s = true) (hgv : (Jvm.Cond.and given_1 narrow_1).before args s = true) : ∀ V : State, s.WarmedH V.vm → im_Zt g V := by
  intro V hW
  have hs := flat_of_before _ hgv
  have hA : ∀ a : Nat, a < s.heap.size → ¬ im_A g a := fun a ha h => by unfold im_A at h; rw [hg] at h; omega
  obtain ⟨a, cell, ha, hc, hn⟩ := len_of (n := 13) (by decide) (eq_int (hs (Cond.eq (.length (.static "TagFlow$Tokens" "WORDS" "[J")) (.int 13)) (by decide +kernel)))
  obtain ⟨hcell, hkn, -, -⟩ := State.arrayAt?_spec hc
  have har := Cond.arrayOf_spec (hs (Cond.arrayOf (.static "TagFlow$Tokens" "WORDS" "[J") .long) (by decide +kernel)) ha hcell
  have e0 := elem_of ha hc (eq_long (hs (Cond.eq (.elem (.static "TagFlow$Tokens" "WORDS" "[J") (.int 0)) (.long 7103860)) (by decide +kernel)))
  have e1 := elem_of ha hc (eq_long (hs (Cond.eq (.elem (.static "TagFlow$Tokens" "WORDS" "[J") (.int 1)) (.long 26990)) (by decide +kernel)))
  have e2 := elem_of ha hc (eq_long (hs (Cond.eq (.elem (.static "TagFlow$Tokens" "WORDS" "[J") (.int 2)) (.long 26982)) (by decide +kernel)))
  have e3 := elem_of ha hc (eq_long (hs (Cond.eq (.elem (.static "TagFlow$Tokens" "WORDS" "[J") (.int 3)) (.long 1952998766)) (by decide +kernel)))
  have e4 := elem_of ha hc (eq_long (hs (Cond.eq (.elem (.static "TagFlow$Tokens" "WORDS" "[J") (.int 4)) (.long 1701606245)) (by decide +kernel)))
  have e5 := elem_of ha hc (eq_long (hs (Cond.eq (.elem (.static "TagFlow$Tokens" "WORDS" "[J") (.int 5)) (.long 1819242352)) (by decide +kernel)))
  have e6 := elem_of ha hc (eq_long (hs (Cond.eq (.elem (.static "TagFlow$Tokens" "WORDS" "[J") (.int 6)) (.long 512852847717)) (by decide +kernel)))
  have e7 := elem_of ha hc (eq_long (hs (Cond.eq (.elem (.static "TagFlow$Tokens" "WORDS" "[J") (.int 7)) (.long 1852143732)) (by decide +kernel)))
  have e8 := elem_of ha hc (eq_long (hs (Cond.eq (.elem (.static "TagFlow$Tokens" "WORDS" "[J") (.int 8)) (.long 1734964837)) (by decide +kernel)))
  have e9 := elem_of ha hc (eq_long (hs (Cond.eq (.elem (.static "TagFlow$Tokens" "WORDS" "[J") (.int 9)) (.long 7627106)) (by decide +kernel)))
  have e10 := elem_of ha hc (eq_long (hs (Cond.eq (.elem (.static "TagFlow$Tokens" "WORDS" "[J") (.int 10)) (.long 28518)) (by decide +kernel)))
  have e11 := elem_of ha hc (eq_long (hs (Cond.eq (.elem (.static "TagFlow$Tokens" "WORDS" "[J") (.int 11)) (.long 1953658213)) (by decide +kernel)))
  have e12 := elem_of ha hc (eq_long (hs (Cond.eq (.elem (.static "TagFlow$Tokens" "WORDS" "[J") (.int 12)) (.long 439721161573)) (by decide +kernel)))
  refine ⟨a, ?_, ?_, ?_⟩
  · rw [hg]; exact va_Z.moved hW.alike (va_Zof (hts _ (by decide +kernel)) (hts _ (by decide +kernel)) ha hA)
  · rw [hg]; exact (Array.getElem?_eq_some_iff.mp hcell).1
  · rw [hg]
    refine va_Xl.moved hW.alike ⟨cell, hcell, har.1, har.2, hn, fun j hj => ?_⟩
    match j, hj with
    | 0, _ => exact e0
    | 1, _ => exact e1
    | 2, _ => exact e2
    | 3, _ => exact e3
    | 4, _ => exact e4
    | 5, _ => exact e5
    | 6, _ => exact e6
    | 7, _ => exact e7
    | 8, _ => exact e8
    | 9, _ => exact e9
    | 10, _ => exact e10
    | 11, _ => exact e11
    | 12, _ => exact e12
section IMWD
variable {p : Program} {l : Launch} {e : Env} {R : Room} {s : State} {m : MethodId} {args : Array Value} {below : List Frame} {meth : Method} {c : Code} {g : im_G} {cc : ByteArray} {nL : Nat} {own : String} {ret : Option FieldType} {Q : State → Prop}
variable {ad : Nat → Nat} {nn : Nat} {cn : Nat → va_E} {bc bs pc : Nat} {lv : List (Nat × Value)} {st : List Value} {w : Nat}
theorem iv_wget (X : im_X p l s m args meth c g cc nL RX9 ret) (hZ : va_Z "TagFlow$Tokens" "WORDS" "[J" (.ref w) (im_A g) s g.2.2.1) (hd : decode cc pc = .ok (.getstatic 61, 3)) (kk : im_V p l e R s m args below meth c g nL Q ad nn cn bc bs (pc + 3) lv (.ref w :: st)) : im_V p l e R s m args below meth c g nL Q ad nn cn bc bs pc lv st :=
  fun M hM ls H locs cells slots hl hP hD hS h1 h2 => va_gets X.1 X.2.1 (hZ.kept (fun a ha _ => X.2.2.2.2.2.2.2.1 a ha)) hS X.2.2.2.1 (X.2.2.2.2.1 _ wf_X9_61) (fun _ h => h) hd (kk M hM ls H locs cells slots hl hP hD hS h1 h2)
theorem iv_wlen (X : im_X p l s m args meth c g cc nL own ret) {L : Nat} {xs : Nat → Int64} (hw : w < g.2.2.1.size) (hX : va_Xl w L xs s g.2.2.1) (hd : decode cc pc = .ok (.arraylength, 1)) (kk : im_V p l e R s m args below meth c g nL Q ad nn cn bc bs (pc + 1) lv (.int (Int32.ofNat L) :: st)) : im_V p l e R s m args below meth c g nL Q ad nn cn bc bs pc lv (.ref w :: st) := by
  intro M hM ls H locs cells slots hl hP hD hS h1 h2
  obtain ⟨scr, e1, e2, e3, e4, e5⟩ := hX
  have hb : ¬ im_A g w := fun h => by unfold im_A at h; omega
  have hc : H[w]? = some scr := by rw [hS.2.1 w (Nat.lt_of_lt_of_le hw X.2.2.2.2.2.2.1) hb, X.2.2.2.2.2.2.2.1 w hw]; exact e1
  exact W.alen (n := Int32.ofNat L) X.1 X.2.1 hc e2 (by rw [e4] <;> rfl) rfl rfl hd (kk M hM ls H locs cells slots hl hP hD hS h1 h2)
theorem iv_wld (X : im_X p l s m args meth c g cc nL own ret) {L : Nat} {xs : Nat → Int64} (hw : w < g.2.2.1.size) (hX : va_Xl w L xs s g.2.2.1) {i : Int32} (hin : vp_in i L) (hd : decode cc pc = .ok (.laload, 1)) (kk : im_V p l e R s m args below meth c g nL Q ad nn cn bc bs (pc + 1) lv (.long (xs i.toNatClampNeg) :: st)) : im_V p l e R s m args below meth c g nL Q ad nn cn bc bs pc lv (.int i :: .ref w :: st) := by
  intro M hM ls H locs cells slots hl hP hD hS h1 h2
  obtain ⟨scr, e1, e2, e3, e4, e5⟩ := hX
  have hb : ¬ im_A g w := fun h => by unfold im_A at h; omega
  have hc : H[w]? = some scr := by rw [hS.2.1 w (Nat.lt_of_lt_of_le hw X.2.2.2.2.2.2.1) hb, X.2.2.2.2.2.2.2.1 w hw]; exact e1
  have hlt : i.toNatClampNeg < L := Nat.not_le.mp fun q => hin (Or.inr q)
  exact W.lald (v := .long (xs i.toNatClampNeg)) X.1 X.2.1 hc e2 e3 (by rw [e4]; exact hin) (e5 _ hlt) rfl rfl hd (kk M hM ls H locs cells slots hl hP hD hS h1 h2)
end IMWD
def f_X9_nameOrWord_L2 : Nat → Int64 → Int32 → im_S → Option (Int32 × im_S)
  | 0, _, _, _ => none
  | nf + 1, x0, z2, S => if (13 : Int32) ≤ z2 then (some (1, S)) else (gd (in_b z2 13) (if (lg_cmp (wdA z2.toNatClampNeg) x0 : Int32) ≠ 0 then (f_X9_nameOrWord_L2 nf x0 (z2 + 1) S) else (some (4 + z2, S))))
set_option maxHeartbeats 4000000 in
set_option maxRecDepth 100000 in
theorem f_X9_nameOrWord_L2_w (l : Launch) (g : im_G) (ad : Nat → Nat) {p : Program} {e : Env} {s : State} {m : MethodId} {below : List Frame} {meth : Method} {c : Code} {args : Array Value} (X : im_X p l s m args meth c g cX9_nameOrWord 3 RX9 (some Jvm.ClassFile.FieldType.int)) {w : Nat} (hZ : va_Z "TagFlow$Tokens" "WORDS" "[J" (.ref w) (im_A g) s g.2.2.1) (hw : w < g.2.2.1.size) (hX : va_Xl w 13 wdA s g.2.2.1) : ∀ (nf : Nat) (x0 : Int64) (z2 : Int32) (S : im_S) (r : Int32) (S' : im_S), f_X9_nameOrWord_L2 nf x0 z2 S = some (r, S') → im_V p l e (im_R 0 0 0) s m args below meth c g 3 (im_Z below g ad args s (some (.int r)) S') ad im_N (im_cn g ad S) 0 0 2 [(0, .long x0), (2, .int z2)] [] := by
  intro nf
  induction nf with
  | zero =>
    intro x0 z2 S r S' hm
    cases hm
  | succ nf ih =>
    intro x0 z2 S r S' hm
    unfold f_X9_nameOrWord_L2 at hm
    refine iv_iload_n (pc := 2) X dX9_nameOrWord_2 rfl ?_
    refine iv_wget (pc := 3) X hZ dX9_nameOrWord_3 ?_
    refine iv_wlen (pc := 6) X hw hX dX9_nameOrWord_6 ?_
    refine iv_icmp_ge (pc := 7) X dX9_nameOrWord_7 (tgt := 30) rfl (fun hb1 => ?_) (fun hb1 => ?_) (y := 13)
    · rw [if_pos hb1] at hm
      refine iv_iconst (pc := 30) X dX9_nameOrWord_30 ic_1 ?_
      cases hm
      exact is_iret (pc := 31) X dX9_nameOrWord_31
    · rw [if_neg hb1] at hm
      obtain ⟨hg, hm⟩ := gd_some hm
      refine iv_wget (pc := 10) X hZ dX9_nameOrWord_10 ?_
      refine iv_iload_n (pc := 13) X dX9_nameOrWord_13 rfl ?_
      refine iv_wld (pc := 14) X hw hX (in_b_vp hg) dX9_nameOrWord_14 ?_
      refine iv_lload_n (pc := 15) X dX9_nameOrWord_15 rfl ?_
      refine iv_lcmp (pc := 16) X dX9_nameOrWord_16 ?_
      refine iv_if_ne (pc := 17) X dX9_nameOrWord_17 (tgt := 24) rfl (fun hb2 => ?_) (fun hb2 => ?_)
      · rw [if_pos hb2] at hm
        refine iv_iinc (pc := 24) X dX9_nameOrWord_24 rfl (by decide) (v := z2 + 1) rfl (lv' := [(2, .int (z2 + 1)), (0, .long x0)]) rfl ?_
        refine iv_goto (pc := 27) X dX9_nameOrWord_27 (tgt := 2) rfl ?_
        refine iv_sub [1, 0] (lv2 := [(0, .long x0), (2, .int (z2 + 1))]) rfl ?_
        exact ih x0 (z2 + 1) S _ _ hm
      · rw [if_neg hb2] at hm
        refine iv_iconst (pc := 20) X dX9_nameOrWord_20 ic_4 ?_
        refine iv_iload_n (pc := 21) X dX9_nameOrWord_21 rfl ?_
        refine iv_iadd (pc := 22) X dX9_nameOrWord_22 ?_
        cases hm
        exact is_iret (pc := 23) X dX9_nameOrWord_23
def f_X9_nameOrWord (x0 : Int64) (S : im_S) : Option (Int32 × im_S) := f_X9_nameOrWord_L2 14 x0 0 S
set_option maxHeartbeats 4000000 in
set_option maxRecDepth 100000 in
theorem f_X9_nameOrWord_e (l : Launch) (g : im_G) (ad : Nat → Nat) (hZt : ∀ V, g.2.2.2 V → im_Zt g V) (x0 : Int64) (S : im_S) (r : Int32) (S' : im_S) (hm : f_X9_nameOrWord x0 S = some (r, S')) : im_E l g ad 0 yX9_nameOrWord cX9_nameOrWord 3 (some Jvm.ClassFile.FieldType.int) [.long x0] S (some (.int r)) S' := by
  unfold f_X9_nameOrWord at hm
  refine is_met (own := RX9) (by decide +kernel) rfl (Nat.le_of_ble_eq_true rfl) (fun p e s m below meth c X => ?_)
  obtain ⟨w, hZ, hw, hX⟩ := hZt s (X.2.2.2.2.2.2.2.2.1 s (State.WarmedH.refl s))
  refine iv_iconst (pc := 0) X dX9_nameOrWord_0 ic_0 ?_
  refine iv_istore_n (pc := 1) X dX9_nameOrWord_1 (by decide) (lv' := [(2, .int 0), (0, .long x0)]) rfl ?_
  refine iv_sub [1, 0] (lv2 := [(0, .long x0), (2, .int 0)]) rfl ?_
  exact f_X9_nameOrWord_L2_w l g ad X hZ hw hX 14 x0 0 S r S' hm
