/-! written by program (wip/whole/walk.py): methods as functions, and their contracts -/
def f_J9_floorMod_f86c9 (x0 : Int64) (x2 : Int64) (S : im_S) : Option (Int64 × im_S) := gd (nz_J x2) (if (0 : Int32) ≤ (lg_cmp (x0 ^^^ x2) 0) then (some (x0 - x0 / x2 * x2, S)) else (if (lg_cmp (x0 - x0 / x2 * x2) 0 : Int32) = 0 then (some (x0 - x0 / x2 * x2, S)) else (some ((x0 - x0 / x2 * x2) + x2, S))))
set_option maxHeartbeats 4000000 in
set_option maxRecDepth 100000 in
theorem f_J9_floorMod_f86c9_e (l : Launch) (g : im_G) (ad : Nat → Nat) (x0 : Int64) (x2 : Int64) (S : im_S) (r : Int64) (S' : im_S) (hm : f_J9_floorMod_f86c9 x0 x2 S = some (r, S')) : im_E l g ad 0 yJ9_floorMod_f86c9 cJ9_floorMod_f86c9 6 (some Jvm.ClassFile.FieldType.long) [.long x0, .long x2] S (some (.long r)) S' := by
  unfold f_J9_floorMod_f86c9 at hm
  refine is_metF (own := RJ9) (by decide +kernel) rfl (Nat.le_of_ble_eq_true rfl) (fun p e s m below meth c X => ?_)
  refine iv_lload_n (pc := 0) X dJ9_floorMod_f86c9_0 rfl ?_
  refine iv_lload_n (pc := 1) X dJ9_floorMod_f86c9_1 rfl ?_
  obtain ⟨hg, hm⟩ := gd_some hm
  refine iv_lrem (pc := 2) X dJ9_floorMod_f86c9_2 (of_decide_eq_true hg) ?_
  refine iv_lstore (pc := 3) X dJ9_floorMod_f86c9_3 (by decide) (lv' := [(4, .long (x0 - x0 / x2 * x2)), (0, .long x0), (2, .long x2)]) rfl ?_
  refine iv_lload_n (pc := 5) X dJ9_floorMod_f86c9_5 rfl ?_
  refine iv_lload_n (pc := 6) X dJ9_floorMod_f86c9_6 rfl ?_
  refine iv_lxor (pc := 7) X dJ9_floorMod_f86c9_7 ?_
  refine iv_lconst (pc := 8) X dJ9_floorMod_f86c9_8 lc_0 ?_
  refine iv_lcmp (pc := 9) X dJ9_floorMod_f86c9_9 ?_
  refine iv_if_ge (pc := 10) X dJ9_floorMod_f86c9_10 (tgt := 25) rfl (fun hb1 => ?_) (fun hb1 => ?_)
  · rw [if_pos hb1] at hm
    refine iv_lload (pc := 25) X dJ9_floorMod_f86c9_25 rfl ?_
    cases hm
    exact is_lret (pc := 27) X dJ9_floorMod_f86c9_27
  · rw [if_neg hb1] at hm
    refine iv_lload (pc := 13) X dJ9_floorMod_f86c9_13 rfl ?_
    refine iv_lconst (pc := 15) X dJ9_floorMod_f86c9_15 lc_0 ?_
    refine iv_lcmp (pc := 16) X dJ9_floorMod_f86c9_16 ?_
    refine iv_if_eq (pc := 17) X dJ9_floorMod_f86c9_17 (tgt := 25) rfl (fun hb2 => ?_) (fun hb2 => ?_)
    · rw [if_pos hb2] at hm
      refine iv_lload (pc := 25) X dJ9_floorMod_f86c9_25 rfl ?_
      cases hm
      exact is_lret (pc := 27) X dJ9_floorMod_f86c9_27
    · rw [if_neg hb2] at hm
      refine iv_lload (pc := 20) X dJ9_floorMod_f86c9_20 rfl ?_
      refine iv_lload_n (pc := 22) X dJ9_floorMod_f86c9_22 rfl ?_
      refine iv_ladd (pc := 23) X dJ9_floorMod_f86c9_23 ?_
      cases hm
      exact is_lret (pc := 24) X dJ9_floorMod_f86c9_24
def f_J7_rangeCheck_23922 (x0 : Int32) (x1 : Int32) (x2 : Int32) (S : im_S) : Option (Unit × im_S) := if (x1 : Int32) ≤ x2 then (if (0 : Int32) ≤ x1 then (if (x2 : Int32) ≤ x0 then (some ((), S)) else none) else none) else none
set_option maxHeartbeats 4000000 in
set_option maxRecDepth 100000 in
theorem f_J7_rangeCheck_23922_e (l : Launch) (g : im_G) (ad : Nat → Nat) (x0 : Int32) (x1 : Int32) (x2 : Int32) (S : im_S) (r : Unit) (S' : im_S) (hm : f_J7_rangeCheck_23922 x0 x1 x2 S = some (r, S')) : im_E l g ad 0 yJ7_rangeCheck_23922 cJ7_rangeCheck_23922 3 none [.int x0, .int x1, .int x2] S none S' := by
  unfold f_J7_rangeCheck_23922 at hm
  refine is_met (own := RJ7) (by decide +kernel) rfl (Nat.le_of_ble_eq_true rfl) (fun p e s m below meth c X => ?_)
  refine iv_iload_n (pc := 0) X dJ7_rangeCheck_23922_0 rfl ?_
  refine iv_iload_n (pc := 1) X dJ7_rangeCheck_23922_1 rfl ?_
  refine iv_icmp_le (pc := 2) X dJ7_rangeCheck_23922_2 (tgt := 46) rfl (fun hb1 => ?_) (fun hb1 => ?_)
  · rw [if_pos hb1] at hm
    refine iv_iload_n (pc := 46) X dJ7_rangeCheck_23922_46 rfl ?_
    refine iv_if_ge (pc := 47) X dJ7_rangeCheck_23922_47 (tgt := 59) rfl (fun hb2 => ?_) (fun hb2 => ?_)
    · rw [if_pos hb2] at hm
      refine iv_iload_n (pc := 59) X dJ7_rangeCheck_23922_59 rfl ?_
      refine iv_iload_n (pc := 60) X dJ7_rangeCheck_23922_60 rfl ?_
      refine iv_icmp_le (pc := 61) X dJ7_rangeCheck_23922_61 (tgt := 73) rfl (fun hb3 => ?_) (fun hb3 => ?_)
      · rw [if_pos hb3] at hm
        cases hm
        exact is_vret (pc := 73) X dJ7_rangeCheck_23922_73
      · rw [if_neg hb3] at hm
        cases hm
    · rw [if_neg hb2] at hm
      cases hm
  · rw [if_neg hb1] at hm
    cases hm
def f_J7_fill_bad5a_L10 (fu : Nat) : Nat → Int32 → Int32 → Int64 → Int32 → im_S → Option (Unit × im_S)
  | 0, _, _, _, _, _ => none
  | nf + 1, z1, z2, z3, z5, S => if (z2 : Int32) ≤ z5 then (some ((), S)) else (gd (in_b z5 (S.2.2 66)) (f_J7_fill_bad5a_L10 fu nf z1 z2 z3 (z5 + 1) (uJ S 66 z5.toNatClampNeg z3)))
set_option maxHeartbeats 4000000 in
set_option maxRecDepth 100000 in
theorem f_J7_fill_bad5a_L10_w {fu : Nat} (l : Launch) (g : im_G) (ad : Nat → Nat) {p : Program} {e : Env} {s : State} {m : MethodId} {below : List Frame} {meth : Method} {c : Code} {args : Array Value} (X : im_X p l s m args meth c g cJ7_fill_bad5a 6 RJ7 none) : ∀ (nf : Nat) (z1 : Int32) (z2 : Int32) (z3 : Int64) (z5 : Int32) (S : im_S) (r : Unit) (S' : im_S), f_J7_fill_bad5a_L10 fu nf z1 z2 z3 z5 S = some (r, S') → im_V p l e (im_R 1 0 0) s m args below meth c g 6 (im_Z below g ad args s none S') ad im_N (im_cn g ad S) 0 0 10 [(0, .ref (ad 66)), (1, .int z1), (2, .int z2), (3, .long z3), (5, .int z5)] [] := by
  intro nf
  induction nf with
  | zero =>
    intro z1 z2 z3 z5 S r S' hm
    cases hm
  | succ nf ih =>
    intro z1 z2 z3 z5 S r S' hm
    unfold f_J7_fill_bad5a_L10 at hm
    refine iv_iload (pc := 10) X dJ7_fill_bad5a_10 rfl ?_
    refine iv_iload_n (pc := 12) X dJ7_fill_bad5a_12 rfl ?_
    refine iv_icmp_ge (pc := 13) X dJ7_fill_bad5a_13 (tgt := 27) rfl (fun hb1 => ?_) (fun hb1 => ?_)
    · rw [if_pos hb1] at hm
      cases hm
      exact is_vret (pc := 27) X dJ7_fill_bad5a_27
    · rw [if_neg hb1] at hm
      refine iv_aload_n (pc := 16) X dJ7_fill_bad5a_16 rfl ?_
      refine iv_iload (pc := 17) X dJ7_fill_bad5a_17 rfl ?_
      refine iv_lload_n (pc := 19) X dJ7_fill_bad5a_19 rfl ?_
      obtain ⟨hg, hm⟩ := gd_some hm
      refine aS_66 (pc := 20) X dJ7_fill_bad5a_20 hg ?_
      refine iv_iinc (pc := 21) X dJ7_fill_bad5a_21 rfl (by decide) (v := z5 + 1) rfl (lv' := [(5, .int (z5 + 1)), (0, .ref (ad 66)), (1, .int z1), (2, .int z2), (3, .long z3)]) rfl ?_
      refine iv_goto (pc := 24) X dJ7_fill_bad5a_24 (tgt := 10) rfl ?_
      refine iv_sub [1, 2, 3, 4, 0] (lv2 := [(0, .ref (ad 66)), (1, .int z1), (2, .int z2), (3, .long z3), (5, .int (z5 + 1))]) rfl ?_
      exact ih z1 z2 z3 (z5 + 1) (uJ S 66 z5.toNatClampNeg z3) _ _ hm
def f_J7_fill_bad5a (fu : Nat) (x1 : Int32) (x2 : Int32) (x3 : Int64) (S : im_S) : Option (Unit × im_S) := (f_J7_rangeCheck_23922 (Int32.ofNat (S.2.2 66)) x1 x2 S).bind (fun qS1 => f_J7_fill_bad5a_L10 fu fu x1 x2 x3 x1 qS1.2)
set_option maxHeartbeats 4000000 in
set_option maxRecDepth 100000 in
theorem f_J7_fill_bad5a_e (l : Launch) (g : im_G) (ad : Nat → Nat) (fu : Nat) (x1 : Int32) (x2 : Int32) (x3 : Int64) (S : im_S) (r : Unit) (S' : im_S) (hm : f_J7_fill_bad5a fu x1 x2 x3 S = some (r, S')) : im_E l g ad 1 yJ7_fill_bad5a cJ7_fill_bad5a 6 none [.ref (ad 66), .int x1, .int x2, .long x3] S none S' := by
  unfold f_J7_fill_bad5a at hm
  refine is_met (own := RJ7) (by decide +kernel) rfl (Nat.le_of_ble_eq_true rfl) (fun p e s m below meth c X => ?_)
  refine iv_aload_n (pc := 0) X dJ7_fill_bad5a_0 rfl ?_
  refine iv_alen (pc := 1) X 2 (by decide) (v := Int32.ofNat (S.2.2 66)) dJ7_fill_bad5a_1 66 (by decide) rfl rfl ?_
  refine iv_iload_n (pc := 2) X dJ7_fill_bad5a_2 rfl ?_
  refine iv_iload_n (pc := 3) X dJ7_fill_bad5a_3 rfl ?_
  obtain ⟨⟨r2, S1⟩, hc3, hm⟩ := bd_some hm
  refine cS_J7_13 (pc := 4) X [.int (Int32.ofNat (S.2.2 66)), .int x1, .int x2] [] 3 rfl (f_J7_rangeCheck_23922_e l g ad (Int32.ofNat (S.2.2 66)) x1 x2 S _ _ hc3) (by decide) (by decide) (Nat.le_of_ble_eq_true rfl) rfl dJ7_fill_bad5a_4 ?_
  refine iv_iload_n (pc := 7) X dJ7_fill_bad5a_7 rfl ?_
  refine iv_istore (pc := 8) X dJ7_fill_bad5a_8 (by decide) (lv' := [(5, .int x1), (0, .ref (ad 66)), (1, .int x1), (2, .int x2), (3, .long x3)]) rfl ?_
  refine iv_sub [1, 2, 3, 4, 0] (lv2 := [(0, .ref (ad 66)), (1, .int x1), (2, .int x2), (3, .long x3), (5, .int x1)]) rfl ?_
  exact f_J7_fill_bad5a_L10_w (fu := fu) l g ad X fu x1 x2 x3 x1 S1 _ _ hm
def f_J7_fill_eb02e_L10 (fu : Nat) : Nat → Int32 → Int32 → Int32 → Int32 → im_S → Option (Unit × im_S)
  | 0, _, _, _, _, _ => none
  | nf + 1, z1, z2, z3, z4, S => if (z2 : Int32) ≤ z4 then (some ((), S)) else (gd (in_b z4 (S.2.2 65)) (f_J7_fill_eb02e_L10 fu nf z1 z2 z3 (z4 + 1) (uI S 65 z4.toNatClampNeg (vp_nar .byte z3))))
set_option maxHeartbeats 4000000 in
set_option maxRecDepth 100000 in
theorem f_J7_fill_eb02e_L10_w {fu : Nat} (l : Launch) (g : im_G) (ad : Nat → Nat) {p : Program} {e : Env} {s : State} {m : MethodId} {below : List Frame} {meth : Method} {c : Code} {args : Array Value} (X : im_X p l s m args meth c g cJ7_fill_eb02e 5 RJ7 none) : ∀ (nf : Nat) (z1 : Int32) (z2 : Int32) (z3 : Int32) (z4 : Int32) (S : im_S) (r : Unit) (S' : im_S), f_J7_fill_eb02e_L10 fu nf z1 z2 z3 z4 S = some (r, S') → im_V p l e (im_R 1 0 0) s m args below meth c g 5 (im_Z below g ad args s none S') ad im_N (im_cn g ad S) 0 0 10 [(0, .ref (ad 65)), (1, .int z1), (2, .int z2), (3, .int z3), (4, .int z4)] [] := by
  intro nf
  induction nf with
  | zero =>
    intro z1 z2 z3 z4 S r S' hm
    cases hm
  | succ nf ih =>
    intro z1 z2 z3 z4 S r S' hm
    unfold f_J7_fill_eb02e_L10 at hm
    refine iv_iload (pc := 10) X dJ7_fill_eb02e_10 rfl ?_
    refine iv_iload_n (pc := 12) X dJ7_fill_eb02e_12 rfl ?_
    refine iv_icmp_ge (pc := 13) X dJ7_fill_eb02e_13 (tgt := 27) rfl (fun hb1 => ?_) (fun hb1 => ?_)
    · rw [if_pos hb1] at hm
      cases hm
      exact is_vret (pc := 27) X dJ7_fill_eb02e_27
    · rw [if_neg hb1] at hm
      refine iv_aload_n (pc := 16) X dJ7_fill_eb02e_16 rfl ?_
      refine iv_iload (pc := 17) X dJ7_fill_eb02e_17 rfl ?_
      refine iv_iload_n (pc := 19) X dJ7_fill_eb02e_19 rfl ?_
      obtain ⟨hg, hm⟩ := gd_some hm
      refine aS_65 (pc := 20) X dJ7_fill_eb02e_20 hg ?_
      refine iv_iinc (pc := 21) X dJ7_fill_eb02e_21 rfl (by decide) (v := z4 + 1) rfl (lv' := [(4, .int (z4 + 1)), (0, .ref (ad 65)), (1, .int z1), (2, .int z2), (3, .int z3)]) rfl ?_
      refine iv_goto (pc := 24) X dJ7_fill_eb02e_24 (tgt := 10) rfl ?_
      refine iv_sub [1, 2, 3, 4, 0] (lv2 := [(0, .ref (ad 65)), (1, .int z1), (2, .int z2), (3, .int z3), (4, .int (z4 + 1))]) rfl ?_
      exact ih z1 z2 z3 (z4 + 1) (uI S 65 z4.toNatClampNeg (vp_nar .byte z3)) _ _ hm
def f_J7_fill_eb02e (fu : Nat) (x1 : Int32) (x2 : Int32) (x3 : Int32) (S : im_S) : Option (Unit × im_S) := (f_J7_rangeCheck_23922 (Int32.ofNat (S.2.2 65)) x1 x2 S).bind (fun qS1 => f_J7_fill_eb02e_L10 fu fu x1 x2 x3 x1 qS1.2)
set_option maxHeartbeats 4000000 in
set_option maxRecDepth 100000 in
theorem f_J7_fill_eb02e_e (l : Launch) (g : im_G) (ad : Nat → Nat) (fu : Nat) (x1 : Int32) (x2 : Int32) (x3 : Int32) (S : im_S) (r : Unit) (S' : im_S) (hm : f_J7_fill_eb02e fu x1 x2 x3 S = some (r, S')) : im_E l g ad 1 yJ7_fill_eb02e cJ7_fill_eb02e 5 none [.ref (ad 65), .int x1, .int x2, .int x3] S none S' := by
  unfold f_J7_fill_eb02e at hm
  refine is_met (own := RJ7) (by decide +kernel) rfl (Nat.le_of_ble_eq_true rfl) (fun p e s m below meth c X => ?_)
  refine iv_aload_n (pc := 0) X dJ7_fill_eb02e_0 rfl ?_
  refine iv_alen (pc := 1) X 0 (by decide) (v := Int32.ofNat (S.2.2 65)) dJ7_fill_eb02e_1 65 (by decide) rfl rfl ?_
  refine iv_iload_n (pc := 2) X dJ7_fill_eb02e_2 rfl ?_
  refine iv_iload_n (pc := 3) X dJ7_fill_eb02e_3 rfl ?_
  obtain ⟨⟨r2, S1⟩, hc3, hm⟩ := bd_some hm
  refine cS_J7_13 (pc := 4) X [.int (Int32.ofNat (S.2.2 65)), .int x1, .int x2] [] 3 rfl (f_J7_rangeCheck_23922_e l g ad (Int32.ofNat (S.2.2 65)) x1 x2 S _ _ hc3) (by decide) (by decide) (Nat.le_of_ble_eq_true rfl) rfl dJ7_fill_eb02e_4 ?_
  refine iv_iload_n (pc := 7) X dJ7_fill_eb02e_7 rfl ?_
  refine iv_istore (pc := 8) X dJ7_fill_eb02e_8 (by decide) (lv' := [(4, .int x1), (0, .ref (ad 65)), (1, .int x1), (2, .int x2), (3, .int x3)]) rfl ?_
  refine iv_sub [1, 2, 3, 4, 0] (lv2 := [(0, .ref (ad 65)), (1, .int x1), (2, .int x2), (3, .int x3), (4, .int x1)]) rfl ?_
  exact f_J7_fill_eb02e_L10_w (fu := fu) l g ad X fu x1 x2 x3 x1 S1 _ _ hm
