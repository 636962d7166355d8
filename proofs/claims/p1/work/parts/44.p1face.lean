/-! written by program (wip/whole/walk.py): methods as functions, and their contracts -/
def f_X9_read_p_L10 (fu : Nat) : Nat → Int32 → Int32 → Int32 → im_S → Option (Unit × im_S)
  | 0, _, _, _, _ => none
  | nf + 1, z2, z3, z4, S => if (z2 : Int32) ≤ z4 then ((f_X9_add 0 z2 0 S).bind (fun qS2 => some ((), qS2.2))) else (if (z2 : Int32) ≤ z3 then ((f_X9_add 0 z2 0 S).bind (fun qS6 => some ((), qS6.2))) else (gd (in_b z3 500) (if ((S.1 1) z3.toNatClampNeg : Int32) ≠ 32 then none else (f_X9_read_p_L10 fu nf z2 (z3 + 1) (z4 + 1) S))))
set_option maxHeartbeats 4000000 in
set_option maxRecDepth 100000 in
theorem f_X9_read_p_L10_w {fu : Nat} (l : Launch) (g : im_G) (ad : Nat → Nat) {p : Program} {e : Env} {s : State} {m : MethodId} {below : List Frame} {meth : Method} {c : Code} {args : Array Value} (X : im_X p l s m args meth c g cX9_read 5 RX9 none) : ∀ (nf : Nat) (z2 : Int32) (z3 : Int32) (z4 : Int32) (S : im_S) (r : Unit) (S' : im_S), f_X9_read_p_L10 fu nf z2 z3 z4 S = some (r, S') → im_V p l e (im_R 1 0 0) s m args below meth c g 5 (im_Z below g ad args s none S') ad im_N (im_cn g ad S) 0 0 10 [(0, .ref (ad 30)), (1, .ref (ad 1)), (2, .int z2), (3, .int z3), (4, .int z4)] [] := by
  intro nf
  induction nf with
  | zero =>
    intro z2 z3 z4 S r S' hm
    cases hm
  | succ nf ih =>
    intro z2 z3 z4 S r S' hm
    unfold f_X9_read_p_L10 at hm
    refine iv_iload (pc := 10) X dX9_read_10 rfl ?_
    refine iv_iload_n (pc := 12) X dX9_read_12 rfl ?_
    refine iv_icmp_ge (pc := 13) X dX9_read_13 (tgt := 49) rfl (fun hb1 => ?_) (fun hb1 => ?_)
    · rw [if_pos hb1] at hm
      refine iv_aload_n (pc := 49) X dX9_read_49 rfl ?_
      refine iv_iconst (pc := 50) X dX9_read_50 ic_0 ?_
      refine iv_iload_n (pc := 51) X dX9_read_51 rfl ?_
      refine iv_lconst (pc := 52) X dX9_read_52 lc_0 ?_
      obtain ⟨⟨r3, S2⟩, hc4, hm⟩ := bd_some hm
      refine cV_X9_30_30 (pc := 53) X [.int 0, .int z2, .long 0] [] 3 rfl (f_X9_add_e l g ad 0 z2 0 S _ _ hc4) (by decide) (by decide) (Nat.le_of_ble_eq_true rfl) rfl dX9_read_53 ?_
      cases hm
      exact is_vret (pc := 56) X dX9_read_56
    · rw [if_neg hb1] at hm
      refine iv_iload_n (pc := 16) X dX9_read_16 rfl ?_
      refine iv_iload_n (pc := 17) X dX9_read_17 rfl ?_
      refine iv_icmp_ge (pc := 18) X dX9_read_18 (tgt := 49) rfl (fun hb5 => ?_) (fun hb5 => ?_)
      · rw [if_pos hb5] at hm
        refine iv_aload_n (pc := 49) X dX9_read_49 rfl ?_
        refine iv_iconst (pc := 50) X dX9_read_50 ic_0 ?_
        refine iv_iload_n (pc := 51) X dX9_read_51 rfl ?_
        refine iv_lconst (pc := 52) X dX9_read_52 lc_0 ?_
        obtain ⟨⟨r7, S6⟩, hc8, hm⟩ := bd_some hm
        refine cV_X9_30_30 (pc := 53) X [.int 0, .int z2, .long 0] [] 3 rfl (f_X9_add_e l g ad 0 z2 0 S _ _ hc8) (by decide) (by decide) (Nat.le_of_ble_eq_true rfl) rfl dX9_read_53 ?_
        cases hm
        exact is_vret (pc := 56) X dX9_read_56
      · rw [if_neg hb5] at hm
        refine iv_aload_n (pc := 21) X dX9_read_21 rfl ?_
        refine iv_iload_n (pc := 22) X dX9_read_22 rfl ?_
        obtain ⟨hg, hm⟩ := gd_some hm
        refine aL_1 (pc := 23) X dX9_read_23 hg (x := (S.1 1) z3.toNatClampNeg) rfl ?_
        refine iv_bipush (pc := 24) X dX9_read_24 bc_32 ?_
        refine iv_icmp_ne (pc := 26) X dX9_read_26 (tgt := 35) rfl (fun hb9 => ?_) (fun hb9 => ?_)
        · rw [if_pos hb9] at hm
          refine iv_aload_n (pc := 35) X dX9_read_35 rfl ?_
          refine iv_aload_n (pc := 36) X dX9_read_36 rfl ?_
          refine iv_iload_n (pc := 37) X dX9_read_37 rfl ?_
          refine iv_iload_n (pc := 38) X dX9_read_38 rfl ?_
          cases hm
        · rw [if_neg hb9] at hm
          refine iv_iload_n (pc := 29) X dX9_read_29 rfl ?_
          refine iv_iconst (pc := 30) X dX9_read_30 ic_1 ?_
          refine iv_iadd (pc := 31) X dX9_read_31 ?_
          refine iv_goto (pc := 32) X dX9_read_32 (tgt := 42) rfl ?_
          refine iv_istore_n (pc := 42) X dX9_read_42 (by decide) (lv' := [(3, .int (z3 + 1)), (0, .ref (ad 30)), (1, .ref (ad 1)), (2, .int z2), (4, .int z4)]) rfl ?_
          refine iv_iinc (pc := 43) X dX9_read_43 rfl (by decide) (v := z4 + 1) rfl (lv' := [(4, .int (z4 + 1)), (3, .int (z3 + 1)), (0, .ref (ad 30)), (1, .ref (ad 1)), (2, .int z2)]) rfl ?_
          refine iv_goto (pc := 46) X dX9_read_46 (tgt := 10) rfl ?_
          refine iv_sub [2, 3, 4, 1, 0] (lv2 := [(0, .ref (ad 30)), (1, .ref (ad 1)), (2, .int z2), (3, .int (z3 + 1)), (4, .int (z4 + 1))]) rfl ?_
          exact ih z2 (z3 + 1) (z4 + 1) S _ _ hm
def f_X9_read_p (fu : Nat) (x2 : Int32) (S : im_S) : Option (Unit × im_S) := f_X9_read_p_L10 fu fu x2 0 0 (uI S 30 3 0)
set_option maxHeartbeats 4000000 in
set_option maxRecDepth 100000 in
theorem f_X9_read_p_e (l : Launch) (g : im_G) (ad : Nat → Nat) (fu : Nat) (x2 : Int32) (S : im_S) (r : Unit) (S' : im_S) (hm : f_X9_read_p fu x2 S = some (r, S')) : im_E l g ad 1 yX9_read cX9_read 5 none [.ref (ad 30), .ref (ad 1), .int x2] S none S' := by
  unfold f_X9_read_p at hm
  refine is_met (own := RX9) (by decide +kernel) rfl (Nat.le_of_ble_eq_true rfl) (fun p e s m below meth c X => ?_)
  refine iv_aload_n (pc := 0) X dX9_read_0 rfl ?_
  refine iv_iconst (pc := 1) X dX9_read_1 ic_0 ?_
  refine pF_X9_22_30 (pc := 2) X dX9_read_2 ?_
  refine iv_iconst (pc := 5) X dX9_read_5 ic_0 ?_
  refine iv_istore_n (pc := 6) X dX9_read_6 (by decide) (lv' := [(3, .int 0), (0, .ref (ad 30)), (1, .ref (ad 1)), (2, .int x2)]) rfl ?_
  refine iv_iconst (pc := 7) X dX9_read_7 ic_0 ?_
  refine iv_istore (pc := 8) X dX9_read_8 (by decide) (lv' := [(4, .int 0), (3, .int 0), (0, .ref (ad 30)), (1, .ref (ad 1)), (2, .int x2)]) rfl ?_
  refine iv_sub [2, 3, 4, 1, 0] (lv2 := [(0, .ref (ad 30)), (1, .ref (ad 1)), (2, .int x2), (3, .int 0), (4, .int 0)]) rfl ?_
  exact f_X9_read_p_L10_w (fu := fu) l g ad X fu x2 0 0 (uI S 30 3 0) _ _ hm
def f_X7_read_p_L51 (fu : Nat) : Nat → Int32 → Int32 → Int32 → im_S → Option (Int32 × im_S)
  | 0, _, _, _, _ => none
  | nf + 1, z2, z3, z4, S => if (8 : Int32) < z4 then (if (z3 : Int32) = 0 then (if (S.1 5 0 : Int32) ≠ 0 then (some (0, S)) else (some (1, S))) else ((f_X7_linkCalls fu S).bind (fun qS4 => if (qS4.2.1 5 0 : Int32) ≠ 0 then (some (0, qS4.2)) else (some (1, qS4.2))))) else (if (z3 : Int32) = 0 then (if (z3 : Int32) = 0 then (if (S.1 5 0 : Int32) ≠ 0 then (some (0, S)) else (some (1, S))) else ((f_X7_linkCalls fu S).bind (fun qS11 => if (qS11.2.1 5 0 : Int32) ≠ 0 then (some (0, qS11.2)) else (some (1, qS11.2))))) else ((f_X7_kindHere S).bind (fun qS15 => if (qS15.1 : Int32) = 0 then (if (z3 : Int32) = 0 then (if (qS15.2.1 5 0 : Int32) ≠ 0 then (some (0, qS15.2)) else (some (1, qS15.2))) else ((f_X7_linkCalls fu qS15.2).bind (fun qS21 => if (qS21.2.1 5 0 : Int32) ≠ 0 then (some (0, qS21.2)) else (some (1, qS21.2))))) else (if (8 : Int32) ≤ z4 then ((f_X7_refuse qS15.2).bind (fun qS26 => f_X7_read_p_L51 fu nf z2 qS26.1 (z4 + 1) qS26.2)) else ((f_X7_header fu qS15.2).bind (fun qS29 => if (qS29.1 : Int32) = 0 then (f_X7_read_p_L51 fu nf z2 0 (z4 + 1) qS29.2) else ((f_X7_expression fu qS29.2).bind (fun qS33 => if (qS33.1 : Int32) = 0 then (f_X7_read_p_L51 fu nf z2 0 (z4 + 1) qS33.2) else (f_X7_read_p_L51 fu nf z2 1 (z4 + 1) qS33.2)))))))))
set_option maxHeartbeats 4000000 in
set_option maxRecDepth 100000 in
theorem f_X7_read_p_L51_w {fu : Nat} (l : Launch) (g : im_G) (ad : Nat → Nat) {p : Program} {e : Env} {s : State} {m : MethodId} {below : List Frame} {meth : Method} {c : Code} {args : Array Value} (X : im_X p l s m args meth c g cX7_read 5 RX7 (some Jvm.ClassFile.FieldType.boolean)) : ∀ (nf : Nat) (z2 : Int32) (z3 : Int32) (z4 : Int32) (S : im_S) (r : Int32) (S' : im_S), f_X7_read_p_L51 fu nf z2 z3 z4 S = some (r, S') → im_V p l e (im_R 6 0 0) s m args below meth c g 5 (im_Z below g ad args s (some (.int r)) S') ad im_N (im_cn g ad S) 0 0 51 [(0, .ref (ad 3)), (1, .ref (ad 1)), (2, .int z2), (3, .int z3), (4, .int z4)] [] := by
  intro nf
  induction nf with
  | zero =>
    intro z2 z3 z4 S r S' hm
    cases hm
  | succ nf ih =>
    intro z2 z3 z4 S r S' hm
    unfold f_X7_read_p_L51 at hm
    refine iv_iload (pc := 51) X dX7_read_51 rfl ?_
    refine iv_bipush (pc := 53) X dX7_read_53 bc_8 ?_
    refine iv_icmp_gt (pc := 55) X dX7_read_55 (tgt := 109) rfl (fun hb1 => ?_) (fun hb1 => ?_)
    · rw [if_pos hb1] at hm
      refine iv_iload_n (pc := 109) X dX7_read_109 rfl ?_
      refine iv_if_eq (pc := 110) X dX7_read_110 (tgt := 117) rfl (fun hb2 => ?_) (fun hb2 => ?_)
      · rw [if_pos hb2] at hm
        refine iv_aload_n (pc := 117) X dX7_read_117 rfl ?_
        refine gF_X7_12_3 (pc := 118) X dX7_read_118 ?_
        refine gF_X7_72_5 (pc := 121) X dX7_read_121 (x := S.1 5 0) rfl ?_
        refine iv_if_ne (pc := 124) X dX7_read_124 (tgt := 131) rfl (fun hb3 => ?_) (fun hb3 => ?_)
        · rw [if_pos hb3] at hm
          refine iv_iconst (pc := 131) X dX7_read_131 ic_0 ?_
          cases hm
          exact is_zret (pc := 132) X dX7_read_132 rfl
        · rw [if_neg hb3] at hm
          refine iv_iconst (pc := 127) X dX7_read_127 ic_1 ?_
          refine iv_goto (pc := 128) X dX7_read_128 (tgt := 132) rfl ?_
          cases hm
          exact is_zret (pc := 132) X dX7_read_132 rfl
      · rw [if_neg hb2] at hm
        refine iv_aload_n (pc := 113) X dX7_read_113 rfl ?_
        obtain ⟨⟨r5, S4⟩, hc6, hm⟩ := bd_some hm
        refine cV_X7_69_3 (pc := 114) X [] [] 0 rfl (f_X7_linkCalls_e l g ad fu  S _ _ hc6) (by decide) (by decide) (Nat.le_of_ble_eq_true rfl) rfl dX7_read_114 ?_
        refine iv_aload_n (pc := 117) X dX7_read_117 rfl ?_
        refine gF_X7_12_3 (pc := 118) X dX7_read_118 ?_
        refine gF_X7_72_5 (pc := 121) X dX7_read_121 (x := S4.1 5 0) rfl ?_
        refine iv_if_ne (pc := 124) X dX7_read_124 (tgt := 131) rfl (fun hb7 => ?_) (fun hb7 => ?_)
        · rw [if_pos hb7] at hm
          refine iv_iconst (pc := 131) X dX7_read_131 ic_0 ?_
          cases hm
          exact is_zret (pc := 132) X dX7_read_132 rfl
        · rw [if_neg hb7] at hm
          refine iv_iconst (pc := 127) X dX7_read_127 ic_1 ?_
          refine iv_goto (pc := 128) X dX7_read_128 (tgt := 132) rfl ?_
          cases hm
          exact is_zret (pc := 132) X dX7_read_132 rfl
    · rw [if_neg hb1] at hm
      refine iv_iload_n (pc := 58) X dX7_read_58 rfl ?_
      refine iv_if_eq (pc := 59) X dX7_read_59 (tgt := 109) rfl (fun hb8 => ?_) (fun hb8 => ?_)
      · rw [if_pos hb8] at hm
        refine iv_iload_n (pc := 109) X dX7_read_109 rfl ?_
        refine iv_if_eq (pc := 110) X dX7_read_110 (tgt := 117) rfl (fun hb9 => ?_) (fun hb9 => ?_)
        · rw [if_pos hb9] at hm
          refine iv_aload_n (pc := 117) X dX7_read_117 rfl ?_
          refine gF_X7_12_3 (pc := 118) X dX7_read_118 ?_
          refine gF_X7_72_5 (pc := 121) X dX7_read_121 (x := S.1 5 0) rfl ?_
          refine iv_if_ne (pc := 124) X dX7_read_124 (tgt := 131) rfl (fun hb10 => ?_) (fun hb10 => ?_)
          · rw [if_pos hb10] at hm
            refine iv_iconst (pc := 131) X dX7_read_131 ic_0 ?_
            cases hm
            exact is_zret (pc := 132) X dX7_read_132 rfl
          · rw [if_neg hb10] at hm
            refine iv_iconst (pc := 127) X dX7_read_127 ic_1 ?_
            refine iv_goto (pc := 128) X dX7_read_128 (tgt := 132) rfl ?_
            cases hm
            exact is_zret (pc := 132) X dX7_read_132 rfl
        · rw [if_neg hb9] at hm
          refine iv_aload_n (pc := 113) X dX7_read_113 rfl ?_
          obtain ⟨⟨r12, S11⟩, hc13, hm⟩ := bd_some hm
          refine cV_X7_69_3 (pc := 114) X [] [] 0 rfl (f_X7_linkCalls_e l g ad fu  S _ _ hc13) (by decide) (by decide) (Nat.le_of_ble_eq_true rfl) rfl dX7_read_114 ?_
          refine iv_aload_n (pc := 117) X dX7_read_117 rfl ?_
          refine gF_X7_12_3 (pc := 118) X dX7_read_118 ?_
          refine gF_X7_72_5 (pc := 121) X dX7_read_121 (x := S11.1 5 0) rfl ?_
          refine iv_if_ne (pc := 124) X dX7_read_124 (tgt := 131) rfl (fun hb14 => ?_) (fun hb14 => ?_)
          · rw [if_pos hb14] at hm
            refine iv_iconst (pc := 131) X dX7_read_131 ic_0 ?_
            cases hm
            exact is_zret (pc := 132) X dX7_read_132 rfl
          · rw [if_neg hb14] at hm
            refine iv_iconst (pc := 127) X dX7_read_127 ic_1 ?_
            refine iv_goto (pc := 128) X dX7_read_128 (tgt := 132) rfl ?_
            cases hm
            exact is_zret (pc := 132) X dX7_read_132 rfl
      · rw [if_neg hb8] at hm
        refine iv_aload_n (pc := 62) X dX7_read_62 rfl ?_
        obtain ⟨⟨r16, S15⟩, hc17, hm⟩ := bd_some hm
        refine cV_X7_62_3 (pc := 63) X [] [] 0 rfl (f_X7_kindHere_e l g ad  S _ _ hc17) (by decide) (by decide) (Nat.le_of_ble_eq_true rfl) rfl dX7_read_63 ?_
        refine iv_if_eq (pc := 66) X dX7_read_66 (tgt := 109) rfl (fun hb18 => ?_) (fun hb18 => ?_)
        · rw [if_pos hb18] at hm
          refine iv_iload_n (pc := 109) X dX7_read_109 rfl ?_
          refine iv_if_eq (pc := 110) X dX7_read_110 (tgt := 117) rfl (fun hb19 => ?_) (fun hb19 => ?_)
          · rw [if_pos hb19] at hm
            refine iv_aload_n (pc := 117) X dX7_read_117 rfl ?_
            refine gF_X7_12_3 (pc := 118) X dX7_read_118 ?_
            refine gF_X7_72_5 (pc := 121) X dX7_read_121 (x := S15.1 5 0) rfl ?_
            refine iv_if_ne (pc := 124) X dX7_read_124 (tgt := 131) rfl (fun hb20 => ?_) (fun hb20 => ?_)
            · rw [if_pos hb20] at hm
              refine iv_iconst (pc := 131) X dX7_read_131 ic_0 ?_
              cases hm
              exact is_zret (pc := 132) X dX7_read_132 rfl
            · rw [if_neg hb20] at hm
              refine iv_iconst (pc := 127) X dX7_read_127 ic_1 ?_
              refine iv_goto (pc := 128) X dX7_read_128 (tgt := 132) rfl ?_
              cases hm
              exact is_zret (pc := 132) X dX7_read_132 rfl
          · rw [if_neg hb19] at hm
            refine iv_aload_n (pc := 113) X dX7_read_113 rfl ?_
            obtain ⟨⟨r22, S21⟩, hc23, hm⟩ := bd_some hm
            refine cV_X7_69_3 (pc := 114) X [] [] 0 rfl (f_X7_linkCalls_e l g ad fu  S15 _ _ hc23) (by decide) (by decide) (Nat.le_of_ble_eq_true rfl) rfl dX7_read_114 ?_
            refine iv_aload_n (pc := 117) X dX7_read_117 rfl ?_
            refine gF_X7_12_3 (pc := 118) X dX7_read_118 ?_
            refine gF_X7_72_5 (pc := 121) X dX7_read_121 (x := S21.1 5 0) rfl ?_
            refine iv_if_ne (pc := 124) X dX7_read_124 (tgt := 131) rfl (fun hb24 => ?_) (fun hb24 => ?_)
            · rw [if_pos hb24] at hm
              refine iv_iconst (pc := 131) X dX7_read_131 ic_0 ?_
              cases hm
              exact is_zret (pc := 132) X dX7_read_132 rfl
            · rw [if_neg hb24] at hm
              refine iv_iconst (pc := 127) X dX7_read_127 ic_1 ?_
              refine iv_goto (pc := 128) X dX7_read_128 (tgt := 132) rfl ?_
              cases hm
              exact is_zret (pc := 132) X dX7_read_132 rfl
        · rw [if_neg hb18] at hm
          refine iv_iload (pc := 69) X dX7_read_69 rfl ?_
          refine iv_bipush (pc := 71) X dX7_read_71 bc_8 ?_
          refine iv_icmp_ge (pc := 73) X dX7_read_73 (tgt := 98) rfl (fun hb25 => ?_) (fun hb25 => ?_)
          · rw [if_pos hb25] at hm
            refine iv_aload_n (pc := 98) X dX7_read_98 rfl ?_
            obtain ⟨⟨r27, S26⟩, hc28, hm⟩ := bd_some hm
            refine cV_X7_66_3 (pc := 99) X [] [] 0 rfl (f_X7_refuse_e l g ad  S15 _ _ hc28) (by decide) (by decide) (Nat.le_of_ble_eq_true rfl) rfl dX7_read_99 ?_
            refine iv_istore_n (pc := 102) X dX7_read_102 (by decide) (lv' := [(3, .int r27), (0, .ref (ad 3)), (1, .ref (ad 1)), (2, .int z2), (4, .int z4)]) rfl ?_
            refine iv_iinc (pc := 103) X dX7_read_103 rfl (by decide) (v := z4 + 1) rfl (lv' := [(4, .int (z4 + 1)), (3, .int r27), (0, .ref (ad 3)), (1, .ref (ad 1)), (2, .int z2)]) rfl ?_
            refine iv_goto (pc := 106) X dX7_read_106 (tgt := 51) rfl ?_
            refine iv_sub [2, 3, 4, 1, 0] (lv2 := [(0, .ref (ad 3)), (1, .ref (ad 1)), (2, .int z2), (3, .int r27), (4, .int (z4 + 1))]) rfl ?_
            exact ih z2 r27 (z4 + 1) S26 _ _ hm
          · rw [if_neg hb25] at hm
            refine iv_aload_n (pc := 76) X dX7_read_76 rfl ?_
            obtain ⟨⟨r30, S29⟩, hc31, hm⟩ := bd_some hm
            refine cV_X7_55_3 (pc := 77) X [] [] 0 rfl (f_X7_header_e l g ad fu  S15 _ _ hc31) (by decide) (by decide) (Nat.le_of_ble_eq_true rfl) rfl dX7_read_77 ?_
            refine iv_if_eq (pc := 80) X dX7_read_80 (tgt := 94) rfl (fun hb32 => ?_) (fun hb32 => ?_)
            · rw [if_pos hb32] at hm
              refine iv_iconst (pc := 94) X dX7_read_94 ic_0 ?_
              refine iv_goto (pc := 95) X dX7_read_95 (tgt := 102) rfl ?_
              refine iv_istore_n (pc := 102) X dX7_read_102 (by decide) (lv' := [(3, .int 0), (0, .ref (ad 3)), (1, .ref (ad 1)), (2, .int z2), (4, .int z4)]) rfl ?_
              refine iv_iinc (pc := 103) X dX7_read_103 rfl (by decide) (v := z4 + 1) rfl (lv' := [(4, .int (z4 + 1)), (3, .int 0), (0, .ref (ad 3)), (1, .ref (ad 1)), (2, .int z2)]) rfl ?_
              refine iv_goto (pc := 106) X dX7_read_106 (tgt := 51) rfl ?_
              refine iv_sub [2, 3, 4, 1, 0] (lv2 := [(0, .ref (ad 3)), (1, .ref (ad 1)), (2, .int z2), (3, .int 0), (4, .int (z4 + 1))]) rfl ?_
              exact ih z2 0 (z4 + 1) S29 _ _ hm
            · rw [if_neg hb32] at hm
              refine iv_aload_n (pc := 83) X dX7_read_83 rfl ?_
              obtain ⟨⟨r34, S33⟩, hc35, hm⟩ := bd_some hm
              refine cV_X7_59_3 (pc := 84) X [] [] 0 rfl (f_X7_expression_e l g ad fu  S29 _ _ hc35) (by decide) (by decide) (Nat.le_of_ble_eq_true rfl) rfl dX7_read_84 ?_
              refine iv_if_eq (pc := 87) X dX7_read_87 (tgt := 94) rfl (fun hb36 => ?_) (fun hb36 => ?_)
              · rw [if_pos hb36] at hm
                refine iv_iconst (pc := 94) X dX7_read_94 ic_0 ?_
                refine iv_goto (pc := 95) X dX7_read_95 (tgt := 102) rfl ?_
                refine iv_istore_n (pc := 102) X dX7_read_102 (by decide) (lv' := [(3, .int 0), (0, .ref (ad 3)), (1, .ref (ad 1)), (2, .int z2), (4, .int z4)]) rfl ?_
                refine iv_iinc (pc := 103) X dX7_read_103 rfl (by decide) (v := z4 + 1) rfl (lv' := [(4, .int (z4 + 1)), (3, .int 0), (0, .ref (ad 3)), (1, .ref (ad 1)), (2, .int z2)]) rfl ?_
                refine iv_goto (pc := 106) X dX7_read_106 (tgt := 51) rfl ?_
                refine iv_sub [2, 3, 4, 1, 0] (lv2 := [(0, .ref (ad 3)), (1, .ref (ad 1)), (2, .int z2), (3, .int 0), (4, .int (z4 + 1))]) rfl ?_
                exact ih z2 0 (z4 + 1) S33 _ _ hm
              · rw [if_neg hb36] at hm
                refine iv_iconst (pc := 90) X dX7_read_90 ic_1 ?_
                refine iv_goto (pc := 91) X dX7_read_91 (tgt := 102) rfl ?_
                refine iv_istore_n (pc := 102) X dX7_read_102 (by decide) (lv' := [(3, .int 1), (0, .ref (ad 3)), (1, .ref (ad 1)), (2, .int z2), (4, .int z4)]) rfl ?_
                refine iv_iinc (pc := 103) X dX7_read_103 rfl (by decide) (v := z4 + 1) rfl (lv' := [(4, .int (z4 + 1)), (3, .int 1), (0, .ref (ad 3)), (1, .ref (ad 1)), (2, .int z2)]) rfl ?_
                refine iv_goto (pc := 106) X dX7_read_106 (tgt := 51) rfl ?_
                refine iv_sub [2, 3, 4, 1, 0] (lv2 := [(0, .ref (ad 3)), (1, .ref (ad 1)), (2, .int z2), (3, .int 1), (4, .int (z4 + 1))]) rfl ?_
                exact ih z2 1 (z4 + 1) S33 _ _ hm
def f_X7_read_p (fu : Nat) (x2 : Int32) (S : im_S) : Option (Int32 × im_S) := (f_X3_clear S).bind (fun qS1 => (f_X1_clear qS1.2).bind (fun qS4 => (f_X9_read_p fu x2 qS4.2).bind (fun qS7 => (f_X7_header fu (uI qS7.2 3 6 0)).bind (fun qS10 => if (qS10.1 : Int32) = 0 then (f_X7_read_p_L51 fu fu x2 0 1 qS10.2) else ((f_X7_expression fu qS10.2).bind (fun qS14 => if (qS14.1 : Int32) = 0 then (f_X7_read_p_L51 fu fu x2 0 1 qS14.2) else (f_X7_read_p_L51 fu fu x2 1 1 qS14.2)))))))
set_option maxHeartbeats 4000000 in
set_option maxRecDepth 100000 in
theorem f_X7_read_p_e (l : Launch) (g : im_G) (ad : Nat → Nat) (fu : Nat) (x2 : Int32) (S : im_S) (r : Int32) (S' : im_S) (hm : f_X7_read_p fu x2 S = some (r, S')) : im_E l g ad 6 yX7_read cX7_read 5 (some Jvm.ClassFile.FieldType.boolean) [.ref (ad 3), .ref (ad 1), .int x2] S (some (.int r)) S' := by
  unfold f_X7_read_p at hm
  refine is_met (own := RX7) (by decide +kernel) rfl (Nat.le_of_ble_eq_true rfl) (fun p e s m below meth c X => ?_)
  refine iv_aload_n (pc := 0) X dX7_read_0 rfl ?_
  refine gF_X7_21_3 (pc := 1) X dX7_read_1 ?_
  obtain ⟨⟨r2, S1⟩, hc3, hm⟩ := bd_some hm
  refine cV_X7_43_6 (pc := 4) X [] [] 0 rfl (f_X3_clear_e l g ad  S _ _ hc3) (by decide) (by decide) (Nat.le_of_ble_eq_true rfl) rfl dX7_read_4 ?_
  refine iv_aload_n (pc := 7) X dX7_read_7 rfl ?_
  refine gF_X7_12_3 (pc := 8) X dX7_read_8 ?_
  obtain ⟨⟨r5, S4⟩, hc6, hm⟩ := bd_some hm
  refine cV_X7_46_5 (pc := 11) X [] [] 0 rfl (f_X1_clear_e l g ad  S1 _ _ hc6) (by decide) (by decide) (Nat.le_of_ble_eq_true rfl) rfl dX7_read_11 ?_
  refine iv_aload_n (pc := 14) X dX7_read_14 rfl ?_
  refine gF_X7_28_3 (pc := 15) X dX7_read_15 ?_
  refine iv_aload_n (pc := 18) X dX7_read_18 rfl ?_
  refine iv_iload_n (pc := 19) X dX7_read_19 rfl ?_
  obtain ⟨⟨r8, S7⟩, hc9, hm⟩ := bd_some hm
  refine cV_X7_47_30 (pc := 20) X [.ref (ad 1), .int x2] [] 2 rfl (f_X9_read_p_e l g ad fu x2 S4 _ _ hc9) (by decide) (by decide) (Nat.le_of_ble_eq_true rfl) rfl dX7_read_20 ?_
  refine iv_aload_n (pc := 23) X dX7_read_23 rfl ?_
  refine iv_iconst (pc := 24) X dX7_read_24 ic_0 ?_
  refine pF_X7_51_3 (pc := 25) X dX7_read_25 ?_
  refine iv_aload_n (pc := 28) X dX7_read_28 rfl ?_
  obtain ⟨⟨r11, S10⟩, hc12, hm⟩ := bd_some hm
  refine cV_X7_55_3 (pc := 29) X [] [] 0 rfl (f_X7_header_e l g ad fu  (uI S7 3 6 0) _ _ hc12) (by decide) (by decide) (Nat.le_of_ble_eq_true rfl) rfl dX7_read_29 ?_
  refine iv_if_eq (pc := 32) X dX7_read_32 (tgt := 46) rfl (fun hb13 => ?_) (fun hb13 => ?_)
  · rw [if_pos hb13] at hm
    refine iv_iconst (pc := 46) X dX7_read_46 ic_0 ?_
    refine iv_istore_n (pc := 47) X dX7_read_47 (by decide) (lv' := [(3, .int 0), (0, .ref (ad 3)), (1, .ref (ad 1)), (2, .int x2)]) rfl ?_
    refine iv_iconst (pc := 48) X dX7_read_48 ic_1 ?_
    refine iv_istore (pc := 49) X dX7_read_49 (by decide) (lv' := [(4, .int 1), (3, .int 0), (0, .ref (ad 3)), (1, .ref (ad 1)), (2, .int x2)]) rfl ?_
    refine iv_sub [2, 3, 4, 1, 0] (lv2 := [(0, .ref (ad 3)), (1, .ref (ad 1)), (2, .int x2), (3, .int 0), (4, .int 1)]) rfl ?_
    exact f_X7_read_p_L51_w (fu := fu) l g ad X fu x2 0 1 S10 _ _ hm
  · rw [if_neg hb13] at hm
    refine iv_aload_n (pc := 35) X dX7_read_35 rfl ?_
    obtain ⟨⟨r15, S14⟩, hc16, hm⟩ := bd_some hm
    refine cV_X7_59_3 (pc := 36) X [] [] 0 rfl (f_X7_expression_e l g ad fu  S10 _ _ hc16) (by decide) (by decide) (Nat.le_of_ble_eq_true rfl) rfl dX7_read_36 ?_
    refine iv_if_eq (pc := 39) X dX7_read_39 (tgt := 46) rfl (fun hb17 => ?_) (fun hb17 => ?_)
    · rw [if_pos hb17] at hm
      refine iv_iconst (pc := 46) X dX7_read_46 ic_0 ?_
      refine iv_istore_n (pc := 47) X dX7_read_47 (by decide) (lv' := [(3, .int 0), (0, .ref (ad 3)), (1, .ref (ad 1)), (2, .int x2)]) rfl ?_
      refine iv_iconst (pc := 48) X dX7_read_48 ic_1 ?_
      refine iv_istore (pc := 49) X dX7_read_49 (by decide) (lv' := [(4, .int 1), (3, .int 0), (0, .ref (ad 3)), (1, .ref (ad 1)), (2, .int x2)]) rfl ?_
      refine iv_sub [2, 3, 4, 1, 0] (lv2 := [(0, .ref (ad 3)), (1, .ref (ad 1)), (2, .int x2), (3, .int 0), (4, .int 1)]) rfl ?_
      exact f_X7_read_p_L51_w (fu := fu) l g ad X fu x2 0 1 S14 _ _ hm
    · rw [if_neg hb17] at hm
      refine iv_iconst (pc := 42) X dX7_read_42 ic_1 ?_
      refine iv_goto (pc := 43) X dX7_read_43 (tgt := 47) rfl ?_
      refine iv_istore_n (pc := 47) X dX7_read_47 (by decide) (lv' := [(3, .int 1), (0, .ref (ad 3)), (1, .ref (ad 1)), (2, .int x2)]) rfl ?_
      refine iv_iconst (pc := 48) X dX7_read_48 ic_1 ?_
      refine iv_istore (pc := 49) X dX7_read_49 (by decide) (lv' := [(4, .int 1), (3, .int 1), (0, .ref (ad 3)), (1, .ref (ad 1)), (2, .int x2)]) rfl ?_
      refine iv_sub [2, 3, 4, 1, 0] (lv2 := [(0, .ref (ad 3)), (1, .ref (ad 1)), (2, .int x2), (3, .int 1), (4, .int 1)]) rfl ?_
      exact f_X7_read_p_L51_w (fu := fu) l g ad X fu x2 1 1 S14 _ _ hm
def f_X10_start_p (fu : Nat) (x1 : Int32) (x2 : Int64) (x4 : Int64) (x6 : Int64) (x8 : Int64) (S : im_S) : Option (Int32 × im_S) := if (x1 : Int32) < 0 then (some (0, S)) else (if (S.1 56 3 : Int32) ≤ x1 then (some (0, S)) else ((f_X3_takesNumbers fu x1 S).bind (fun qS3 => if (qS3.1 : Int32) ≠ 0 then (gd (in_b 0 4) (gd (in_b 1 4) (gd (in_b 2 4) (gd (in_b 3 4) (none))))) else (some (0, qS3.2)))))
set_option maxHeartbeats 4000000 in
set_option maxRecDepth 100000 in
theorem f_X10_start_p_e (l : Launch) (g : im_G) (ad : Nat → Nat) (fu : Nat) (x1 : Int32) (x2 : Int64) (x4 : Int64) (x6 : Int64) (x8 : Int64) (S : im_S) (r : Int32) (S' : im_S) (hm : f_X10_start_p fu x1 x2 x4 x6 x8 S = some (r, S')) : im_E l g ad 1 yX10_start cX10_start 11 (some Jvm.ClassFile.FieldType.boolean) [.ref (ad 0), .int x1, .long x2, .long x4, .long x6, .long x8] S (some (.int r)) S' := by
  unfold f_X10_start_p at hm
  refine is_met (own := RX10) (by decide +kernel) rfl (Nat.le_of_ble_eq_true rfl) (fun p e s m below meth c X => ?_)
  refine iv_aload_n (pc := 0) X dX10_start_0 rfl ?_
  refine gF_X10_27_0 (pc := 1) X dX10_start_1 ?_
  refine gF_X10_46_38 (pc := 4) X dX10_start_4 ?_
  refine iv_astore (pc := 7) X dX10_start_7 (by decide) (lv' := [(10, .ref (ad 40)), (0, .ref (ad 0)), (1, .int x1), (2, .long x2), (4, .long x4), (6, .long x6), (8, .long x8)]) rfl ?_
  refine iv_iload_n (pc := 9) X dX10_start_9 rfl ?_
  refine iv_if_lt (pc := 10) X dX10_start_10 (tgt := 34) rfl (fun hb1 => ?_) (fun hb1 => ?_)
  · rw [if_pos hb1] at hm
    refine iv_iconst (pc := 34) X dX10_start_34 ic_0 ?_
    cases hm
    exact is_zret (pc := 35) X dX10_start_35 rfl
  · rw [if_neg hb1] at hm
    refine iv_iload_n (pc := 13) X dX10_start_13 rfl ?_
    refine iv_aload (pc := 14) X dX10_start_14 rfl ?_
    refine gF_X10_55_40 (pc := 16) X dX10_start_16 ?_
    refine gF_X10_61_56 (pc := 19) X dX10_start_19 (x := S.1 56 3) rfl ?_
    refine iv_icmp_ge (pc := 22) X dX10_start_22 (tgt := 34) rfl (fun hb2 => ?_) (fun hb2 => ?_)
    · rw [if_pos hb2] at hm
      refine iv_iconst (pc := 34) X dX10_start_34 ic_0 ?_
      cases hm
      exact is_zret (pc := 35) X dX10_start_35 rfl
    · rw [if_neg hb2] at hm
      refine iv_aload (pc := 25) X dX10_start_25 rfl ?_
      refine iv_iload_n (pc := 27) X dX10_start_27 rfl ?_
      obtain ⟨⟨r4, S3⟩, hc5, hm⟩ := bd_some hm
      refine cV_X10_78_40 (pc := 28) X [.int x1] [] 1 rfl (f_X3_takesNumbers_e l g ad fu x1 S _ _ hc5) (by decide) (by decide) (Nat.le_of_ble_eq_true rfl) rfl dX10_start_28 ?_
      refine iv_if_ne (pc := 31) X dX10_start_31 (tgt := 36) rfl (fun hb6 => ?_) (fun hb6 => ?_)
      · rw [if_pos hb6] at hm
        refine iv_aload_n (pc := 36) X dX10_start_36 rfl ?_
        refine gF_X10_13_0 (pc := 37) X dX10_start_37 ?_
        refine iv_iconst (pc := 40) X dX10_start_40 ic_0 ?_
        refine iv_lload_n (pc := 41) X dX10_start_41 rfl ?_
        obtain ⟨hg, hm⟩ := gd_some hm
        refine aS_2 (pc := 42) X dX10_start_42 hg ?_
        refine iv_aload_n (pc := 43) X dX10_start_43 rfl ?_
        refine gF_X10_13_0 (pc := 44) X dX10_start_44 ?_
        refine iv_iconst (pc := 47) X dX10_start_47 ic_1 ?_
        refine iv_lload (pc := 48) X dX10_start_48 rfl ?_
        obtain ⟨hg, hm⟩ := gd_some hm
        refine aS_2 (pc := 50) X dX10_start_50 hg ?_
        refine iv_aload_n (pc := 51) X dX10_start_51 rfl ?_
        refine gF_X10_13_0 (pc := 52) X dX10_start_52 ?_
        refine iv_iconst (pc := 55) X dX10_start_55 ic_2 ?_
        refine iv_lload (pc := 56) X dX10_start_56 rfl ?_
        obtain ⟨hg, hm⟩ := gd_some hm
        refine aS_2 (pc := 58) X dX10_start_58 hg ?_
        refine iv_aload_n (pc := 59) X dX10_start_59 rfl ?_
        refine gF_X10_13_0 (pc := 60) X dX10_start_60 ?_
        refine iv_iconst (pc := 63) X dX10_start_63 ic_3 ?_
        refine iv_lload (pc := 64) X dX10_start_64 rfl ?_
        obtain ⟨hg, hm⟩ := gd_some hm
        refine aS_2 (pc := 66) X dX10_start_66 hg ?_
        refine iv_aload_n (pc := 67) X dX10_start_67 rfl ?_
        refine gF_X10_27_0 (pc := 68) X dX10_start_68 ?_
        refine iv_iload_n (pc := 71) X dX10_start_71 rfl ?_
        refine iv_aload_n (pc := 72) X dX10_start_72 rfl ?_
        refine gF_X10_13_0 (pc := 73) X dX10_start_73 ?_
        cases hm
      · rw [if_neg hb6] at hm
        refine iv_iconst (pc := 34) X dX10_start_34 ic_0 ?_
        cases hm
        exact is_zret (pc := 35) X dX10_start_35 rfl
def f_X10_compile_p (fu : Nat) (S : im_S) : Option ((String ⊕ Int32) × im_S) := (f_X7_read_p fu (S.1 0 4) (uI S 0 4 0)).bind (fun qS1 => if (qS1.1 : Int32) ≠ 0 then none else (some (.inl xIAE, qS1.2)))
set_option maxHeartbeats 4000000 in
set_option maxRecDepth 100000 in
theorem f_X10_compile_p_x (l : Launch) (g : im_G) (ad : Nat → Nat) (hlT : l.stackTraces = false) (hZ : ∀ V, g.2.2.2 V → im_Zs g V) (fu : Nat) (S : im_S) (o : String ⊕ Int32) (S' : im_S) (hm : f_X10_compile_p fu  S = some (o, S')) : im_EX l g ad 7 yX10_compile cX10_compile 3 (some Jvm.ClassFile.FieldType.int) [.ref (ad 0)] S (ox_I o) S' := by
  unfold f_X10_compile_p at hm
  refine is_metX (own := RX10) (by decide +kernel) rfl (Nat.le_of_ble_eq_true rfl) (fun p e s m below meth c X hnt => ?_)
  refine iv_aload_n (pc := 0) X dX10_compile_0 rfl ?_
  refine gF_X10_31_0 (pc := 1) X dX10_compile_1 (x := S.1 0 4) rfl ?_
  refine iv_istore_n (pc := 4) X dX10_compile_4 (by decide) (lv' := [(1, .int (S.1 0 4)), (0, .ref (ad 0))]) rfl ?_
  refine iv_aload_n (pc := 5) X dX10_compile_5 rfl ?_
  refine iv_iconst (pc := 6) X dX10_compile_6 ic_0 ?_
  refine pF_X10_31_0 (pc := 7) X dX10_compile_7 ?_
  refine iv_aload_n (pc := 10) X dX10_compile_10 rfl ?_
  refine gF_X10_20_0 (pc := 11) X dX10_compile_11 ?_
  refine iv_aload_n (pc := 14) X dX10_compile_14 rfl ?_
  refine gF_X10_9_0 (pc := 15) X dX10_compile_15 ?_
  refine iv_iload_n (pc := 18) X dX10_compile_18 rfl ?_
  obtain ⟨⟨r2, S1⟩, hc3, hm⟩ := bd_some hm
  refine cV_X10_39_3 (pc := 19) X [.ref (ad 1), .int (S.1 0 4)] [] 2 rfl (f_X7_read_p_e l g ad fu (S.1 0 4) (uI S 0 4 0) _ _ hc3) (by decide) (by decide) (Nat.le_of_ble_eq_true rfl) rfl dX10_compile_19 ?_
  refine iv_if_ne (pc := 22) X dX10_compile_22 (tgt := 33) rfl (fun hb4 => ?_) (fun hb4 => ?_)
  · rw [if_pos hb4] at hm
    refine iv_aload_n (pc := 33) X dX10_compile_33 rfl ?_
    refine gF_X10_27_0 (pc := 34) X dX10_compile_34 ?_
    refine gF_X10_46_38 (pc := 37) X dX10_compile_37 ?_
    refine iv_astore_n (pc := 40) X dX10_compile_40 (by decide) (lv' := [(2, .ref (ad 40)), (1, .int (S.1 0 4)), (0, .ref (ad 0))]) rfl ?_
    refine iv_aload_n (pc := 41) X dX10_compile_41 rfl ?_
    refine gF_X10_27_0 (pc := 42) X dX10_compile_42 ?_
    refine iv_aload_n (pc := 45) X dX10_compile_45 rfl ?_
    refine gF_X10_20_0 (pc := 46) X dX10_compile_46 ?_
    refine gF_X10_50_3 (pc := 49) X dX10_compile_49 ?_
    cases hm
  · rw [if_neg hb4] at hm
    cases hm
    exact is_thIAE (pc := 25) X hlT hZ hnt dX10_compile_25 dX10_compile_28 dX10_compile_29 dX10_compile_32 (by decide) (Nat.le_of_ble_eq_true rfl)
def f_X10_fire_p (x1 : Int32) (x2 : Int64) (S : im_S) : Option ((String ⊕ Int32) × im_S) := (f_X5_condition S).bind (fun qS1 => if (qS1.1 : Int32) = 1 then (if (x1 : Int32) < 1 then (some (.inl xIAE, qS1.2)) else (if (x1 : Int32) ≤ 2000 then (if (qS1.2.1 0 5 : Int32) < 5000 then none else (some (.inl xAE, qS1.2))) else (some (.inl xIAE, qS1.2)))) else (some (.inl xISE, qS1.2)))
set_option maxHeartbeats 4000000 in
set_option maxRecDepth 100000 in
theorem f_X10_fire_p_x (l : Launch) (g : im_G) (ad : Nat → Nat) (hlT : l.stackTraces = false) (hZ : ∀ V, g.2.2.2 V → im_Zs g V) (x1 : Int32) (x2 : Int64) (S : im_S) (o : String ⊕ Int32) (S' : im_S) (hm : f_X10_fire_p x1 x2 S = some (o, S')) : im_EX l g ad 6 yX10_fire cX10_fire 5 (some Jvm.ClassFile.FieldType.int) [.ref (ad 0), .int x1, .long x2] S (ox_I o) S' := by
  unfold f_X10_fire_p at hm
  refine is_metX (own := RX10) (by decide +kernel) rfl (Nat.le_of_ble_eq_true rfl) (fun p e s m below meth c X hnt => ?_)
  refine iv_aload_n (pc := 0) X dX10_fire_0 rfl ?_
  refine gF_X10_27_0 (pc := 1) X dX10_fire_1 ?_
  obtain ⟨⟨r2, S1⟩, hc3, hm⟩ := bd_some hm
  refine cV_X10_89_38 (pc := 4) X [] [] 0 rfl (f_X5_condition_e l g ad  S _ _ hc3) (by decide) (by decide) (Nat.le_of_ble_eq_true rfl) rfl dX10_fire_4 ?_
  refine iv_iconst (pc := 7) X dX10_fire_7 ic_1 ?_
  refine iv_icmp_eq (pc := 8) X dX10_fire_8 (tgt := 19) rfl (fun hb4 => ?_) (fun hb4 => ?_)
  · rw [if_pos hb4] at hm
    refine iv_iload_n (pc := 19) X dX10_fire_19 rfl ?_
    refine iv_iconst (pc := 20) X dX10_fire_20 ic_1 ?_
    refine iv_icmp_lt (pc := 21) X dX10_fire_21 (tgt := 31) rfl (fun hb5 => ?_) (fun hb5 => ?_)
    · rw [if_pos hb5] at hm
      cases hm
      exact is_thIAE (pc := 31) X hlT hZ hnt dX10_fire_31 dX10_fire_34 dX10_fire_35 dX10_fire_38 (by decide) (Nat.le_of_ble_eq_true rfl)
    · rw [if_neg hb5] at hm
      refine iv_iload_n (pc := 24) X dX10_fire_24 rfl ?_
      refine iv_sipush (pc := 25) X dX10_fire_25 sc_2000 ?_
      refine iv_icmp_le (pc := 28) X dX10_fire_28 (tgt := 39) rfl (fun hb6 => ?_) (fun hb6 => ?_)
      · rw [if_pos hb6] at hm
        refine iv_aload_n (pc := 39) X dX10_fire_39 rfl ?_
        refine gF_X10_96_0 (pc := 40) X dX10_fire_40 (x := S1.1 0 5) rfl ?_
        refine iv_sipush (pc := 43) X dX10_fire_43 sc_5000 ?_
        refine iv_icmp_lt (pc := 46) X dX10_fire_46 (tgt := 57) rfl (fun hb7 => ?_) (fun hb7 => ?_)
        · rw [if_pos hb7] at hm
          refine iv_aload_n (pc := 57) X dX10_fire_57 rfl ?_
          refine gF_X10_27_0 (pc := 58) X dX10_fire_58 ?_
          refine gF_X10_102_38 (pc := 61) X dX10_fire_61 (x := S1.1 38 2) rfl ?_
          refine iv_istore (pc := 64) X dX10_fire_64 (by decide) (lv' := [(4, .int (S1.1 38 2)), (0, .ref (ad 0)), (1, .int x1), (2, .long x2)]) rfl ?_
          refine iv_aload_n (pc := 66) X dX10_fire_66 rfl ?_
          refine gF_X10_27_0 (pc := 67) X dX10_fire_67 ?_
          refine iv_iload_n (pc := 70) X dX10_fire_70 rfl ?_
          refine iv_sipush (pc := 71) X dX10_fire_71 sc_5000 ?_
          refine iv_aload_n (pc := 74) X dX10_fire_74 rfl ?_
          refine gF_X10_96_0 (pc := 75) X dX10_fire_75 (x := S1.1 0 5) rfl ?_
          refine iv_isub (pc := 78) X dX10_fire_78 ?_
          refine iv_mmin (pc := 79) X wm_X10_105 (by decide) (Nat.le_of_ble_eq_true rfl) dX10_fire_79 ?_
          refine iv_lload_n (pc := 82) X dX10_fire_82 rfl ?_
          cases hm
        · rw [if_neg hb7] at hm
          cases hm
          exact is_thAE (pc := 49) X hlT hZ hnt dX10_fire_49 dX10_fire_52 dX10_fire_53 dX10_fire_56 (by decide) (Nat.le_of_ble_eq_true rfl)
      · rw [if_neg hb6] at hm
        cases hm
        exact is_thIAE (pc := 31) X hlT hZ hnt dX10_fire_31 dX10_fire_34 dX10_fire_35 dX10_fire_38 (by decide) (Nat.le_of_ble_eq_true rfl)
  · rw [if_neg hb4] at hm
    cases hm
    exact is_thISE (pc := 11) X hlT hZ hnt dX10_fire_11 dX10_fire_14 dX10_fire_15 dX10_fire_18 (by decide) (Nat.le_of_ble_eq_true rfl)
def f_X10_value (S : im_S) : Option ((String ⊕ Int64) × im_S) := (f_X5_condition S).bind (fun qS1 => if (qS1.1 : Int32) = 2 then (if (qS1.2.1 38 3 : Int32) ≠ 3 then (some (.inr (qS1.2.2.1 38 4), qS1.2)) else ((f_X8_cellsIn (qS1.2.2.1 38 4) qS1.2).bind (fun qS6 => some (.inr qS6.1.toInt64, qS6.2)))) else (some (.inl xNSE, qS1.2)))
set_option maxHeartbeats 4000000 in
set_option maxRecDepth 100000 in
theorem f_X10_value_x (l : Launch) (g : im_G) (ad : Nat → Nat) (hlT : l.stackTraces = false) (hZ : ∀ V, g.2.2.2 V → im_Zs g V) (S : im_S) (o : String ⊕ Int64) (S' : im_S) (hm : f_X10_value  S = some (o, S')) : im_EX l g ad 6 yX10_value cX10_value 1 (some Jvm.ClassFile.FieldType.long) [.ref (ad 0)] S (ox_J o) S' := by
  unfold f_X10_value at hm
  refine is_metX (own := RX10) (by decide +kernel) rfl (Nat.le_of_ble_eq_true rfl) (fun p e s m below meth c X hnt => ?_)
  refine iv_aload_n (pc := 0) X dX10_value_0 rfl ?_
  refine gF_X10_27_0 (pc := 1) X dX10_value_1 ?_
  obtain ⟨⟨r2, S1⟩, hc3, hm⟩ := bd_some hm
  refine cV_X10_89_38 (pc := 4) X [] [] 0 rfl (f_X5_condition_e l g ad  S _ _ hc3) (by decide) (by decide) (Nat.le_of_ble_eq_true rfl) rfl dX10_value_4 ?_
  refine iv_iconst (pc := 7) X dX10_value_7 ic_2 ?_
  refine iv_icmp_eq (pc := 8) X dX10_value_8 (tgt := 19) rfl (fun hb4 => ?_) (fun hb4 => ?_)
  · rw [if_pos hb4] at hm
    refine iv_aload_n (pc := 19) X dX10_value_19 rfl ?_
    refine gF_X10_27_0 (pc := 20) X dX10_value_20 ?_
    refine gF_X10_115_38 (pc := 23) X dX10_value_23 (x := S1.1 38 3) rfl ?_
    refine iv_iconst (pc := 26) X dX10_value_26 ic_3 ?_
    refine iv_icmp_ne (pc := 27) X dX10_value_27 (tgt := 44) rfl (fun hb5 => ?_) (fun hb5 => ?_)
    · rw [if_pos hb5] at hm
      refine iv_aload_n (pc := 44) X dX10_value_44 rfl ?_
      refine gF_X10_27_0 (pc := 45) X dX10_value_45 ?_
      refine gF_X10_121_38 (pc := 48) X dX10_value_48 (x := S1.2.1 38 4) rfl ?_
      cases hm
      exact is_lretX (pc := 51) X dX10_value_51
    · rw [if_neg hb5] at hm
      refine iv_aload_n (pc := 30) X dX10_value_30 rfl ?_
      refine gF_X10_27_0 (pc := 31) X dX10_value_31 ?_
      refine gF_X10_121_38 (pc := 34) X dX10_value_34 (x := S1.2.1 38 4) rfl ?_
      obtain ⟨⟨r7, S6⟩, hc8, hm⟩ := bd_some hm
      refine cS_X10_125 (pc := 37) X [.long (S1.2.1 38 4)] [] 1 rfl (f_X8_cellsIn_e l g ad (S1.2.1 38 4) S1 _ _ hc8) (by decide) (by decide) (Nat.le_of_ble_eq_true rfl) rfl dX10_value_37 ?_
      refine iv_i2l (pc := 40) X dX10_value_40 rfl ?_
      refine iv_goto (pc := 41) X dX10_value_41 (tgt := 51) rfl ?_
      cases hm
      exact is_lretX (pc := 51) X dX10_value_51
  · rw [if_neg hb4] at hm
    cases hm
    exact is_thNSE (pc := 11) X hlT hZ hnt dX10_value_11 dX10_value_14 dX10_value_15 dX10_value_18 (by decide) (Nat.le_of_ble_eq_true rfl)
def f_X10_cell (x1 : Int32) (x2 : Int32) (S : im_S) : Option ((String ⊕ Int64) × im_S) := (f_X5_condition S).bind (fun qS1 => if (qS1.1 : Int32) ≠ 2 then (some (.inl xNSE, qS1.2)) else (if (qS1.2.1 38 3 : Int32) ≠ 3 then (some (.inl xNSE, qS1.2)) else (if (x1 : Int32) < 0 then (some (.inl xNSE, qS1.2)) else ((f_X8_cellsIn (qS1.2.2.1 38 4) qS1.2).bind (fun qS10 => if (qS10.1 : Int32) ≤ x1 then (some (.inl xNSE, qS10.2)) else (if (x2 : Int32) < 0 then (some (.inl xNSE, qS10.2)) else (if (x2 : Int32) ≤ 1 then ((f_X8_firstCell (qS10.2.2.1 38 4) qS10.2).bind (fun qS16 => gd (in_b (qS16.1 + x1) (qS16.2.2.2 65)) (if (x2 : Int32) ≠ 0 then (if ((qS16.2.1 65) ((qS16.1 + x1).toNatClampNeg) : Int32) ≠ 0 then (gd (in_b (qS16.1 + x1) (qS16.2.2.2 66)) (some (.inr ((qS16.2.2.1 66) ((qS16.1 + x1).toNatClampNeg)), qS16.2))) else (some (.inr 0, qS16.2))) else (some (.inr (((qS16.2.1 65) ((qS16.1 + x1).toNatClampNeg)).toInt64), qS16.2))))) else (some (.inl xNSE, qS10.2)))))))))
set_option maxHeartbeats 4000000 in
set_option maxRecDepth 100000 in
theorem f_X10_cell_x (l : Launch) (g : im_G) (ad : Nat → Nat) (hlT : l.stackTraces = false) (hZ : ∀ V, g.2.2.2 V → im_Zs g V) (x1 : Int32) (x2 : Int32) (S : im_S) (o : String ⊕ Int64) (S' : im_S) (hm : f_X10_cell x1 x2 S = some (o, S')) : im_EX l g ad 6 yX10_cell cX10_cell 6 (some Jvm.ClassFile.FieldType.long) [.ref (ad 0), .int x1, .int x2] S (ox_J o) S' := by
  unfold f_X10_cell at hm
  refine is_metX (own := RX10) (by decide +kernel) rfl (Nat.le_of_ble_eq_true rfl) (fun p e s m below meth c X hnt => ?_)
  refine iv_aload_n (pc := 0) X dX10_cell_0 rfl ?_
  refine gF_X10_27_0 (pc := 1) X dX10_cell_1 ?_
  obtain ⟨⟨r2, S1⟩, hc3, hm⟩ := bd_some hm
  refine cV_X10_89_38 (pc := 4) X [] [] 0 rfl (f_X5_condition_e l g ad  S _ _ hc3) (by decide) (by decide) (Nat.le_of_ble_eq_true rfl) rfl dX10_cell_4 ?_
  refine iv_iconst (pc := 7) X dX10_cell_7 ic_2 ?_
  refine iv_icmp_ne (pc := 8) X dX10_cell_8 (tgt := 26) rfl (fun hb4 => ?_) (fun hb4 => ?_)
  · rw [if_pos hb4] at hm
    refine iv_iconst (pc := 26) X dX10_cell_26 ic_0 ?_
    refine iv_istore_n (pc := 27) X dX10_cell_27 (by decide) (lv' := [(3, .int 0), (0, .ref (ad 0)), (1, .int x1), (2, .int x2)]) rfl ?_
    refine iv_iload_n (pc := 28) X dX10_cell_28 rfl ?_
    refine iv_if_eq (pc := 29) X dX10_cell_29 (tgt := 59) rfl (fun _ => ?_) (fun hb => absurd (by decide) hb)
    cases hm
    exact is_thNSE (pc := 59) X hlT hZ hnt dX10_cell_59 dX10_cell_62 dX10_cell_63 dX10_cell_66 (by decide) (Nat.le_of_ble_eq_true rfl)
  · rw [if_neg hb4] at hm
    refine iv_aload_n (pc := 11) X dX10_cell_11 rfl ?_
    refine gF_X10_27_0 (pc := 12) X dX10_cell_12 ?_
    refine gF_X10_115_38 (pc := 15) X dX10_cell_15 (x := S1.1 38 3) rfl ?_
    refine iv_iconst (pc := 18) X dX10_cell_18 ic_3 ?_
    refine iv_icmp_ne (pc := 19) X dX10_cell_19 (tgt := 26) rfl (fun hb6 => ?_) (fun hb6 => ?_)
    · rw [if_pos hb6] at hm
      refine iv_iconst (pc := 26) X dX10_cell_26 ic_0 ?_
      refine iv_istore_n (pc := 27) X dX10_cell_27 (by decide) (lv' := [(3, .int 0), (0, .ref (ad 0)), (1, .int x1), (2, .int x2)]) rfl ?_
      refine iv_iload_n (pc := 28) X dX10_cell_28 rfl ?_
      refine iv_if_eq (pc := 29) X dX10_cell_29 (tgt := 59) rfl (fun _ => ?_) (fun hb => absurd (by decide) hb)
      cases hm
      exact is_thNSE (pc := 59) X hlT hZ hnt dX10_cell_59 dX10_cell_62 dX10_cell_63 dX10_cell_66 (by decide) (Nat.le_of_ble_eq_true rfl)
    · rw [if_neg hb6] at hm
      refine iv_iconst (pc := 22) X dX10_cell_22 ic_1 ?_
      refine iv_goto (pc := 23) X dX10_cell_23 (tgt := 27) rfl ?_
      refine iv_istore_n (pc := 27) X dX10_cell_27 (by decide) (lv' := [(3, .int 1), (0, .ref (ad 0)), (1, .int x1), (2, .int x2)]) rfl ?_
      refine iv_iload_n (pc := 28) X dX10_cell_28 rfl ?_
      refine iv_if_eq (pc := 29) X dX10_cell_29 (tgt := 59) rfl (fun hb => absurd hb (by decide)) (fun _ => ?_)
      refine iv_iload_n (pc := 32) X dX10_cell_32 rfl ?_
      refine iv_if_lt (pc := 33) X dX10_cell_33 (tgt := 59) rfl (fun hb9 => ?_) (fun hb9 => ?_)
      · rw [if_pos hb9] at hm
        cases hm
        exact is_thNSE (pc := 59) X hlT hZ hnt dX10_cell_59 dX10_cell_62 dX10_cell_63 dX10_cell_66 (by decide) (Nat.le_of_ble_eq_true rfl)
      · rw [if_neg hb9] at hm
        refine iv_iload_n (pc := 36) X dX10_cell_36 rfl ?_
        refine iv_aload_n (pc := 37) X dX10_cell_37 rfl ?_
        refine gF_X10_27_0 (pc := 38) X dX10_cell_38 ?_
        refine gF_X10_121_38 (pc := 41) X dX10_cell_41 (x := S1.2.1 38 4) rfl ?_
        obtain ⟨⟨r11, S10⟩, hc12, hm⟩ := bd_some hm
        refine cS_X10_125 (pc := 44) X [.long (S1.2.1 38 4)] [.int x1] 1 rfl (f_X8_cellsIn_e l g ad (S1.2.1 38 4) S1 _ _ hc12) (by decide) (by decide) (Nat.le_of_ble_eq_true rfl) rfl dX10_cell_44 ?_
        refine iv_icmp_ge (pc := 47) X dX10_cell_47 (tgt := 59) rfl (fun hb13 => ?_) (fun hb13 => ?_)
        · rw [if_pos hb13] at hm
          cases hm
          exact is_thNSE (pc := 59) X hlT hZ hnt dX10_cell_59 dX10_cell_62 dX10_cell_63 dX10_cell_66 (by decide) (Nat.le_of_ble_eq_true rfl)
        · rw [if_neg hb13] at hm
          refine iv_iload_n (pc := 50) X dX10_cell_50 rfl ?_
          refine iv_if_lt (pc := 51) X dX10_cell_51 (tgt := 59) rfl (fun hb14 => ?_) (fun hb14 => ?_)
          · rw [if_pos hb14] at hm
            cases hm
            exact is_thNSE (pc := 59) X hlT hZ hnt dX10_cell_59 dX10_cell_62 dX10_cell_63 dX10_cell_66 (by decide) (Nat.le_of_ble_eq_true rfl)
          · rw [if_neg hb14] at hm
            refine iv_iload_n (pc := 54) X dX10_cell_54 rfl ?_
            refine iv_iconst (pc := 55) X dX10_cell_55 ic_1 ?_
            refine iv_icmp_le (pc := 56) X dX10_cell_56 (tgt := 67) rfl (fun hb15 => ?_) (fun hb15 => ?_)
            · rw [if_pos hb15] at hm
              refine iv_aload_n (pc := 67) X dX10_cell_67 rfl ?_
              refine gF_X10_27_0 (pc := 68) X dX10_cell_68 ?_
              refine gF_X10_121_38 (pc := 71) X dX10_cell_71 (x := S10.2.1 38 4) rfl ?_
              obtain ⟨⟨r17, S16⟩, hc18, hm⟩ := bd_some hm
              refine cS_X10_131 (pc := 74) X [.long (S10.2.1 38 4)] [] 1 rfl (f_X8_firstCell_e l g ad (S10.2.1 38 4) S10 _ _ hc18) (by decide) (by decide) (Nat.le_of_ble_eq_true rfl) rfl dX10_cell_74 ?_
              refine iv_iload_n (pc := 77) X dX10_cell_77 rfl ?_
              refine iv_iadd (pc := 78) X dX10_cell_78 ?_
              refine iv_istore (pc := 79) X dX10_cell_79 (by decide) (lv' := [(4, .int (r17 + x1)), (3, .int 1), (0, .ref (ad 0)), (1, .int x1), (2, .int x2)]) rfl ?_
              refine iv_aload_n (pc := 81) X dX10_cell_81 rfl ?_
              refine gF_X10_27_0 (pc := 82) X dX10_cell_82 ?_
              refine gF_X10_134_38 (pc := 85) X dX10_cell_85 ?_
              refine gF_X10_138_64 (pc := 88) X dX10_cell_88 ?_
              refine iv_iload (pc := 91) X dX10_cell_91 rfl ?_
              obtain ⟨hg, hm⟩ := gd_some hm
              refine aL_65 (pc := 93) X dX10_cell_93 hg (x := (S16.1 65) ((r17 + x1).toNatClampNeg)) rfl ?_
              refine iv_istore (pc := 94) X dX10_cell_94 (by decide) (lv' := [(5, .int ((S16.1 65) ((r17 + x1).toNatClampNeg))), (4, .int (r17 + x1)), (3, .int 1), (0, .ref (ad 0)), (1, .int x1), (2, .int x2)]) rfl ?_
              refine iv_iload_n (pc := 96) X dX10_cell_96 rfl ?_
              refine iv_if_ne (pc := 97) X dX10_cell_97 (tgt := 104) rfl (fun hb19 => ?_) (fun hb19 => ?_)
              · rw [if_pos hb19] at hm
                refine iv_iload (pc := 104) X dX10_cell_104 rfl ?_
                refine iv_if_ne (pc := 106) X dX10_cell_106 (tgt := 113) rfl (fun hb20 => ?_) (fun hb20 => ?_)
                · rw [if_pos hb20] at hm
                  refine iv_aload_n (pc := 113) X dX10_cell_113 rfl ?_
                  refine gF_X10_27_0 (pc := 114) X dX10_cell_114 ?_
                  refine gF_X10_134_38 (pc := 117) X dX10_cell_117 ?_
                  refine gF_X10_141_64 (pc := 120) X dX10_cell_120 ?_
                  refine iv_iload (pc := 123) X dX10_cell_123 rfl ?_
                  obtain ⟨hg, hm⟩ := gd_some hm
                  refine aL_66 (pc := 125) X dX10_cell_125 hg (x := (S16.2.1 66) ((r17 + x1).toNatClampNeg)) rfl ?_
                  cases hm
                  exact is_lretX (pc := 126) X dX10_cell_126
                · rw [if_neg hb20] at hm
                  refine iv_lconst (pc := 109) X dX10_cell_109 lc_0 ?_
                  refine iv_goto (pc := 110) X dX10_cell_110 (tgt := 126) rfl ?_
                  cases hm
                  exact is_lretX (pc := 126) X dX10_cell_126
              · rw [if_neg hb19] at hm
                refine iv_iload (pc := 100) X dX10_cell_100 rfl ?_
                refine iv_i2l (pc := 102) X dX10_cell_102 rfl ?_
                cases hm
                exact is_lretX (pc := 103) X dX10_cell_103
            · rw [if_neg hb15] at hm
              cases hm
              exact is_thNSE (pc := 59) X hlT hZ hnt dX10_cell_59 dX10_cell_62 dX10_cell_63 dX10_cell_66 (by decide) (Nat.le_of_ble_eq_true rfl)
