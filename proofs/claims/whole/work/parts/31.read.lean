/-! written by program (wip/whole/walk.py): methods as functions, and their contracts -/
def kh_read (l : Launch) (g : im_G) (ad : Nat → Nat) (K : Nat → Int32 → Int32 → im_S → Option (Int32 × im_S)) (dk : Nat) : Prop := (∀ (a b : Int32) (S : im_S) (r : Int32) (S' : im_S), K 0 a b S = some (r, S') → im_E l g ad dk yX11_readX cX11_readX 1 (some Jvm.ClassFile.FieldType.int) [.ref (ad 75)] S (some (.int r)) S') ∧ (∀ (a b : Int32) (S : im_S) (r : Int32) (S' : im_S), K 1 a b S = some (r, S') → im_E l g ad dk yX11_readWithin cX11_readWithin 2 (some Jvm.ClassFile.FieldType.int) [.ref (ad 75)] S (some (.int r)) S') ∧ (∀ (a b : Int32) (S : im_S) (r : Int32) (S' : im_S), K 2 a b S = some (r, S') → im_E l g ad dk yX11_readLet cX11_readLet 2 (some Jvm.ClassFile.FieldType.int) [.ref (ad 75)] S (some (.int r)) S') ∧ (∀ (a b : Int32) (S : im_S) (r : Int32) (S' : im_S), K 3 a b S = some (r, S') → im_E l g ad dk yX11_readIf cX11_readIf 2 (some Jvm.ClassFile.FieldType.int) [.ref (ad 75)] S (some (.int r)) S') ∧ (∀ (a b : Int32) (S : im_S) (r : Int32) (S' : im_S), K 4 a b S = some (r, S') → im_E l g ad dk yX11_readBindings cX11_readBindings 5 (some Jvm.ClassFile.FieldType.int) [.ref (ad 75), .int a] S (some (.int r)) S') ∧ (∀ (a b : Int32) (S : im_S) (r : Int32) (S' : im_S), K 5 a b S = some (r, S') → im_E l g ad dk yX11_readLoop cX11_readLoop 4 (some Jvm.ClassFile.FieldType.int) [.ref (ad 75)] S (some (.int r)) S') ∧ (∀ (a b : Int32) (S : im_S) (r : Int32) (S' : im_S), K 6 a b S = some (r, S') → im_E l g ad dk yX11_readSigns cX11_readSigns 6 (some Jvm.ClassFile.FieldType.int) [.ref (ad 75), .int a] S (some (.int r)) S') ∧ (∀ (a b : Int32) (S : im_S) (r : Int32) (S' : im_S), K 7 a b S = some (r, S') → im_E l g ad dk yX11_readAhead cX11_readAhead 5 (some Jvm.ClassFile.FieldType.int) [.ref (ad 75)] S (some (.int r)) S') ∧ (∀ (a b : Int32) (S : im_S) (r : Int32) (S' : im_S), K 8 a b S = some (r, S') → im_E l g ad dk yX11_readAtom cX11_readAtom 4 (some Jvm.ClassFile.FieldType.int) [.ref (ad 75)] S (some (.int r)) S') ∧ (∀ (a b : Int32) (S : im_S) (r : Int32) (S' : im_S), K 9 a b S = some (r, S') → im_E l g ad dk yX11_readTable cX11_readTable 4 (some Jvm.ClassFile.FieldType.int) [.ref (ad 75)] S (some (.int r)) S')
def f_X11_readX (K : Nat → Int32 → Int32 → im_S → Option (Int32 × im_S)) (fu : Nat) (S : im_S) : Option (Int32 × im_S) := if (S.1 75 77 : Int32) < 20 then ((f_X11_isWord 1 S).bind (fun qS2 => if (qS2.1 : Int32) = 0 then ((f_X11_isWord 3 qS2.2).bind (fun qS6 => if (qS6.1 : Int32) = 0 then ((f_X11_isWord 6 qS6.2).bind (fun qS10 => if (qS10.1 : Int32) = 0 then ((K 6 1 0 qS10.2).bind (fun qS14 => some (qS14.1, qS14.2))) else ((K 5 0 0 qS10.2).bind (fun qS17 => some (qS17.1, qS17.2))))) else ((K 3 0 0 qS6.2).bind (fun qS20 => some (qS20.1, qS20.2))))) else ((K 2 0 0 qS2.2).bind (fun qS23 => some (qS23.1, qS23.2))))) else ((f_X11_refuse S).bind (fun qS26 => some ((-1), qS26.2)))
set_option maxHeartbeats 4000000 in
set_option maxRecDepth 100000 in
theorem f_X11_readX_e (l : Launch) (g : im_G) (ad : Nat → Nat) (K : Nat → Int32 → Int32 → im_S → Option (Int32 × im_S)) {D dk : Nat} (hD1 : dk + 1 ≤ D) (hD2 : 3 ≤ D) (hK : kh_read l g ad K dk) (fu : Nat) (S : im_S) (r : Int32) (S' : im_S) (hm : f_X11_readX K fu  S = some (r, S')) : im_E l g ad D yX11_readX cX11_readX 1 (some Jvm.ClassFile.FieldType.int) [.ref (ad 75)] S (some (.int r)) S' := by
  unfold f_X11_readX at hm
  refine is_met (own := RX11) (by decide +kernel) rfl (Nat.le_of_ble_eq_true rfl) (fun p e s m below meth c X => ?_)
  refine iv_aload_n (pc := 0) X dX11_readX_0 rfl ?_
  refine gF_X11_254_75 (pc := 1) X dX11_readX_1 (x := S.1 75 77) rfl ?_
  refine iv_bipush (pc := 4) X dX11_readX_4 bc_20 ?_
  refine iv_icmp_lt (pc := 6) X dX11_readX_6 (tgt := 16) rfl (fun hb1 => ?_) (fun hb1 => ?_)
  · rw [if_pos hb1] at hm
    refine iv_aload_n (pc := 16) X dX11_readX_16 rfl ?_
    refine iv_iconst (pc := 17) X dX11_readX_17 ic_1 ?_
    obtain ⟨⟨r3, S2⟩, hc4, hm⟩ := bd_some hm
    refine cV_X11_261_75 (pc := 18) X [.int 1] [] 1 rfl (f_X11_isWord_e l g ad 1 S _ _ hc4) (by show (_ : Nat) ≤ D; omega) (by show (_ : Nat) ≤ 40 * D; omega) (Nat.le_of_ble_eq_true rfl) rfl dX11_readX_18 ?_
    refine iv_if_eq (pc := 21) X dX11_readX_21 (tgt := 29) rfl (fun hb5 => ?_) (fun hb5 => ?_)
    · rw [if_pos hb5] at hm
      refine iv_aload_n (pc := 29) X dX11_readX_29 rfl ?_
      refine iv_iconst (pc := 30) X dX11_readX_30 ic_3 ?_
      obtain ⟨⟨r7, S6⟩, hc8, hm⟩ := bd_some hm
      refine cV_X11_261_75 (pc := 31) X [.int 3] [] 1 rfl (f_X11_isWord_e l g ad 3 S2 _ _ hc8) (by show (_ : Nat) ≤ D; omega) (by show (_ : Nat) ≤ 40 * D; omega) (Nat.le_of_ble_eq_true rfl) rfl dX11_readX_31 ?_
      refine iv_if_eq (pc := 34) X dX11_readX_34 (tgt := 42) rfl (fun hb9 => ?_) (fun hb9 => ?_)
      · rw [if_pos hb9] at hm
        refine iv_aload_n (pc := 42) X dX11_readX_42 rfl ?_
        refine iv_bipush (pc := 43) X dX11_readX_43 bc_6 ?_
        obtain ⟨⟨r11, S10⟩, hc12, hm⟩ := bd_some hm
        refine cV_X11_261_75 (pc := 45) X [.int 6] [] 1 rfl (f_X11_isWord_e l g ad 6 S6 _ _ hc12) (by show (_ : Nat) ≤ D; omega) (by show (_ : Nat) ≤ 40 * D; omega) (Nat.le_of_ble_eq_true rfl) rfl dX11_readX_45 ?_
        refine iv_if_eq (pc := 48) X dX11_readX_48 (tgt := 56) rfl (fun hb13 => ?_) (fun hb13 => ?_)
        · rw [if_pos hb13] at hm
          refine iv_aload_n (pc := 56) X dX11_readX_56 rfl ?_
          refine iv_iconst (pc := 57) X dX11_readX_57 ic_1 ?_
          obtain ⟨⟨r15, S14⟩, hc16, hm⟩ := bd_some hm
          refine cV_X11_273_75 (pc := 58) X [.int 1] [] 1 rfl (hK.2.2.2.2.2.2.1 1 0 S10 _ _ hc16) (by show (_ : Nat) ≤ D; omega) (by show (_ : Nat) ≤ 40 * D; omega) (Nat.le_of_ble_eq_true rfl) rfl dX11_readX_58 ?_
          cases hm
          exact is_iret (pc := 61) X dX11_readX_61
        · rw [if_neg hb13] at hm
          refine iv_aload_n (pc := 51) X dX11_readX_51 rfl ?_
          obtain ⟨⟨r18, S17⟩, hc19, hm⟩ := bd_some hm
          refine cV_X11_270_75 (pc := 52) X [] [] 0 rfl (hK.2.2.2.2.2.1 0 0 S10 _ _ hc19) (by show (_ : Nat) ≤ D; omega) (by show (_ : Nat) ≤ 40 * D; omega) (Nat.le_of_ble_eq_true rfl) rfl dX11_readX_52 ?_
          cases hm
          exact is_iret (pc := 55) X dX11_readX_55
      · rw [if_neg hb9] at hm
        refine iv_aload_n (pc := 37) X dX11_readX_37 rfl ?_
        obtain ⟨⟨r21, S20⟩, hc22, hm⟩ := bd_some hm
        refine cV_X11_267_75 (pc := 38) X [] [] 0 rfl (hK.2.2.2.1 0 0 S6 _ _ hc22) (by show (_ : Nat) ≤ D; omega) (by show (_ : Nat) ≤ 40 * D; omega) (Nat.le_of_ble_eq_true rfl) rfl dX11_readX_38 ?_
        cases hm
        exact is_iret (pc := 41) X dX11_readX_41
    · rw [if_neg hb5] at hm
      refine iv_aload_n (pc := 24) X dX11_readX_24 rfl ?_
      obtain ⟨⟨r24, S23⟩, hc25, hm⟩ := bd_some hm
      refine cV_X11_264_75 (pc := 25) X [] [] 0 rfl (hK.2.2.1 0 0 S2 _ _ hc25) (by show (_ : Nat) ≤ D; omega) (by show (_ : Nat) ≤ 40 * D; omega) (Nat.le_of_ble_eq_true rfl) rfl dX11_readX_25 ?_
      cases hm
      exact is_iret (pc := 28) X dX11_readX_28
  · rw [if_neg hb1] at hm
    refine iv_aload_n (pc := 9) X dX11_readX_9 rfl ?_
    obtain ⟨⟨r27, S26⟩, hc28, hm⟩ := bd_some hm
    refine cV_X11_241_75 (pc := 10) X [] [] 0 rfl (f_X11_refuse_e l g ad  S _ _ hc28) (by show (_ : Nat) ≤ D; omega) (by show (_ : Nat) ≤ 40 * D; omega) (Nat.le_of_ble_eq_true rfl) rfl dX11_readX_10 ?_
    refine iv_pop (pc := 13) X dX11_readX_13 rfl ?_
    refine iv_iconst (pc := 14) X dX11_readX_14 ic_m1 ?_
    cases hm
    exact is_iret (pc := 15) X dX11_readX_15
def f_X11_readWithin (K : Nat → Int32 → Int32 → im_S → Option (Int32 × im_S)) (fu : Nat) (S : im_S) : Option (Int32 × im_S) := (K 0 0 0 (uI S 75 77 ((S.1 75 77) + 1))).bind (fun qS1 => some (qS1.1, (uI qS1.2 75 77 ((qS1.2.1 75 77) - 1))))
set_option maxHeartbeats 4000000 in
set_option maxRecDepth 100000 in
theorem f_X11_readWithin_e (l : Launch) (g : im_G) (ad : Nat → Nat) (K : Nat → Int32 → Int32 → im_S → Option (Int32 × im_S)) {D dk : Nat} (hD1 : dk + 1 ≤ D) (hD2 : 3 ≤ D) (hK : kh_read l g ad K dk) (fu : Nat) (S : im_S) (r : Int32) (S' : im_S) (hm : f_X11_readWithin K fu  S = some (r, S')) : im_E l g ad D yX11_readWithin cX11_readWithin 2 (some Jvm.ClassFile.FieldType.int) [.ref (ad 75)] S (some (.int r)) S' := by
  unfold f_X11_readWithin at hm
  refine is_met (own := RX11) (by decide +kernel) rfl (Nat.le_of_ble_eq_true rfl) (fun p e s m below meth c X => ?_)
  refine iv_aload_n (pc := 0) X dX11_readWithin_0 rfl ?_
  refine iv_dup (pc := 1) X dX11_readWithin_1 rfl ?_
  refine gF_X11_254_75 (pc := 2) X dX11_readWithin_2 (x := S.1 75 77) rfl ?_
  refine iv_iconst (pc := 5) X dX11_readWithin_5 ic_1 ?_
  refine iv_iadd (pc := 6) X dX11_readWithin_6 ?_
  refine pF_X11_254_75 (pc := 7) X dX11_readWithin_7 ?_
  refine iv_aload_n (pc := 10) X dX11_readWithin_10 rfl ?_
  obtain ⟨⟨r2, S1⟩, hc3, hm⟩ := bd_some hm
  refine cV_X11_257_75 (pc := 11) X [] [] 0 rfl (hK.1 0 0 (uI S 75 77 ((S.1 75 77) + 1)) _ _ hc3) (by show (_ : Nat) ≤ D; omega) (by show (_ : Nat) ≤ 40 * D; omega) (Nat.le_of_ble_eq_true rfl) rfl dX11_readWithin_11 ?_
  refine iv_istore_n (pc := 14) X dX11_readWithin_14 (by decide) (lv' := [(1, .int r2), (0, .ref (ad 75))]) rfl ?_
  refine iv_aload_n (pc := 15) X dX11_readWithin_15 rfl ?_
  refine iv_dup (pc := 16) X dX11_readWithin_16 rfl ?_
  refine gF_X11_254_75 (pc := 17) X dX11_readWithin_17 (x := S1.1 75 77) rfl ?_
  refine iv_iconst (pc := 20) X dX11_readWithin_20 ic_1 ?_
  refine iv_isub (pc := 21) X dX11_readWithin_21 ?_
  refine pF_X11_254_75 (pc := 22) X dX11_readWithin_22 ?_
  refine iv_iload_n (pc := 25) X dX11_readWithin_25 rfl ?_
  cases hm
  exact is_iret (pc := 26) X dX11_readWithin_26
def f_X11_readLet (K : Nat → Int32 → Int32 → im_S → Option (Int32 × im_S)) (fu : Nat) (S : im_S) : Option (Int32 × im_S) := (f_X11_make 5 (S.1 75 10) S).bind (fun qS1 => (f_X11_wantName (uI qS1.2 75 10 ((qS1.2.1 75 10) + 1))).bind (fun qS4 => if (qS4.1 : Int32) ≠ 0 then (gd (in_b ((qS4.2.1 75 10) - 1) 502) (gd (in_b qS1.1 1200) (gd (in_b ((qS4.2.1 75 10) - 1) 502) (gd (in_b qS1.1 1200) ((f_X11_isSign 61 (uI (uJ qS4.2 87 qS1.1.toNatClampNeg ((qS4.2.2.1 80) (((qS4.2.1 75 10) - 1).toNatClampNeg))) 86 qS1.1.toNatClampNeg ((qS4.2.1 79) (((qS4.2.1 75 10) - 1).toNatClampNeg)))).bind (fun qS8 => (f_X11_want qS8.1 qS8.2).bind (fun qS11 => if (qS11.1 : Int32) ≠ 0 then ((K 0 0 0 qS11.2).bind (fun qS15 => gd (in_b qS1.1 1200) (gd (in_b qS1.1 1200) (if ((upd (qS15.2.1 83) qS1.1.toNatClampNeg qS15.1) qS1.1.toNatClampNeg : Int32) = (-1) then (some ((-1), (uI qS15.2 83 qS1.1.toNatClampNeg qS15.1))) else ((f_X11_isWord 2 (uI qS15.2 83 qS1.1.toNatClampNeg qS15.1)).bind (fun qS19 => (f_X11_want qS19.1 qS19.2).bind (fun qS22 => if (qS22.1 : Int32) ≠ 0 then ((K 0 0 0 qS22.2).bind (fun qS26 => gd (in_b qS1.1 1200) (gd (in_b qS1.1 1200) (if ((upd (qS26.2.1 84) qS1.1.toNatClampNeg qS26.1) qS1.1.toNatClampNeg : Int32) ≠ (-1) then (some (qS1.1, (uI qS26.2 84 qS1.1.toNatClampNeg qS26.1))) else (some ((-1), (uI qS26.2 84 qS1.1.toNatClampNeg qS26.1))))))) else (some ((-1), qS22.2))))))))) else (some ((-1), qS11.2))))))))) else (some ((-1), qS4.2))))
set_option maxHeartbeats 4000000 in
set_option maxRecDepth 100000 in
theorem f_X11_readLet_e (l : Launch) (g : im_G) (ad : Nat → Nat) (K : Nat → Int32 → Int32 → im_S → Option (Int32 × im_S)) {D dk : Nat} (hD1 : dk + 1 ≤ D) (hD2 : 3 ≤ D) (hK : kh_read l g ad K dk) (fu : Nat) (S : im_S) (r : Int32) (S' : im_S) (hm : f_X11_readLet K fu  S = some (r, S')) : im_E l g ad D yX11_readLet cX11_readLet 2 (some Jvm.ClassFile.FieldType.int) [.ref (ad 75)] S (some (.int r)) S' := by
  unfold f_X11_readLet at hm
  refine is_met (own := RX11) (by decide +kernel) rfl (Nat.le_of_ble_eq_true rfl) (fun p e s m below meth c X => ?_)
  refine iv_aload_n (pc := 0) X dX11_readLet_0 rfl ?_
  refine iv_iconst (pc := 1) X dX11_readLet_1 ic_5 ?_
  refine iv_aload_n (pc := 2) X dX11_readLet_2 rfl ?_
  refine gF_X11_231_75 (pc := 3) X dX11_readLet_3 (x := S.1 75 10) rfl ?_
  obtain ⟨⟨r2, S1⟩, hc3, hm⟩ := bd_some hm
  refine cV_X11_276_75 (pc := 6) X [.int 5, .int (S.1 75 10)] [] 2 rfl (f_X11_make_e l g ad 5 (S.1 75 10) S _ _ hc3) (by show (_ : Nat) ≤ D; omega) (by show (_ : Nat) ≤ 40 * D; omega) (Nat.le_of_ble_eq_true rfl) rfl dX11_readLet_6 ?_
  refine iv_istore_n (pc := 9) X dX11_readLet_9 (by decide) (lv' := [(1, .int r2), (0, .ref (ad 75))]) rfl ?_
  refine iv_aload_n (pc := 10) X dX11_readLet_10 rfl ?_
  refine iv_dup (pc := 11) X dX11_readLet_11 rfl ?_
  refine gF_X11_231_75 (pc := 12) X dX11_readLet_12 (x := S1.1 75 10) rfl ?_
  refine iv_iconst (pc := 15) X dX11_readLet_15 ic_1 ?_
  refine iv_iadd (pc := 16) X dX11_readLet_16 ?_
  refine pF_X11_231_75 (pc := 17) X dX11_readLet_17 ?_
  refine iv_aload_n (pc := 20) X dX11_readLet_20 rfl ?_
  obtain ⟨⟨r5, S4⟩, hc6, hm⟩ := bd_some hm
  refine cV_X11_280_75 (pc := 21) X [] [] 0 rfl (f_X11_wantName_e l g ad  (uI S1 75 10 ((S1.1 75 10) + 1)) _ _ hc6) (by show (_ : Nat) ≤ D; omega) (by show (_ : Nat) ≤ 40 * D; omega) (Nat.le_of_ble_eq_true rfl) rfl dX11_readLet_21 ?_
  refine iv_if_ne (pc := 24) X dX11_readLet_24 (tgt := 29) rfl (fun hb7 => ?_) (fun hb7 => ?_)
  · rw [if_pos hb7] at hm
    refine iv_aload_n (pc := 29) X dX11_readLet_29 rfl ?_
    refine gF_X11_44_75 (pc := 30) X dX11_readLet_30 ?_
    refine iv_iload_n (pc := 33) X dX11_readLet_33 rfl ?_
    refine iv_aload_n (pc := 34) X dX11_readLet_34 rfl ?_
    refine gF_X11_22_75 (pc := 35) X dX11_readLet_35 ?_
    refine iv_aload_n (pc := 38) X dX11_readLet_38 rfl ?_
    refine gF_X11_231_75 (pc := 39) X dX11_readLet_39 (x := S4.1 75 10) rfl ?_
    refine iv_iconst (pc := 42) X dX11_readLet_42 ic_1 ?_
    refine iv_isub (pc := 43) X dX11_readLet_43 ?_
    obtain ⟨hg, hm⟩ := gd_some hm
    refine aL_80 (pc := 44) X dX11_readLet_44 hg (x := (S4.2.1 80) (((S4.1 75 10) - 1).toNatClampNeg)) rfl ?_
    obtain ⟨hg, hm⟩ := gd_some hm
    refine aS_87 (pc := 45) X dX11_readLet_45 hg ?_
    refine iv_aload_n (pc := 46) X dX11_readLet_46 rfl ?_
    refine gF_X11_41_75 (pc := 47) X dX11_readLet_47 ?_
    refine iv_iload_n (pc := 50) X dX11_readLet_50 rfl ?_
    refine iv_aload_n (pc := 51) X dX11_readLet_51 rfl ?_
    refine gF_X11_19_75 (pc := 52) X dX11_readLet_52 ?_
    refine iv_aload_n (pc := 55) X dX11_readLet_55 rfl ?_
    refine gF_X11_231_75 (pc := 56) X dX11_readLet_56 (x := S4.1 75 10) rfl ?_
    refine iv_iconst (pc := 59) X dX11_readLet_59 ic_1 ?_
    refine iv_isub (pc := 60) X dX11_readLet_60 ?_
    obtain ⟨hg, hm⟩ := gd_some hm
    refine aL_79 (pc := 61) X dX11_readLet_61 hg (x := (S4.1 79) (((S4.1 75 10) - 1).toNatClampNeg)) rfl ?_
    obtain ⟨hg, hm⟩ := gd_some hm
    refine aS_86 (pc := 62) X dX11_readLet_62 hg ?_
    refine iv_aload_n (pc := 63) X dX11_readLet_63 rfl ?_
    refine iv_aload_n (pc := 64) X dX11_readLet_64 rfl ?_
    refine iv_bipush (pc := 65) X dX11_readLet_65 bc_61 ?_
    obtain ⟨⟨r9, S8⟩, hc10, hm⟩ := bd_some hm
    refine cV_X11_283_75 (pc := 67) X [.int 61] [.ref (ad 75)] 1 rfl (f_X11_isSign_e l g ad 61 (uI (uJ S4 87 r2.toNatClampNeg ((S4.2.1 80) (((S4.1 75 10) - 1).toNatClampNeg))) 86 r2.toNatClampNeg ((S4.1 79) (((S4.1 75 10) - 1).toNatClampNeg))) _ _ hc10) (by show (_ : Nat) ≤ D; omega) (by show (_ : Nat) ≤ 40 * D; omega) (Nat.le_of_ble_eq_true rfl) rfl dX11_readLet_67 ?_
    obtain ⟨⟨r12, S11⟩, hc13, hm⟩ := bd_some hm
    refine cV_X11_245_75 (pc := 70) X [.int r9] [] 1 rfl (f_X11_want_e l g ad r9 S8 _ _ hc13) (by show (_ : Nat) ≤ D; omega) (by show (_ : Nat) ≤ 40 * D; omega) (Nat.le_of_ble_eq_true rfl) rfl dX11_readLet_70 ?_
    refine iv_if_ne (pc := 73) X dX11_readLet_73 (tgt := 78) rfl (fun hb14 => ?_) (fun hb14 => ?_)
    · rw [if_pos hb14] at hm
      refine iv_aload_n (pc := 78) X dX11_readLet_78 rfl ?_
      refine gF_X11_32_75 (pc := 79) X dX11_readLet_79 ?_
      refine iv_iload_n (pc := 82) X dX11_readLet_82 rfl ?_
      refine iv_aload_n (pc := 83) X dX11_readLet_83 rfl ?_
      obtain ⟨⟨r16, S15⟩, hc17, hm⟩ := bd_some hm
      refine cV_X11_257_75 (pc := 84) X [] [.int r2, .ref (ad 83)] 0 rfl (hK.1 0 0 S11 _ _ hc17) (by show (_ : Nat) ≤ D; omega) (by show (_ : Nat) ≤ 40 * D; omega) (Nat.le_of_ble_eq_true rfl) rfl dX11_readLet_84 ?_
      obtain ⟨hg, hm⟩ := gd_some hm
      refine aS_83 (pc := 87) X dX11_readLet_87 hg ?_
      refine iv_aload_n (pc := 88) X dX11_readLet_88 rfl ?_
      refine gF_X11_32_75 (pc := 89) X dX11_readLet_89 ?_
      refine iv_iload_n (pc := 92) X dX11_readLet_92 rfl ?_
      obtain ⟨hg, hm⟩ := gd_some hm
      refine aL_83 (pc := 93) X dX11_readLet_93 hg (x := (upd (S15.1 83) r2.toNatClampNeg r16) r2.toNatClampNeg) rfl ?_
      refine iv_iconst (pc := 94) X dX11_readLet_94 ic_m1 ?_
      refine iv_icmp_eq (pc := 95) X dX11_readLet_95 (tgt := 110) rfl (fun hb18 => ?_) (fun hb18 => ?_)
      · rw [if_pos hb18] at hm
        refine iv_iconst (pc := 110) X dX11_readLet_110 ic_m1 ?_
        cases hm
        exact is_iret (pc := 111) X dX11_readLet_111
      · rw [if_neg hb18] at hm
        refine iv_aload_n (pc := 98) X dX11_readLet_98 rfl ?_
        refine iv_aload_n (pc := 99) X dX11_readLet_99 rfl ?_
        refine iv_iconst (pc := 100) X dX11_readLet_100 ic_2 ?_
        obtain ⟨⟨r20, S19⟩, hc21, hm⟩ := bd_some hm
        refine cV_X11_261_75 (pc := 101) X [.int 2] [.ref (ad 75)] 1 rfl (f_X11_isWord_e l g ad 2 (uI S15 83 r2.toNatClampNeg r16) _ _ hc21) (by show (_ : Nat) ≤ D; omega) (by show (_ : Nat) ≤ 40 * D; omega) (Nat.le_of_ble_eq_true rfl) rfl dX11_readLet_101 ?_
        obtain ⟨⟨r23, S22⟩, hc24, hm⟩ := bd_some hm
        refine cV_X11_245_75 (pc := 104) X [.int r20] [] 1 rfl (f_X11_want_e l g ad r20 S19 _ _ hc24) (by show (_ : Nat) ≤ D; omega) (by show (_ : Nat) ≤ 40 * D; omega) (Nat.le_of_ble_eq_true rfl) rfl dX11_readLet_104 ?_
        refine iv_if_ne (pc := 107) X dX11_readLet_107 (tgt := 112) rfl (fun hb25 => ?_) (fun hb25 => ?_)
        · rw [if_pos hb25] at hm
          refine iv_aload_n (pc := 112) X dX11_readLet_112 rfl ?_
          refine gF_X11_35_75 (pc := 113) X dX11_readLet_113 ?_
          refine iv_iload_n (pc := 116) X dX11_readLet_116 rfl ?_
          refine iv_aload_n (pc := 117) X dX11_readLet_117 rfl ?_
          obtain ⟨⟨r27, S26⟩, hc28, hm⟩ := bd_some hm
          refine cV_X11_257_75 (pc := 118) X [] [.int r2, .ref (ad 84)] 0 rfl (hK.1 0 0 S22 _ _ hc28) (by show (_ : Nat) ≤ D; omega) (by show (_ : Nat) ≤ 40 * D; omega) (Nat.le_of_ble_eq_true rfl) rfl dX11_readLet_118 ?_
          obtain ⟨hg, hm⟩ := gd_some hm
          refine aS_84 (pc := 121) X dX11_readLet_121 hg ?_
          refine iv_aload_n (pc := 122) X dX11_readLet_122 rfl ?_
          refine gF_X11_35_75 (pc := 123) X dX11_readLet_123 ?_
          refine iv_iload_n (pc := 126) X dX11_readLet_126 rfl ?_
          obtain ⟨hg, hm⟩ := gd_some hm
          refine aL_84 (pc := 127) X dX11_readLet_127 hg (x := (upd (S26.1 84) r2.toNatClampNeg r27) r2.toNatClampNeg) rfl ?_
          refine iv_iconst (pc := 128) X dX11_readLet_128 ic_m1 ?_
          refine iv_icmp_ne (pc := 129) X dX11_readLet_129 (tgt := 136) rfl (fun hb29 => ?_) (fun hb29 => ?_)
          · rw [if_pos hb29] at hm
            refine iv_iload_n (pc := 136) X dX11_readLet_136 rfl ?_
            cases hm
            exact is_iret (pc := 137) X dX11_readLet_137
          · rw [if_neg hb29] at hm
            refine iv_iconst (pc := 132) X dX11_readLet_132 ic_m1 ?_
            refine iv_goto (pc := 133) X dX11_readLet_133 (tgt := 137) rfl ?_
            cases hm
            exact is_iret (pc := 137) X dX11_readLet_137
        · rw [if_neg hb25] at hm
          refine iv_iconst (pc := 110) X dX11_readLet_110 ic_m1 ?_
          cases hm
          exact is_iret (pc := 111) X dX11_readLet_111
    · rw [if_neg hb14] at hm
      refine iv_iconst (pc := 76) X dX11_readLet_76 ic_m1 ?_
      cases hm
      exact is_iret (pc := 77) X dX11_readLet_77
  · rw [if_neg hb7] at hm
    refine iv_iconst (pc := 27) X dX11_readLet_27 ic_m1 ?_
    cases hm
    exact is_iret (pc := 28) X dX11_readLet_28
def f_X11_readIf (K : Nat → Int32 → Int32 → im_S → Option (Int32 × im_S)) (fu : Nat) (S : im_S) : Option (Int32 × im_S) := (f_X11_make 6 (S.1 75 10) S).bind (fun qS1 => (K 0 0 0 (uI qS1.2 75 10 ((qS1.2.1 75 10) + 1))).bind (fun qS4 => gd (in_b qS1.1 1200) (gd (in_b qS1.1 1200) (if ((upd (qS4.2.1 83) qS1.1.toNatClampNeg qS4.1) qS1.1.toNatClampNeg : Int32) = (-1) then (some ((-1), (uI qS4.2 83 qS1.1.toNatClampNeg qS4.1))) else ((f_X11_isWord 4 (uI qS4.2 83 qS1.1.toNatClampNeg qS4.1)).bind (fun qS8 => (f_X11_want qS8.1 qS8.2).bind (fun qS11 => if (qS11.1 : Int32) ≠ 0 then ((K 0 0 0 qS11.2).bind (fun qS15 => gd (in_b qS1.1 1200) (gd (in_b qS1.1 1200) (if ((upd (qS15.2.1 84) qS1.1.toNatClampNeg qS15.1) qS1.1.toNatClampNeg : Int32) = (-1) then (some ((-1), (uI qS15.2 84 qS1.1.toNatClampNeg qS15.1))) else ((f_X11_isWord 5 (uI qS15.2 84 qS1.1.toNatClampNeg qS15.1)).bind (fun qS19 => (f_X11_want qS19.1 qS19.2).bind (fun qS22 => if (qS22.1 : Int32) ≠ 0 then ((K 0 0 0 qS22.2).bind (fun qS26 => gd (in_b qS1.1 1200) (gd (in_b qS1.1 1200) (if ((upd (qS26.2.1 85) qS1.1.toNatClampNeg qS26.1) qS1.1.toNatClampNeg : Int32) ≠ (-1) then (some (qS1.1, (uI qS26.2 85 qS1.1.toNatClampNeg qS26.1))) else (some ((-1), (uI qS26.2 85 qS1.1.toNatClampNeg qS26.1))))))) else (some ((-1), qS22.2))))))))) else (some ((-1), qS11.2)))))))))
set_option maxHeartbeats 4000000 in
set_option maxRecDepth 100000 in
theorem f_X11_readIf_e (l : Launch) (g : im_G) (ad : Nat → Nat) (K : Nat → Int32 → Int32 → im_S → Option (Int32 × im_S)) {D dk : Nat} (hD1 : dk + 1 ≤ D) (hD2 : 3 ≤ D) (hK : kh_read l g ad K dk) (fu : Nat) (S : im_S) (r : Int32) (S' : im_S) (hm : f_X11_readIf K fu  S = some (r, S')) : im_E l g ad D yX11_readIf cX11_readIf 2 (some Jvm.ClassFile.FieldType.int) [.ref (ad 75)] S (some (.int r)) S' := by
  unfold f_X11_readIf at hm
  refine is_met (own := RX11) (by decide +kernel) rfl (Nat.le_of_ble_eq_true rfl) (fun p e s m below meth c X => ?_)
  refine iv_aload_n (pc := 0) X dX11_readIf_0 rfl ?_
  refine iv_bipush (pc := 1) X dX11_readIf_1 bc_6 ?_
  refine iv_aload_n (pc := 3) X dX11_readIf_3 rfl ?_
  refine gF_X11_231_75 (pc := 4) X dX11_readIf_4 (x := S.1 75 10) rfl ?_
  obtain ⟨⟨r2, S1⟩, hc3, hm⟩ := bd_some hm
  refine cV_X11_276_75 (pc := 7) X [.int 6, .int (S.1 75 10)] [] 2 rfl (f_X11_make_e l g ad 6 (S.1 75 10) S _ _ hc3) (by show (_ : Nat) ≤ D; omega) (by show (_ : Nat) ≤ 40 * D; omega) (Nat.le_of_ble_eq_true rfl) rfl dX11_readIf_7 ?_
  refine iv_istore_n (pc := 10) X dX11_readIf_10 (by decide) (lv' := [(1, .int r2), (0, .ref (ad 75))]) rfl ?_
  refine iv_aload_n (pc := 11) X dX11_readIf_11 rfl ?_
  refine iv_dup (pc := 12) X dX11_readIf_12 rfl ?_
  refine gF_X11_231_75 (pc := 13) X dX11_readIf_13 (x := S1.1 75 10) rfl ?_
  refine iv_iconst (pc := 16) X dX11_readIf_16 ic_1 ?_
  refine iv_iadd (pc := 17) X dX11_readIf_17 ?_
  refine pF_X11_231_75 (pc := 18) X dX11_readIf_18 ?_
  refine iv_aload_n (pc := 21) X dX11_readIf_21 rfl ?_
  refine gF_X11_32_75 (pc := 22) X dX11_readIf_22 ?_
  refine iv_iload_n (pc := 25) X dX11_readIf_25 rfl ?_
  refine iv_aload_n (pc := 26) X dX11_readIf_26 rfl ?_
  obtain ⟨⟨r5, S4⟩, hc6, hm⟩ := bd_some hm
  refine cV_X11_257_75 (pc := 27) X [] [.int r2, .ref (ad 83)] 0 rfl (hK.1 0 0 (uI S1 75 10 ((S1.1 75 10) + 1)) _ _ hc6) (by show (_ : Nat) ≤ D; omega) (by show (_ : Nat) ≤ 40 * D; omega) (Nat.le_of_ble_eq_true rfl) rfl dX11_readIf_27 ?_
  obtain ⟨hg, hm⟩ := gd_some hm
  refine aS_83 (pc := 30) X dX11_readIf_30 hg ?_
  refine iv_aload_n (pc := 31) X dX11_readIf_31 rfl ?_
  refine gF_X11_32_75 (pc := 32) X dX11_readIf_32 ?_
  refine iv_iload_n (pc := 35) X dX11_readIf_35 rfl ?_
  obtain ⟨hg, hm⟩ := gd_some hm
  refine aL_83 (pc := 36) X dX11_readIf_36 hg (x := (upd (S4.1 83) r2.toNatClampNeg r5) r2.toNatClampNeg) rfl ?_
  refine iv_iconst (pc := 37) X dX11_readIf_37 ic_m1 ?_
  refine iv_icmp_eq (pc := 38) X dX11_readIf_38 (tgt := 53) rfl (fun hb7 => ?_) (fun hb7 => ?_)
  · rw [if_pos hb7] at hm
    refine iv_iconst (pc := 53) X dX11_readIf_53 ic_m1 ?_
    cases hm
    exact is_iret (pc := 54) X dX11_readIf_54
  · rw [if_neg hb7] at hm
    refine iv_aload_n (pc := 41) X dX11_readIf_41 rfl ?_
    refine iv_aload_n (pc := 42) X dX11_readIf_42 rfl ?_
    refine iv_iconst (pc := 43) X dX11_readIf_43 ic_4 ?_
    obtain ⟨⟨r9, S8⟩, hc10, hm⟩ := bd_some hm
    refine cV_X11_261_75 (pc := 44) X [.int 4] [.ref (ad 75)] 1 rfl (f_X11_isWord_e l g ad 4 (uI S4 83 r2.toNatClampNeg r5) _ _ hc10) (by show (_ : Nat) ≤ D; omega) (by show (_ : Nat) ≤ 40 * D; omega) (Nat.le_of_ble_eq_true rfl) rfl dX11_readIf_44 ?_
    obtain ⟨⟨r12, S11⟩, hc13, hm⟩ := bd_some hm
    refine cV_X11_245_75 (pc := 47) X [.int r9] [] 1 rfl (f_X11_want_e l g ad r9 S8 _ _ hc13) (by show (_ : Nat) ≤ D; omega) (by show (_ : Nat) ≤ 40 * D; omega) (Nat.le_of_ble_eq_true rfl) rfl dX11_readIf_47 ?_
    refine iv_if_ne (pc := 50) X dX11_readIf_50 (tgt := 55) rfl (fun hb14 => ?_) (fun hb14 => ?_)
    · rw [if_pos hb14] at hm
      refine iv_aload_n (pc := 55) X dX11_readIf_55 rfl ?_
      refine gF_X11_35_75 (pc := 56) X dX11_readIf_56 ?_
      refine iv_iload_n (pc := 59) X dX11_readIf_59 rfl ?_
      refine iv_aload_n (pc := 60) X dX11_readIf_60 rfl ?_
      obtain ⟨⟨r16, S15⟩, hc17, hm⟩ := bd_some hm
      refine cV_X11_257_75 (pc := 61) X [] [.int r2, .ref (ad 84)] 0 rfl (hK.1 0 0 S11 _ _ hc17) (by show (_ : Nat) ≤ D; omega) (by show (_ : Nat) ≤ 40 * D; omega) (Nat.le_of_ble_eq_true rfl) rfl dX11_readIf_61 ?_
      obtain ⟨hg, hm⟩ := gd_some hm
      refine aS_84 (pc := 64) X dX11_readIf_64 hg ?_
      refine iv_aload_n (pc := 65) X dX11_readIf_65 rfl ?_
      refine gF_X11_35_75 (pc := 66) X dX11_readIf_66 ?_
      refine iv_iload_n (pc := 69) X dX11_readIf_69 rfl ?_
      obtain ⟨hg, hm⟩ := gd_some hm
      refine aL_84 (pc := 70) X dX11_readIf_70 hg (x := (upd (S15.1 84) r2.toNatClampNeg r16) r2.toNatClampNeg) rfl ?_
      refine iv_iconst (pc := 71) X dX11_readIf_71 ic_m1 ?_
      refine iv_icmp_eq (pc := 72) X dX11_readIf_72 (tgt := 87) rfl (fun hb18 => ?_) (fun hb18 => ?_)
      · rw [if_pos hb18] at hm
        refine iv_iconst (pc := 87) X dX11_readIf_87 ic_m1 ?_
        cases hm
        exact is_iret (pc := 88) X dX11_readIf_88
      · rw [if_neg hb18] at hm
        refine iv_aload_n (pc := 75) X dX11_readIf_75 rfl ?_
        refine iv_aload_n (pc := 76) X dX11_readIf_76 rfl ?_
        refine iv_iconst (pc := 77) X dX11_readIf_77 ic_5 ?_
        obtain ⟨⟨r20, S19⟩, hc21, hm⟩ := bd_some hm
        refine cV_X11_261_75 (pc := 78) X [.int 5] [.ref (ad 75)] 1 rfl (f_X11_isWord_e l g ad 5 (uI S15 84 r2.toNatClampNeg r16) _ _ hc21) (by show (_ : Nat) ≤ D; omega) (by show (_ : Nat) ≤ 40 * D; omega) (Nat.le_of_ble_eq_true rfl) rfl dX11_readIf_78 ?_
        obtain ⟨⟨r23, S22⟩, hc24, hm⟩ := bd_some hm
        refine cV_X11_245_75 (pc := 81) X [.int r20] [] 1 rfl (f_X11_want_e l g ad r20 S19 _ _ hc24) (by show (_ : Nat) ≤ D; omega) (by show (_ : Nat) ≤ 40 * D; omega) (Nat.le_of_ble_eq_true rfl) rfl dX11_readIf_81 ?_
        refine iv_if_ne (pc := 84) X dX11_readIf_84 (tgt := 89) rfl (fun hb25 => ?_) (fun hb25 => ?_)
        · rw [if_pos hb25] at hm
          refine iv_aload_n (pc := 89) X dX11_readIf_89 rfl ?_
          refine gF_X11_38_75 (pc := 90) X dX11_readIf_90 ?_
          refine iv_iload_n (pc := 93) X dX11_readIf_93 rfl ?_
          refine iv_aload_n (pc := 94) X dX11_readIf_94 rfl ?_
          obtain ⟨⟨r27, S26⟩, hc28, hm⟩ := bd_some hm
          refine cV_X11_257_75 (pc := 95) X [] [.int r2, .ref (ad 85)] 0 rfl (hK.1 0 0 S22 _ _ hc28) (by show (_ : Nat) ≤ D; omega) (by show (_ : Nat) ≤ 40 * D; omega) (Nat.le_of_ble_eq_true rfl) rfl dX11_readIf_95 ?_
          obtain ⟨hg, hm⟩ := gd_some hm
          refine aS_85 (pc := 98) X dX11_readIf_98 hg ?_
          refine iv_aload_n (pc := 99) X dX11_readIf_99 rfl ?_
          refine gF_X11_38_75 (pc := 100) X dX11_readIf_100 ?_
          refine iv_iload_n (pc := 103) X dX11_readIf_103 rfl ?_
          obtain ⟨hg, hm⟩ := gd_some hm
          refine aL_85 (pc := 104) X dX11_readIf_104 hg (x := (upd (S26.1 85) r2.toNatClampNeg r27) r2.toNatClampNeg) rfl ?_
          refine iv_iconst (pc := 105) X dX11_readIf_105 ic_m1 ?_
          refine iv_icmp_ne (pc := 106) X dX11_readIf_106 (tgt := 113) rfl (fun hb29 => ?_) (fun hb29 => ?_)
          · rw [if_pos hb29] at hm
            refine iv_iload_n (pc := 113) X dX11_readIf_113 rfl ?_
            cases hm
            exact is_iret (pc := 114) X dX11_readIf_114
          · rw [if_neg hb29] at hm
            refine iv_iconst (pc := 109) X dX11_readIf_109 ic_m1 ?_
            refine iv_goto (pc := 110) X dX11_readIf_110 (tgt := 114) rfl ?_
            cases hm
            exact is_iret (pc := 114) X dX11_readIf_114
        · rw [if_neg hb25] at hm
          refine iv_iconst (pc := 87) X dX11_readIf_87 ic_m1 ?_
          cases hm
          exact is_iret (pc := 88) X dX11_readIf_88
    · rw [if_neg hb14] at hm
      refine iv_iconst (pc := 53) X dX11_readIf_53 ic_m1 ?_
      cases hm
      exact is_iret (pc := 54) X dX11_readIf_54
def f_X11_readBindings_L2 (K : Nat → Int32 → Int32 → im_S → Option (Int32 × im_S)) (fu : Nat) : Nat → Int32 → Int32 → im_S → Option (Int32 × im_S)
  | 0, _, _, _ => none
  | nf + 1, z1, z2, S => if (z2 : Int32) ≠ z1 then ((f_X11_wantName S).bind (fun qS2 => if (qS2.1 : Int32) = 0 then (some ((-1), qS2.2)) else ((f_X11_isSign 61 qS2.2).bind (fun qS6 => (f_X11_want qS6.1 qS6.2).bind (fun qS9 => if (qS9.1 : Int32) ≠ 0 then ((K 0 0 0 qS9.2).bind (fun qS13 => if (qS13.1 : Int32) ≠ (-1) then (gd (in_b (qS13.2.1 75 78) 502) (gd (in_b (qS13.2.1 75 78) 502) ((f_X11_isSign 44 (uI (uI (uI qS13.2 132 ((qS13.2.1 75 78).toNatClampNeg) (S.1 75 10)) 133 ((qS13.2.1 75 78).toNatClampNeg) qS13.1) 75 78 ((qS13.2.1 75 78) + 1))).bind (fun qS17 => (f_X11_takes qS17.1 qS17.2).bind (fun qS20 => if (qS20.1 : Int32) ≠ 0 then (f_X11_readBindings_L2 K fu nf z1 (z2 + 1) qS20.2) else (some (z2 + 1, qS20.2))))))) else (some ((-1), qS13.2)))) else (some ((-1), qS9.2))))))) else ((f_X11_refuse S).bind (fun qS24 => some ((-1), qS24.2)))
set_option maxHeartbeats 4000000 in
set_option maxRecDepth 100000 in
theorem f_X11_readBindings_L2_w {l : Launch} {g : im_G} {ad : Nat → Nat} (K : Nat → Int32 → Int32 → im_S → Option (Int32 × im_S)) {D dk : Nat} (hD1 : dk + 1 ≤ D) (hD2 : 3 ≤ D) (hK : kh_read l g ad K dk) {fu : Nat} (l0 : Launch) (g0 : im_G) (ad0 : Nat → Nat) {p : Program} {e : Env} {s : State} {m : MethodId} {below : List Frame} {meth : Method} {c : Code} {args : Array Value} (X : im_X p l s m args meth c g cX11_readBindings 5 RX11 (some Jvm.ClassFile.FieldType.int)) : ∀ (nf : Nat) (z1 : Int32) (z2 : Int32) (S : im_S) (r : Int32) (S' : im_S), f_X11_readBindings_L2 K fu nf z1 z2 S = some (r, S') → im_V p l e (im_R D 0 0) s m args below meth c g 5 (im_Z below g ad args s (some (.int r)) S') ad im_N (im_cn g ad S) 0 0 2 [(0, .ref (ad 75)), (1, .int z1), (2, .int z2)] [] := by
  intro nf
  induction nf with
  | zero =>
    intro z1 z2 S r S' hm
    cases hm
  | succ nf ih =>
    intro z1 z2 S r S' hm
    unfold f_X11_readBindings_L2 at hm
    refine iv_iload_n (pc := 2) X dX11_readBindings_2 rfl ?_
    refine iv_iload_n (pc := 3) X dX11_readBindings_3 rfl ?_
    refine iv_icmp_ne (pc := 4) X dX11_readBindings_4 (tgt := 14) rfl (fun hb1 => ?_) (fun hb1 => ?_)
    · rw [if_pos hb1] at hm
      refine iv_aload_n (pc := 14) X dX11_readBindings_14 rfl ?_
      refine gF_X11_231_75 (pc := 15) X dX11_readBindings_15 (x := S.1 75 10) rfl ?_
      refine iv_istore_n (pc := 18) X dX11_readBindings_18 (by decide) (lv' := [(3, .int (S.1 75 10)), (0, .ref (ad 75)), (1, .int z1), (2, .int z2)]) rfl ?_
      refine iv_aload_n (pc := 19) X dX11_readBindings_19 rfl ?_
      obtain ⟨⟨r3, S2⟩, hc4, hm⟩ := bd_some hm
      refine cV_X11_280_75 (pc := 20) X [] [] 0 rfl (f_X11_wantName_e l g ad  S _ _ hc4) (by show (_ : Nat) ≤ D; omega) (by show (_ : Nat) ≤ 40 * D; omega) (Nat.le_of_ble_eq_true rfl) rfl dX11_readBindings_20 ?_
      refine iv_if_eq (pc := 23) X dX11_readBindings_23 (tgt := 39) rfl (fun hb5 => ?_) (fun hb5 => ?_)
      · rw [if_pos hb5] at hm
        refine iv_iconst (pc := 39) X dX11_readBindings_39 ic_m1 ?_
        cases hm
        exact is_iret (pc := 40) X dX11_readBindings_40
      · rw [if_neg hb5] at hm
        refine iv_aload_n (pc := 26) X dX11_readBindings_26 rfl ?_
        refine iv_aload_n (pc := 27) X dX11_readBindings_27 rfl ?_
        refine iv_bipush (pc := 28) X dX11_readBindings_28 bc_61 ?_
        obtain ⟨⟨r7, S6⟩, hc8, hm⟩ := bd_some hm
        refine cV_X11_283_75 (pc := 30) X [.int 61] [.ref (ad 75)] 1 rfl (f_X11_isSign_e l g ad 61 S2 _ _ hc8) (by show (_ : Nat) ≤ D; omega) (by show (_ : Nat) ≤ 40 * D; omega) (Nat.le_of_ble_eq_true rfl) rfl dX11_readBindings_30 ?_
        obtain ⟨⟨r10, S9⟩, hc11, hm⟩ := bd_some hm
        refine cV_X11_245_75 (pc := 33) X [.int r7] [] 1 rfl (f_X11_want_e l g ad r7 S6 _ _ hc11) (by show (_ : Nat) ≤ D; omega) (by show (_ : Nat) ≤ 40 * D; omega) (Nat.le_of_ble_eq_true rfl) rfl dX11_readBindings_33 ?_
        refine iv_if_ne (pc := 36) X dX11_readBindings_36 (tgt := 41) rfl (fun hb12 => ?_) (fun hb12 => ?_)
        · rw [if_pos hb12] at hm
          refine iv_aload_n (pc := 41) X dX11_readBindings_41 rfl ?_
          obtain ⟨⟨r14, S13⟩, hc15, hm⟩ := bd_some hm
          refine cV_X11_257_75 (pc := 42) X [] [] 0 rfl (hK.1 0 0 S9 _ _ hc15) (by show (_ : Nat) ≤ D; omega) (by show (_ : Nat) ≤ 40 * D; omega) (Nat.le_of_ble_eq_true rfl) rfl dX11_readBindings_42 ?_
          refine iv_istore (pc := 45) X dX11_readBindings_45 (by decide) (lv' := [(4, .int r14), (3, .int (S.1 75 10)), (0, .ref (ad 75)), (1, .int z1), (2, .int z2)]) rfl ?_
          refine iv_iload (pc := 47) X dX11_readBindings_47 rfl ?_
          refine iv_iconst (pc := 49) X dX11_readBindings_49 ic_m1 ?_
          refine iv_icmp_ne (pc := 50) X dX11_readBindings_50 (tgt := 55) rfl (fun hb16 => ?_) (fun hb16 => ?_)
          · rw [if_pos hb16] at hm
            refine iv_aload_n (pc := 55) X dX11_readBindings_55 rfl ?_
            refine gF_X11_180_75 (pc := 56) X dX11_readBindings_56 ?_
            refine iv_aload_n (pc := 59) X dX11_readBindings_59 rfl ?_
            refine gF_X11_286_75 (pc := 60) X dX11_readBindings_60 (x := S13.1 75 78) rfl ?_
            refine iv_iload_n (pc := 63) X dX11_readBindings_63 rfl ?_
            obtain ⟨hg, hm⟩ := gd_some hm
            refine aS_132 (pc := 64) X dX11_readBindings_64 hg ?_
            refine iv_aload_n (pc := 65) X dX11_readBindings_65 rfl ?_
            refine gF_X11_183_75 (pc := 66) X dX11_readBindings_66 ?_
            refine iv_aload_n (pc := 69) X dX11_readBindings_69 rfl ?_
            refine gF_X11_286_75 (pc := 70) X dX11_readBindings_70 (x := S13.1 75 78) rfl ?_
            refine iv_iload (pc := 73) X dX11_readBindings_73 rfl ?_
            obtain ⟨hg, hm⟩ := gd_some hm
            refine aS_133 (pc := 75) X dX11_readBindings_75 hg ?_
            refine iv_aload_n (pc := 76) X dX11_readBindings_76 rfl ?_
            refine iv_dup (pc := 77) X dX11_readBindings_77 rfl ?_
            refine gF_X11_286_75 (pc := 78) X dX11_readBindings_78 (x := S13.1 75 78) rfl ?_
            refine iv_iconst (pc := 81) X dX11_readBindings_81 ic_1 ?_
            refine iv_iadd (pc := 82) X dX11_readBindings_82 ?_
            refine pF_X11_286_75 (pc := 83) X dX11_readBindings_83 ?_
            refine iv_iinc (pc := 86) X dX11_readBindings_86 rfl (by decide) (v := z2 + 1) rfl (lv' := [(2, .int (z2 + 1)), (4, .int r14), (3, .int (S.1 75 10)), (0, .ref (ad 75)), (1, .int z1)]) rfl ?_
            refine iv_aload_n (pc := 89) X dX11_readBindings_89 rfl ?_
            refine iv_aload_n (pc := 90) X dX11_readBindings_90 rfl ?_
            refine iv_bipush (pc := 91) X dX11_readBindings_91 bc_44 ?_
            obtain ⟨⟨r18, S17⟩, hc19, hm⟩ := bd_some hm
            refine cV_X11_283_75 (pc := 93) X [.int 44] [.ref (ad 75)] 1 rfl (f_X11_isSign_e l g ad 44 (uI (uI (uI S13 132 ((S13.1 75 78).toNatClampNeg) (S.1 75 10)) 133 ((S13.1 75 78).toNatClampNeg) r14) 75 78 ((S13.1 75 78) + 1)) _ _ hc19) (by show (_ : Nat) ≤ D; omega) (by show (_ : Nat) ≤ 40 * D; omega) (Nat.le_of_ble_eq_true rfl) rfl dX11_readBindings_93 ?_
            obtain ⟨⟨r21, S20⟩, hc22, hm⟩ := bd_some hm
            refine cV_X11_237_75 (pc := 96) X [.int r18] [] 1 rfl (f_X11_takes_e l g ad r18 S17 _ _ hc22) (by show (_ : Nat) ≤ D; omega) (by show (_ : Nat) ≤ 40 * D; omega) (Nat.le_of_ble_eq_true rfl) rfl dX11_readBindings_96 ?_
            refine iv_if_ne (pc := 99) X dX11_readBindings_99 (tgt := 2) rfl (fun hb23 => ?_) (fun hb23 => ?_)
            · rw [if_pos hb23] at hm
              refine iv_sub [3, 4, 0] (lv2 := [(0, .ref (ad 75)), (1, .int z1), (2, .int (z2 + 1))]) rfl ?_
              exact ih z1 (z2 + 1) S20 _ _ hm
            · rw [if_neg hb23] at hm
              refine iv_iload_n (pc := 102) X dX11_readBindings_102 rfl ?_
              cases hm
              exact is_iret (pc := 103) X dX11_readBindings_103
          · rw [if_neg hb16] at hm
            refine iv_iconst (pc := 53) X dX11_readBindings_53 ic_m1 ?_
            cases hm
            exact is_iret (pc := 54) X dX11_readBindings_54
        · rw [if_neg hb12] at hm
          refine iv_iconst (pc := 39) X dX11_readBindings_39 ic_m1 ?_
          cases hm
          exact is_iret (pc := 40) X dX11_readBindings_40
    · rw [if_neg hb1] at hm
      refine iv_aload_n (pc := 7) X dX11_readBindings_7 rfl ?_
      obtain ⟨⟨r25, S24⟩, hc26, hm⟩ := bd_some hm
      refine cV_X11_241_75 (pc := 8) X [] [] 0 rfl (f_X11_refuse_e l g ad  S _ _ hc26) (by show (_ : Nat) ≤ D; omega) (by show (_ : Nat) ≤ 40 * D; omega) (Nat.le_of_ble_eq_true rfl) rfl dX11_readBindings_8 ?_
      refine iv_pop (pc := 11) X dX11_readBindings_11 rfl ?_
      refine iv_iconst (pc := 12) X dX11_readBindings_12 ic_m1 ?_
      cases hm
      exact is_iret (pc := 13) X dX11_readBindings_13
def f_X11_readBindings (K : Nat → Int32 → Int32 → im_S → Option (Int32 × im_S)) (fu : Nat) (x1 : Int32) (S : im_S) : Option (Int32 × im_S) := f_X11_readBindings_L2 K fu fu x1 0 S
set_option maxHeartbeats 4000000 in
set_option maxRecDepth 100000 in
theorem f_X11_readBindings_e (l : Launch) (g : im_G) (ad : Nat → Nat) (K : Nat → Int32 → Int32 → im_S → Option (Int32 × im_S)) {D dk : Nat} (hD1 : dk + 1 ≤ D) (hD2 : 3 ≤ D) (hK : kh_read l g ad K dk) (fu : Nat) (x1 : Int32) (S : im_S) (r : Int32) (S' : im_S) (hm : f_X11_readBindings K fu x1 S = some (r, S')) : im_E l g ad D yX11_readBindings cX11_readBindings 5 (some Jvm.ClassFile.FieldType.int) [.ref (ad 75), .int x1] S (some (.int r)) S' := by
  unfold f_X11_readBindings at hm
  refine is_met (own := RX11) (by decide +kernel) rfl (Nat.le_of_ble_eq_true rfl) (fun p e s m below meth c X => ?_)
  refine iv_iconst (pc := 0) X dX11_readBindings_0 ic_0 ?_
  refine iv_istore_n (pc := 1) X dX11_readBindings_1 (by decide) (lv' := [(2, .int 0), (0, .ref (ad 75)), (1, .int x1)]) rfl ?_
  refine iv_sub [1, 2, 0] (lv2 := [(0, .ref (ad 75)), (1, .int x1), (2, .int 0)]) rfl ?_
  exact f_X11_readBindings_L2_w K hD1 hD2 hK (fu := fu) l g ad X fu x1 0 S _ _ hm
def f_X11_readLoop (K : Nat → Int32 → Int32 → im_S → Option (Int32 × im_S)) (fu : Nat) (S : im_S) : Option (Int32 × im_S) := (f_X11_make 7 (S.1 75 10) S).bind (fun qS1 => (K 4 4 0 (uI qS1.2 75 10 ((qS1.2.1 75 10) + 1))).bind (fun qS4 => if (qS4.1 : Int32) ≠ (-1) then ((f_X11_layRow fu qS4.1 qS4.2).bind (fun qS8 => gd (in_b qS1.1 1200) (gd (in_b qS1.1 1200) ((f_X11_isWord 7 (uI (uI qS8.2 89 qS1.1.toNatClampNeg qS8.1) 90 qS1.1.toNatClampNeg qS4.1)).bind (fun qS11 => (f_X11_want qS11.1 qS11.2).bind (fun qS14 => if (qS14.1 : Int32) ≠ 0 then ((K 0 0 0 qS14.2).bind (fun qS18 => gd (in_b qS1.1 1200) (gd (in_b qS1.1 1200) (if ((upd (qS18.2.1 83) qS1.1.toNatClampNeg qS18.1) qS1.1.toNatClampNeg : Int32) = (-1) then (some ((-1), (uI qS18.2 83 qS1.1.toNatClampNeg qS18.1))) else ((f_X11_isWord 8 (uI qS18.2 83 qS1.1.toNatClampNeg qS18.1)).bind (fun qS22 => (f_X11_want qS22.1 qS22.2).bind (fun qS25 => if (qS25.1 : Int32) ≠ 0 then ((K 4 1000 0 qS25.2).bind (fun qS29 => if (qS29.1 : Int32) ≠ (-1) then ((f_X11_layRow fu qS29.1 qS29.2).bind (fun qS33 => gd (in_b qS1.1 1200) (gd (in_b qS1.1 1200) ((f_X11_isWord 9 (uI (uI qS33.2 91 qS1.1.toNatClampNeg qS33.1) 92 qS1.1.toNatClampNeg qS29.1)).bind (fun qS36 => (f_X11_want qS36.1 qS36.2).bind (fun qS39 => if (qS39.1 : Int32) ≠ 0 then ((K 0 0 0 qS39.2).bind (fun qS43 => gd (in_b qS1.1 1200) (gd (in_b qS1.1 1200) (if ((upd (qS43.2.1 84) qS1.1.toNatClampNeg qS43.1) qS1.1.toNatClampNeg : Int32) ≠ (-1) then (some (qS1.1, (uI qS43.2 84 qS1.1.toNatClampNeg qS43.1))) else (some ((-1), (uI qS43.2 84 qS1.1.toNatClampNeg qS43.1))))))) else (some ((-1), qS39.2)))))))) else (some ((-1), qS29.2)))) else (some ((-1), qS25.2))))))))) else (some ((-1), qS14.2)))))))) else (some ((-1), qS4.2))))
set_option maxHeartbeats 4000000 in
set_option maxRecDepth 100000 in
theorem f_X11_readLoop_e (l : Launch) (g : im_G) (ad : Nat → Nat) (K : Nat → Int32 → Int32 → im_S → Option (Int32 × im_S)) {D dk : Nat} (hD1 : dk + 1 ≤ D) (hD2 : 3 ≤ D) (hK : kh_read l g ad K dk) (fu : Nat) (S : im_S) (r : Int32) (S' : im_S) (hm : f_X11_readLoop K fu  S = some (r, S')) : im_E l g ad D yX11_readLoop cX11_readLoop 4 (some Jvm.ClassFile.FieldType.int) [.ref (ad 75)] S (some (.int r)) S' := by
  unfold f_X11_readLoop at hm
  refine is_met (own := RX11) (by decide +kernel) rfl (Nat.le_of_ble_eq_true rfl) (fun p e s m below meth c X => ?_)
  refine iv_aload_n (pc := 0) X dX11_readLoop_0 rfl ?_
  refine iv_bipush (pc := 1) X dX11_readLoop_1 bc_7 ?_
  refine iv_aload_n (pc := 3) X dX11_readLoop_3 rfl ?_
  refine gF_X11_231_75 (pc := 4) X dX11_readLoop_4 (x := S.1 75 10) rfl ?_
  obtain ⟨⟨r2, S1⟩, hc3, hm⟩ := bd_some hm
  refine cV_X11_276_75 (pc := 7) X [.int 7, .int (S.1 75 10)] [] 2 rfl (f_X11_make_e l g ad 7 (S.1 75 10) S _ _ hc3) (by show (_ : Nat) ≤ D; omega) (by show (_ : Nat) ≤ 40 * D; omega) (Nat.le_of_ble_eq_true rfl) rfl dX11_readLoop_7 ?_
  refine iv_istore_n (pc := 10) X dX11_readLoop_10 (by decide) (lv' := [(1, .int r2), (0, .ref (ad 75))]) rfl ?_
  refine iv_aload_n (pc := 11) X dX11_readLoop_11 rfl ?_
  refine iv_dup (pc := 12) X dX11_readLoop_12 rfl ?_
  refine gF_X11_231_75 (pc := 13) X dX11_readLoop_13 (x := S1.1 75 10) rfl ?_
  refine iv_iconst (pc := 16) X dX11_readLoop_16 ic_1 ?_
  refine iv_iadd (pc := 17) X dX11_readLoop_17 ?_
  refine pF_X11_231_75 (pc := 18) X dX11_readLoop_18 ?_
  refine iv_aload_n (pc := 21) X dX11_readLoop_21 rfl ?_
  refine iv_iconst (pc := 22) X dX11_readLoop_22 ic_4 ?_
  obtain ⟨⟨r5, S4⟩, hc6, hm⟩ := bd_some hm
  refine cV_X11_293_75 (pc := 23) X [.int 4] [] 1 rfl (hK.2.2.2.2.1 4 0 (uI S1 75 10 ((S1.1 75 10) + 1)) _ _ hc6) (by show (_ : Nat) ≤ D; omega) (by show (_ : Nat) ≤ 40 * D; omega) (Nat.le_of_ble_eq_true rfl) rfl dX11_readLoop_23 ?_
  refine iv_istore_n (pc := 26) X dX11_readLoop_26 (by decide) (lv' := [(2, .int r5), (1, .int r2), (0, .ref (ad 75))]) rfl ?_
  refine iv_iload_n (pc := 27) X dX11_readLoop_27 rfl ?_
  refine iv_iconst (pc := 28) X dX11_readLoop_28 ic_m1 ?_
  refine iv_icmp_ne (pc := 29) X dX11_readLoop_29 (tgt := 34) rfl (fun hb7 => ?_) (fun hb7 => ?_)
  · rw [if_pos hb7] at hm
    refine iv_aload_n (pc := 34) X dX11_readLoop_34 rfl ?_
    refine gF_X11_50_75 (pc := 35) X dX11_readLoop_35 ?_
    refine iv_iload_n (pc := 38) X dX11_readLoop_38 rfl ?_
    refine iv_aload_n (pc := 39) X dX11_readLoop_39 rfl ?_
    refine iv_iload_n (pc := 40) X dX11_readLoop_40 rfl ?_
    obtain ⟨⟨r9, S8⟩, hc10, hm⟩ := bd_some hm
    refine cV_X11_296_75 (pc := 41) X [.int r5] [.int r2, .ref (ad 89)] 1 rfl (f_X11_layRow_e l g ad fu r5 S4 _ _ hc10) (by show (_ : Nat) ≤ D; omega) (by show (_ : Nat) ≤ 40 * D; omega) (Nat.le_of_ble_eq_true rfl) rfl dX11_readLoop_41 ?_
    obtain ⟨hg, hm⟩ := gd_some hm
    refine aS_89 (pc := 44) X dX11_readLoop_44 hg ?_
    refine iv_aload_n (pc := 45) X dX11_readLoop_45 rfl ?_
    refine gF_X11_53_75 (pc := 46) X dX11_readLoop_46 ?_
    refine iv_iload_n (pc := 49) X dX11_readLoop_49 rfl ?_
    refine iv_iload_n (pc := 50) X dX11_readLoop_50 rfl ?_
    obtain ⟨hg, hm⟩ := gd_some hm
    refine aS_90 (pc := 51) X dX11_readLoop_51 hg ?_
    refine iv_aload_n (pc := 52) X dX11_readLoop_52 rfl ?_
    refine iv_aload_n (pc := 53) X dX11_readLoop_53 rfl ?_
    refine iv_bipush (pc := 54) X dX11_readLoop_54 bc_7 ?_
    obtain ⟨⟨r12, S11⟩, hc13, hm⟩ := bd_some hm
    refine cV_X11_261_75 (pc := 56) X [.int 7] [.ref (ad 75)] 1 rfl (f_X11_isWord_e l g ad 7 (uI (uI S8 89 r2.toNatClampNeg r9) 90 r2.toNatClampNeg r5) _ _ hc13) (by show (_ : Nat) ≤ D; omega) (by show (_ : Nat) ≤ 40 * D; omega) (Nat.le_of_ble_eq_true rfl) rfl dX11_readLoop_56 ?_
    obtain ⟨⟨r15, S14⟩, hc16, hm⟩ := bd_some hm
    refine cV_X11_245_75 (pc := 59) X [.int r12] [] 1 rfl (f_X11_want_e l g ad r12 S11 _ _ hc16) (by show (_ : Nat) ≤ D; omega) (by show (_ : Nat) ≤ 40 * D; omega) (Nat.le_of_ble_eq_true rfl) rfl dX11_readLoop_59 ?_
    refine iv_if_ne (pc := 62) X dX11_readLoop_62 (tgt := 67) rfl (fun hb17 => ?_) (fun hb17 => ?_)
    · rw [if_pos hb17] at hm
      refine iv_aload_n (pc := 67) X dX11_readLoop_67 rfl ?_
      refine gF_X11_32_75 (pc := 68) X dX11_readLoop_68 ?_
      refine iv_iload_n (pc := 71) X dX11_readLoop_71 rfl ?_
      refine iv_aload_n (pc := 72) X dX11_readLoop_72 rfl ?_
      obtain ⟨⟨r19, S18⟩, hc20, hm⟩ := bd_some hm
      refine cV_X11_257_75 (pc := 73) X [] [.int r2, .ref (ad 83)] 0 rfl (hK.1 0 0 S14 _ _ hc20) (by show (_ : Nat) ≤ D; omega) (by show (_ : Nat) ≤ 40 * D; omega) (Nat.le_of_ble_eq_true rfl) rfl dX11_readLoop_73 ?_
      obtain ⟨hg, hm⟩ := gd_some hm
      refine aS_83 (pc := 76) X dX11_readLoop_76 hg ?_
      refine iv_aload_n (pc := 77) X dX11_readLoop_77 rfl ?_
      refine gF_X11_32_75 (pc := 78) X dX11_readLoop_78 ?_
      refine iv_iload_n (pc := 81) X dX11_readLoop_81 rfl ?_
      obtain ⟨hg, hm⟩ := gd_some hm
      refine aL_83 (pc := 82) X dX11_readLoop_82 hg (x := (upd (S18.1 83) r2.toNatClampNeg r19) r2.toNatClampNeg) rfl ?_
      refine iv_iconst (pc := 83) X dX11_readLoop_83 ic_m1 ?_
      refine iv_icmp_eq (pc := 84) X dX11_readLoop_84 (tgt := 100) rfl (fun hb21 => ?_) (fun hb21 => ?_)
      · rw [if_pos hb21] at hm
        refine iv_iconst (pc := 100) X dX11_readLoop_100 ic_m1 ?_
        cases hm
        exact is_iret (pc := 101) X dX11_readLoop_101
      · rw [if_neg hb21] at hm
        refine iv_aload_n (pc := 87) X dX11_readLoop_87 rfl ?_
        refine iv_aload_n (pc := 88) X dX11_readLoop_88 rfl ?_
        refine iv_bipush (pc := 89) X dX11_readLoop_89 bc_8 ?_
        obtain ⟨⟨r23, S22⟩, hc24, hm⟩ := bd_some hm
        refine cV_X11_261_75 (pc := 91) X [.int 8] [.ref (ad 75)] 1 rfl (f_X11_isWord_e l g ad 8 (uI S18 83 r2.toNatClampNeg r19) _ _ hc24) (by show (_ : Nat) ≤ D; omega) (by show (_ : Nat) ≤ 40 * D; omega) (Nat.le_of_ble_eq_true rfl) rfl dX11_readLoop_91 ?_
        obtain ⟨⟨r26, S25⟩, hc27, hm⟩ := bd_some hm
        refine cV_X11_245_75 (pc := 94) X [.int r23] [] 1 rfl (f_X11_want_e l g ad r23 S22 _ _ hc27) (by show (_ : Nat) ≤ D; omega) (by show (_ : Nat) ≤ 40 * D; omega) (Nat.le_of_ble_eq_true rfl) rfl dX11_readLoop_94 ?_
        refine iv_if_ne (pc := 97) X dX11_readLoop_97 (tgt := 102) rfl (fun hb28 => ?_) (fun hb28 => ?_)
        · rw [if_pos hb28] at hm
          refine iv_aload_n (pc := 102) X dX11_readLoop_102 rfl ?_
          refine iv_sipush (pc := 103) X dX11_readLoop_103 sc_1000 ?_
          obtain ⟨⟨r30, S29⟩, hc31, hm⟩ := bd_some hm
          refine cV_X11_293_75 (pc := 106) X [.int 1000] [] 1 rfl (hK.2.2.2.2.1 1000 0 S25 _ _ hc31) (by show (_ : Nat) ≤ D; omega) (by show (_ : Nat) ≤ 40 * D; omega) (Nat.le_of_ble_eq_true rfl) rfl dX11_readLoop_106 ?_
          refine iv_istore_n (pc := 109) X dX11_readLoop_109 (by decide) (lv' := [(3, .int r30), (2, .int r5), (1, .int r2), (0, .ref (ad 75))]) rfl ?_
          refine iv_iload_n (pc := 110) X dX11_readLoop_110 rfl ?_
          refine iv_iconst (pc := 111) X dX11_readLoop_111 ic_m1 ?_
          refine iv_icmp_ne (pc := 112) X dX11_readLoop_112 (tgt := 117) rfl (fun hb32 => ?_) (fun hb32 => ?_)
          · rw [if_pos hb32] at hm
            refine iv_aload_n (pc := 117) X dX11_readLoop_117 rfl ?_
            refine gF_X11_56_75 (pc := 118) X dX11_readLoop_118 ?_
            refine iv_iload_n (pc := 121) X dX11_readLoop_121 rfl ?_
            refine iv_aload_n (pc := 122) X dX11_readLoop_122 rfl ?_
            refine iv_iload_n (pc := 123) X dX11_readLoop_123 rfl ?_
            obtain ⟨⟨r34, S33⟩, hc35, hm⟩ := bd_some hm
            refine cV_X11_296_75 (pc := 124) X [.int r30] [.int r2, .ref (ad 91)] 1 rfl (f_X11_layRow_e l g ad fu r30 S29 _ _ hc35) (by show (_ : Nat) ≤ D; omega) (by show (_ : Nat) ≤ 40 * D; omega) (Nat.le_of_ble_eq_true rfl) rfl dX11_readLoop_124 ?_
            obtain ⟨hg, hm⟩ := gd_some hm
            refine aS_91 (pc := 127) X dX11_readLoop_127 hg ?_
            refine iv_aload_n (pc := 128) X dX11_readLoop_128 rfl ?_
            refine gF_X11_59_75 (pc := 129) X dX11_readLoop_129 ?_
            refine iv_iload_n (pc := 132) X dX11_readLoop_132 rfl ?_
            refine iv_iload_n (pc := 133) X dX11_readLoop_133 rfl ?_
            obtain ⟨hg, hm⟩ := gd_some hm
            refine aS_92 (pc := 134) X dX11_readLoop_134 hg ?_
            refine iv_aload_n (pc := 135) X dX11_readLoop_135 rfl ?_
            refine iv_aload_n (pc := 136) X dX11_readLoop_136 rfl ?_
            refine iv_bipush (pc := 137) X dX11_readLoop_137 bc_9 ?_
            obtain ⟨⟨r37, S36⟩, hc38, hm⟩ := bd_some hm
            refine cV_X11_261_75 (pc := 139) X [.int 9] [.ref (ad 75)] 1 rfl (f_X11_isWord_e l g ad 9 (uI (uI S33 91 r2.toNatClampNeg r34) 92 r2.toNatClampNeg r30) _ _ hc38) (by show (_ : Nat) ≤ D; omega) (by show (_ : Nat) ≤ 40 * D; omega) (Nat.le_of_ble_eq_true rfl) rfl dX11_readLoop_139 ?_
            obtain ⟨⟨r40, S39⟩, hc41, hm⟩ := bd_some hm
            refine cV_X11_245_75 (pc := 142) X [.int r37] [] 1 rfl (f_X11_want_e l g ad r37 S36 _ _ hc41) (by show (_ : Nat) ≤ D; omega) (by show (_ : Nat) ≤ 40 * D; omega) (Nat.le_of_ble_eq_true rfl) rfl dX11_readLoop_142 ?_
            refine iv_if_ne (pc := 145) X dX11_readLoop_145 (tgt := 150) rfl (fun hb42 => ?_) (fun hb42 => ?_)
            · rw [if_pos hb42] at hm
              refine iv_aload_n (pc := 150) X dX11_readLoop_150 rfl ?_
              refine gF_X11_35_75 (pc := 151) X dX11_readLoop_151 ?_
              refine iv_iload_n (pc := 154) X dX11_readLoop_154 rfl ?_
              refine iv_aload_n (pc := 155) X dX11_readLoop_155 rfl ?_
              obtain ⟨⟨r44, S43⟩, hc45, hm⟩ := bd_some hm
              refine cV_X11_257_75 (pc := 156) X [] [.int r2, .ref (ad 84)] 0 rfl (hK.1 0 0 S39 _ _ hc45) (by show (_ : Nat) ≤ D; omega) (by show (_ : Nat) ≤ 40 * D; omega) (Nat.le_of_ble_eq_true rfl) rfl dX11_readLoop_156 ?_
              obtain ⟨hg, hm⟩ := gd_some hm
              refine aS_84 (pc := 159) X dX11_readLoop_159 hg ?_
              refine iv_aload_n (pc := 160) X dX11_readLoop_160 rfl ?_
              refine gF_X11_35_75 (pc := 161) X dX11_readLoop_161 ?_
              refine iv_iload_n (pc := 164) X dX11_readLoop_164 rfl ?_
              obtain ⟨hg, hm⟩ := gd_some hm
              refine aL_84 (pc := 165) X dX11_readLoop_165 hg (x := (upd (S43.1 84) r2.toNatClampNeg r44) r2.toNatClampNeg) rfl ?_
              refine iv_iconst (pc := 166) X dX11_readLoop_166 ic_m1 ?_
              refine iv_icmp_ne (pc := 167) X dX11_readLoop_167 (tgt := 174) rfl (fun hb46 => ?_) (fun hb46 => ?_)
              · rw [if_pos hb46] at hm
                refine iv_iload_n (pc := 174) X dX11_readLoop_174 rfl ?_
                cases hm
                exact is_iret (pc := 175) X dX11_readLoop_175
              · rw [if_neg hb46] at hm
                refine iv_iconst (pc := 170) X dX11_readLoop_170 ic_m1 ?_
                refine iv_goto (pc := 171) X dX11_readLoop_171 (tgt := 175) rfl ?_
                cases hm
                exact is_iret (pc := 175) X dX11_readLoop_175
            · rw [if_neg hb42] at hm
              refine iv_iconst (pc := 148) X dX11_readLoop_148 ic_m1 ?_
              cases hm
              exact is_iret (pc := 149) X dX11_readLoop_149
          · rw [if_neg hb32] at hm
            refine iv_iconst (pc := 115) X dX11_readLoop_115 ic_m1 ?_
            cases hm
            exact is_iret (pc := 116) X dX11_readLoop_116
        · rw [if_neg hb28] at hm
          refine iv_iconst (pc := 100) X dX11_readLoop_100 ic_m1 ?_
          cases hm
          exact is_iret (pc := 101) X dX11_readLoop_101
    · rw [if_neg hb17] at hm
      refine iv_iconst (pc := 65) X dX11_readLoop_65 ic_m1 ?_
      cases hm
      exact is_iret (pc := 66) X dX11_readLoop_66
  · rw [if_neg hb7] at hm
    refine iv_iconst (pc := 32) X dX11_readLoop_32 ic_m1 ?_
    cases hm
    exact is_iret (pc := 33) X dX11_readLoop_33
def f_X11_readSigns_L15 (K : Nat → Int32 → Int32 → im_S → Option (Int32 × im_S)) (fu : Nat) : Nat → Int32 → Int32 → Int32 → im_S → Option (Int32 × im_S)
  | 0, _, _, _, _ => none
  | nf + 1, z1, z2, z3, S => (f_X11_firm S).bind (fun qS1 => if (qS1.1 : Int32) < z1 then (some (z2, qS1.2)) else ((f_X11_firm qS1.2).bind (fun qS5 => if (z3 : Int32) < qS5.1 then (some (z2, qS5.2)) else ((f_X11_firm qS5.2).bind (fun qS9 => (f_X11_make 9 (qS9.2.1 75 10) qS9.2).bind (fun qS12 => gd (in_b (qS12.2.1 75 10) 502) (gd (in_b qS12.1 1200) (gd (in_b z2 1200) (gd (in_b qS12.1 1200) (gd (in_b qS12.1 1200) ((K 6 (qS9.1 + 1) 0 (uI (uI (uI (uI qS12.2 86 qS12.1.toNatClampNeg ((qS12.2.1 78) ((qS12.2.1 75 10).toNatClampNeg))) 82 qS12.1.toNatClampNeg ((qS12.2.1 82) z2.toNatClampNeg)) 75 10 ((qS12.2.1 75 10) + 1)) 83 qS12.1.toNatClampNeg z2)).bind (fun qS15 => gd (in_b qS12.1 1200) (gd (in_b qS12.1 1200) (if ((upd (qS15.2.1 84) qS12.1.toNatClampNeg qS15.1) qS12.1.toNatClampNeg : Int32) ≠ (-1) then (if (qS9.1 : Int32) ≠ 3 then (f_X11_readSigns_L15 K fu nf z1 qS12.1 qS9.1 (uI qS15.2 84 qS12.1.toNatClampNeg qS15.1)) else (f_X11_readSigns_L15 K fu nf z1 qS12.1 2 (uI qS15.2 84 qS12.1.toNatClampNeg qS15.1))) else (some ((-1), (uI qS15.2 84 qS12.1.toNatClampNeg qS15.1)))))))))))))))))
set_option maxHeartbeats 4000000 in
set_option maxRecDepth 100000 in
theorem f_X11_readSigns_L15_w {l : Launch} {g : im_G} {ad : Nat → Nat} (K : Nat → Int32 → Int32 → im_S → Option (Int32 × im_S)) {D dk : Nat} (hD1 : dk + 1 ≤ D) (hD2 : 3 ≤ D) (hK : kh_read l g ad K dk) {fu : Nat} (l0 : Launch) (g0 : im_G) (ad0 : Nat → Nat) {p : Program} {e : Env} {s : State} {m : MethodId} {below : List Frame} {meth : Method} {c : Code} {args : Array Value} (X : im_X p l s m args meth c g cX11_readSigns 6 RX11 (some Jvm.ClassFile.FieldType.int)) : ∀ (nf : Nat) (z1 : Int32) (z2 : Int32) (z3 : Int32) (S : im_S) (r : Int32) (S' : im_S), f_X11_readSigns_L15 K fu nf z1 z2 z3 S = some (r, S') → im_V p l e (im_R D 0 0) s m args below meth c g 6 (im_Z below g ad args s (some (.int r)) S') ad im_N (im_cn g ad S) 0 0 15 [(0, .ref (ad 75)), (1, .int z1), (2, .int z2), (3, .int z3)] [] := by
  intro nf
  induction nf with
  | zero =>
    intro z1 z2 z3 S r S' hm
    cases hm
  | succ nf ih =>
    intro z1 z2 z3 S r S' hm
    unfold f_X11_readSigns_L15 at hm
    refine iv_aload_n (pc := 15) X dX11_readSigns_15 rfl ?_
    obtain ⟨⟨r2, S1⟩, hc3, hm⟩ := bd_some hm
    refine cV_X11_302_75 (pc := 16) X [] [] 0 rfl (f_X11_firm_e l g ad  S _ _ hc3) (by show (_ : Nat) ≤ D; omega) (by show (_ : Nat) ≤ 40 * D; omega) (Nat.le_of_ble_eq_true rfl) rfl dX11_readSigns_16 ?_
    refine iv_iload_n (pc := 19) X dX11_readSigns_19 rfl ?_
    refine iv_icmp_lt (pc := 20) X dX11_readSigns_20 (tgt := 143) rfl (fun hb4 => ?_) (fun hb4 => ?_)
    · rw [if_pos hb4] at hm
      refine iv_iload_n (pc := 143) X dX11_readSigns_143 rfl ?_
      cases hm
      exact is_iret (pc := 144) X dX11_readSigns_144
    · rw [if_neg hb4] at hm
      refine iv_aload_n (pc := 23) X dX11_readSigns_23 rfl ?_
      obtain ⟨⟨r6, S5⟩, hc7, hm⟩ := bd_some hm
      refine cV_X11_302_75 (pc := 24) X [] [] 0 rfl (f_X11_firm_e l g ad  S1 _ _ hc7) (by show (_ : Nat) ≤ D; omega) (by show (_ : Nat) ≤ 40 * D; omega) (Nat.le_of_ble_eq_true rfl) rfl dX11_readSigns_24 ?_
      refine iv_iload_n (pc := 27) X dX11_readSigns_27 rfl ?_
      refine iv_icmp_gt (pc := 28) X dX11_readSigns_28 (tgt := 143) rfl (fun hb8 => ?_) (fun hb8 => ?_)
      · rw [if_pos hb8] at hm
        refine iv_iload_n (pc := 143) X dX11_readSigns_143 rfl ?_
        cases hm
        exact is_iret (pc := 144) X dX11_readSigns_144
      · rw [if_neg hb8] at hm
        refine iv_aload_n (pc := 31) X dX11_readSigns_31 rfl ?_
        obtain ⟨⟨r10, S9⟩, hc11, hm⟩ := bd_some hm
        refine cV_X11_302_75 (pc := 32) X [] [] 0 rfl (f_X11_firm_e l g ad  S5 _ _ hc11) (by show (_ : Nat) ≤ D; omega) (by show (_ : Nat) ≤ 40 * D; omega) (Nat.le_of_ble_eq_true rfl) rfl dX11_readSigns_32 ?_
        refine iv_istore (pc := 35) X dX11_readSigns_35 (by decide) (lv' := [(4, .int r10), (0, .ref (ad 75)), (1, .int z1), (2, .int z2), (3, .int z3)]) rfl ?_
        refine iv_aload_n (pc := 37) X dX11_readSigns_37 rfl ?_
        refine iv_bipush (pc := 38) X dX11_readSigns_38 bc_9 ?_
        refine iv_aload_n (pc := 40) X dX11_readSigns_40 rfl ?_
        refine gF_X11_231_75 (pc := 41) X dX11_readSigns_41 (x := S9.1 75 10) rfl ?_
        obtain ⟨⟨r13, S12⟩, hc14, hm⟩ := bd_some hm
        refine cV_X11_276_75 (pc := 44) X [.int 9, .int (S9.1 75 10)] [] 2 rfl (f_X11_make_e l g ad 9 (S9.1 75 10) S9 _ _ hc14) (by show (_ : Nat) ≤ D; omega) (by show (_ : Nat) ≤ 40 * D; omega) (Nat.le_of_ble_eq_true rfl) rfl dX11_readSigns_44 ?_
        refine iv_istore (pc := 47) X dX11_readSigns_47 (by decide) (lv' := [(5, .int r13), (4, .int r10), (0, .ref (ad 75)), (1, .int z1), (2, .int z2), (3, .int z3)]) rfl ?_
        refine iv_aload_n (pc := 49) X dX11_readSigns_49 rfl ?_
        refine gF_X11_41_75 (pc := 50) X dX11_readSigns_50 ?_
        refine iv_iload (pc := 53) X dX11_readSigns_53 rfl ?_
        refine iv_aload_n (pc := 55) X dX11_readSigns_55 rfl ?_
        refine gF_X11_16_75 (pc := 56) X dX11_readSigns_56 ?_
        refine iv_aload_n (pc := 59) X dX11_readSigns_59 rfl ?_
        refine gF_X11_231_75 (pc := 60) X dX11_readSigns_60 (x := S12.1 75 10) rfl ?_
        obtain ⟨hg, hm⟩ := gd_some hm
        refine aL_78 (pc := 63) X dX11_readSigns_63 hg (x := (S12.1 78) ((S12.1 75 10).toNatClampNeg)) rfl ?_
        obtain ⟨hg, hm⟩ := gd_some hm
        refine aS_86 (pc := 64) X dX11_readSigns_64 hg ?_
        refine iv_aload_n (pc := 65) X dX11_readSigns_65 rfl ?_
        refine gF_X11_29_75 (pc := 66) X dX11_readSigns_66 ?_
        refine iv_iload (pc := 69) X dX11_readSigns_69 rfl ?_
        refine iv_aload_n (pc := 71) X dX11_readSigns_71 rfl ?_
        refine gF_X11_29_75 (pc := 72) X dX11_readSigns_72 ?_
        refine iv_iload_n (pc := 75) X dX11_readSigns_75 rfl ?_
        obtain ⟨hg, hm⟩ := gd_some hm
        refine aL_82 (pc := 76) X dX11_readSigns_76 hg (x := (S12.1 82) z2.toNatClampNeg) rfl ?_
        obtain ⟨hg, hm⟩ := gd_some hm
        refine aS_82 (pc := 77) X dX11_readSigns_77 hg ?_
        refine iv_aload_n (pc := 78) X dX11_readSigns_78 rfl ?_
        refine iv_dup (pc := 79) X dX11_readSigns_79 rfl ?_
        refine gF_X11_231_75 (pc := 80) X dX11_readSigns_80 (x := S12.1 75 10) rfl ?_
        refine iv_iconst (pc := 83) X dX11_readSigns_83 ic_1 ?_
        refine iv_iadd (pc := 84) X dX11_readSigns_84 ?_
        refine pF_X11_231_75 (pc := 85) X dX11_readSigns_85 ?_
        refine iv_aload_n (pc := 88) X dX11_readSigns_88 rfl ?_
        refine gF_X11_32_75 (pc := 89) X dX11_readSigns_89 ?_
        refine iv_iload (pc := 92) X dX11_readSigns_92 rfl ?_
        refine iv_iload_n (pc := 94) X dX11_readSigns_94 rfl ?_
        obtain ⟨hg, hm⟩ := gd_some hm
        refine aS_83 (pc := 95) X dX11_readSigns_95 hg ?_
        refine iv_aload_n (pc := 96) X dX11_readSigns_96 rfl ?_
        refine gF_X11_35_75 (pc := 97) X dX11_readSigns_97 ?_
        refine iv_iload (pc := 100) X dX11_readSigns_100 rfl ?_
        refine iv_aload_n (pc := 102) X dX11_readSigns_102 rfl ?_
        refine iv_iload (pc := 103) X dX11_readSigns_103 rfl ?_
        refine iv_iconst (pc := 105) X dX11_readSigns_105 ic_1 ?_
        refine iv_iadd (pc := 106) X dX11_readSigns_106 ?_
        obtain ⟨⟨r16, S15⟩, hc17, hm⟩ := bd_some hm
        refine cV_X11_273_75 (pc := 107) X [.int (r10 + 1)] [.int r13, .ref (ad 84)] 1 rfl (hK.2.2.2.2.2.2.1 (r10 + 1) 0 (uI (uI (uI (uI S12 86 r13.toNatClampNeg ((S12.1 78) ((S12.1 75 10).toNatClampNeg))) 82 r13.toNatClampNeg ((S12.1 82) z2.toNatClampNeg)) 75 10 ((S12.1 75 10) + 1)) 83 r13.toNatClampNeg z2) _ _ hc17) (by show (_ : Nat) ≤ D; omega) (by show (_ : Nat) ≤ 40 * D; omega) (Nat.le_of_ble_eq_true rfl) rfl dX11_readSigns_107 ?_
        obtain ⟨hg, hm⟩ := gd_some hm
        refine aS_84 (pc := 110) X dX11_readSigns_110 hg ?_
        refine iv_aload_n (pc := 111) X dX11_readSigns_111 rfl ?_
        refine gF_X11_35_75 (pc := 112) X dX11_readSigns_112 ?_
        refine iv_iload (pc := 115) X dX11_readSigns_115 rfl ?_
        obtain ⟨hg, hm⟩ := gd_some hm
        refine aL_84 (pc := 117) X dX11_readSigns_117 hg (x := (upd (S15.1 84) r13.toNatClampNeg r16) r13.toNatClampNeg) rfl ?_
        refine iv_iconst (pc := 118) X dX11_readSigns_118 ic_m1 ?_
        refine iv_icmp_ne (pc := 119) X dX11_readSigns_119 (tgt := 124) rfl (fun hb18 => ?_) (fun hb18 => ?_)
        · rw [if_pos hb18] at hm
          refine iv_iload (pc := 124) X dX11_readSigns_124 rfl ?_
          refine iv_iconst (pc := 126) X dX11_readSigns_126 ic_3 ?_
          refine iv_icmp_ne (pc := 127) X dX11_readSigns_127 (tgt := 134) rfl (fun hb19 => ?_) (fun hb19 => ?_)
          · rw [if_pos hb19] at hm
            refine iv_iload (pc := 134) X dX11_readSigns_134 rfl ?_
            refine iv_istore_n (pc := 136) X dX11_readSigns_136 (by decide) (lv' := [(3, .int r10), (5, .int r13), (4, .int r10), (0, .ref (ad 75)), (1, .int z1), (2, .int z2)]) rfl ?_
            refine iv_iload (pc := 137) X dX11_readSigns_137 rfl ?_
            refine iv_istore_n (pc := 139) X dX11_readSigns_139 (by decide) (lv' := [(2, .int r13), (3, .int r10), (5, .int r13), (4, .int r10), (0, .ref (ad 75)), (1, .int z1)]) rfl ?_
            refine iv_goto (pc := 140) X dX11_readSigns_140 (tgt := 15) rfl ?_
            refine iv_sub [4, 5, 0, 1] (lv2 := [(0, .ref (ad 75)), (1, .int z1), (2, .int r13), (3, .int r10)]) rfl ?_
            exact ih z1 r13 r10 (uI S15 84 r13.toNatClampNeg r16) _ _ hm
          · rw [if_neg hb19] at hm
            refine iv_iconst (pc := 130) X dX11_readSigns_130 ic_2 ?_
            refine iv_goto (pc := 131) X dX11_readSigns_131 (tgt := 136) rfl ?_
            refine iv_istore_n (pc := 136) X dX11_readSigns_136 (by decide) (lv' := [(3, .int 2), (5, .int r13), (4, .int r10), (0, .ref (ad 75)), (1, .int z1), (2, .int z2)]) rfl ?_
            refine iv_iload (pc := 137) X dX11_readSigns_137 rfl ?_
            refine iv_istore_n (pc := 139) X dX11_readSigns_139 (by decide) (lv' := [(2, .int r13), (3, .int 2), (5, .int r13), (4, .int r10), (0, .ref (ad 75)), (1, .int z1)]) rfl ?_
            refine iv_goto (pc := 140) X dX11_readSigns_140 (tgt := 15) rfl ?_
            refine iv_sub [4, 5, 0, 1] (lv2 := [(0, .ref (ad 75)), (1, .int z1), (2, .int r13), (3, .int 2)]) rfl ?_
            exact ih z1 r13 2 (uI S15 84 r13.toNatClampNeg r16) _ _ hm
        · rw [if_neg hb18] at hm
          refine iv_iconst (pc := 122) X dX11_readSigns_122 ic_m1 ?_
          cases hm
          exact is_iret (pc := 123) X dX11_readSigns_123
def f_X11_readSigns (K : Nat → Int32 → Int32 → im_S → Option (Int32 × im_S)) (fu : Nat) (x1 : Int32) (S : im_S) : Option (Int32 × im_S) := (K 7 0 0 S).bind (fun qS1 => if (qS1.1 : Int32) ≠ (-1) then (f_X11_readSigns_L15 K fu fu x1 qS1.1 9 qS1.2) else (some ((-1), qS1.2)))
set_option maxHeartbeats 4000000 in
set_option maxRecDepth 100000 in
theorem f_X11_readSigns_e (l : Launch) (g : im_G) (ad : Nat → Nat) (K : Nat → Int32 → Int32 → im_S → Option (Int32 × im_S)) {D dk : Nat} (hD1 : dk + 1 ≤ D) (hD2 : 3 ≤ D) (hK : kh_read l g ad K dk) (fu : Nat) (x1 : Int32) (S : im_S) (r : Int32) (S' : im_S) (hm : f_X11_readSigns K fu x1 S = some (r, S')) : im_E l g ad D yX11_readSigns cX11_readSigns 6 (some Jvm.ClassFile.FieldType.int) [.ref (ad 75), .int x1] S (some (.int r)) S' := by
  unfold f_X11_readSigns at hm
  refine is_met (own := RX11) (by decide +kernel) rfl (Nat.le_of_ble_eq_true rfl) (fun p e s m below meth c X => ?_)
  refine iv_aload_n (pc := 0) X dX11_readSigns_0 rfl ?_
  obtain ⟨⟨r2, S1⟩, hc3, hm⟩ := bd_some hm
  refine cV_X11_299_75 (pc := 1) X [] [] 0 rfl (hK.2.2.2.2.2.2.2.1 0 0 S _ _ hc3) (by show (_ : Nat) ≤ D; omega) (by show (_ : Nat) ≤ 40 * D; omega) (Nat.le_of_ble_eq_true rfl) rfl dX11_readSigns_1 ?_
  refine iv_istore_n (pc := 4) X dX11_readSigns_4 (by decide) (lv' := [(2, .int r2), (0, .ref (ad 75)), (1, .int x1)]) rfl ?_
  refine iv_iload_n (pc := 5) X dX11_readSigns_5 rfl ?_
  refine iv_iconst (pc := 6) X dX11_readSigns_6 ic_m1 ?_
  refine iv_icmp_ne (pc := 7) X dX11_readSigns_7 (tgt := 12) rfl (fun hb4 => ?_) (fun hb4 => ?_)
  · rw [if_pos hb4] at hm
    refine iv_bipush (pc := 12) X dX11_readSigns_12 bc_9 ?_
    refine iv_istore_n (pc := 14) X dX11_readSigns_14 (by decide) (lv' := [(3, .int 9), (2, .int r2), (0, .ref (ad 75)), (1, .int x1)]) rfl ?_
    refine iv_sub [2, 3, 1, 0] (lv2 := [(0, .ref (ad 75)), (1, .int x1), (2, .int r2), (3, .int 9)]) rfl ?_
    exact f_X11_readSigns_L15_w K hD1 hD2 hK (fu := fu) l g ad X fu x1 r2 9 S1 _ _ hm
  · rw [if_neg hb4] at hm
    refine iv_iconst (pc := 10) X dX11_readSigns_10 ic_m1 ?_
    cases hm
    exact is_iret (pc := 11) X dX11_readSigns_11
def f_X11_readAhead_L150 (K : Nat → Int32 → Int32 → im_S → Option (Int32 × im_S)) (fu : Nat) : Nat → Int32 → Int32 → Int32 → im_S → Option (Int32 × im_S)
  | 0, _, _, _, _ => none
  | nf + 1, z1, z2, z3, S => if (z3 : Int32) = (-1) then (if (z2 : Int32) = (-1) then (some (z3, S)) else (if (z3 : Int32) ≠ (-1) then (gd (in_b z2 1200) (some (z1, (uI S 83 z2.toNatClampNeg z3)))) else (some (z3, S)))) else ((f_X11_isSign 91 S).bind (fun qS4 => if (qS4.1 : Int32) = 0 then (if (z2 : Int32) = (-1) then (some (z3, qS4.2)) else (if (z3 : Int32) ≠ (-1) then (gd (in_b z2 1200) (some (z1, (uI qS4.2 83 z2.toNatClampNeg z3)))) else (some (z3, qS4.2)))) else ((f_X11_make 10 (qS4.2.1 75 10) qS4.2).bind (fun qS10 => gd (in_b z3 1200) (gd (in_b qS10.1 1200) (gd (in_b qS10.1 1200) ((K 1 0 0 (uI (uI (uI qS10.2 82 qS10.1.toNatClampNeg ((qS10.2.1 82) z3.toNatClampNeg)) 75 10 ((qS10.2.1 75 10) + 1)) 83 qS10.1.toNatClampNeg z3)).bind (fun qS13 => gd (in_b qS10.1 1200) (gd (in_b qS10.1 1200) (if ((upd (qS13.2.1 84) qS10.1.toNatClampNeg qS13.1) qS10.1.toNatClampNeg : Int32) = (-1) then (f_X11_readAhead_L150 K fu nf z1 z2 (-1) (uI qS13.2 84 qS10.1.toNatClampNeg qS13.1)) else ((f_X11_isSign 93 (uI qS13.2 84 qS10.1.toNatClampNeg qS13.1)).bind (fun qS17 => (f_X11_want qS17.1 qS17.2).bind (fun qS20 => if (qS20.1 : Int32) ≠ 0 then (f_X11_readAhead_L150 K fu nf z1 z2 qS10.1 qS20.2) else (f_X11_readAhead_L150 K fu nf z1 z2 (-1) qS20.2))))))))))))))
set_option maxHeartbeats 4000000 in
set_option maxRecDepth 100000 in
theorem f_X11_readAhead_L150_w {l : Launch} {g : im_G} {ad : Nat → Nat} (K : Nat → Int32 → Int32 → im_S → Option (Int32 × im_S)) {D dk : Nat} (hD1 : dk + 1 ≤ D) (hD2 : 3 ≤ D) (hK : kh_read l g ad K dk) {fu : Nat} (l0 : Launch) (g0 : im_G) (ad0 : Nat → Nat) {p : Program} {e : Env} {s : State} {m : MethodId} {below : List Frame} {meth : Method} {c : Code} {args : Array Value} (X : im_X p l s m args meth c g cX11_readAhead 5 RX11 (some Jvm.ClassFile.FieldType.int)) : ∀ (nf : Nat) (z1 : Int32) (z2 : Int32) (z3 : Int32) (S : im_S) (r : Int32) (S' : im_S), f_X11_readAhead_L150 K fu nf z1 z2 z3 S = some (r, S') → im_V p l e (im_R D 0 0) s m args below meth c g 5 (im_Z below g ad args s (some (.int r)) S') ad im_N (im_cn g ad S) 0 0 150 [(0, .ref (ad 75)), (1, .int z1), (2, .int z2), (3, .int z3)] [] := by
  intro nf
  induction nf with
  | zero =>
    intro z1 z2 z3 S r S' hm
    cases hm
  | succ nf ih =>
    intro z1 z2 z3 S r S' hm
    unfold f_X11_readAhead_L150 at hm
    refine iv_iload_n (pc := 150) X dX11_readAhead_150 rfl ?_
    refine iv_iconst (pc := 151) X dX11_readAhead_151 ic_m1 ?_
    refine iv_icmp_eq (pc := 152) X dX11_readAhead_152 (tgt := 252) rfl (fun hb1 => ?_) (fun hb1 => ?_)
    · rw [if_pos hb1] at hm
      refine iv_iload_n (pc := 252) X dX11_readAhead_252 rfl ?_
      refine iv_iconst (pc := 253) X dX11_readAhead_253 ic_m1 ?_
      refine iv_icmp_eq (pc := 254) X dX11_readAhead_254 (tgt := 262) rfl (fun hb2 => ?_) (fun hb2 => ?_)
      · rw [if_pos hb2] at hm
        refine iv_iload_n (pc := 262) X dX11_readAhead_262 rfl ?_
        cases hm
        exact is_iret (pc := 263) X dX11_readAhead_263
      · rw [if_neg hb2] at hm
        refine iv_iload_n (pc := 257) X dX11_readAhead_257 rfl ?_
        refine iv_iconst (pc := 258) X dX11_readAhead_258 ic_m1 ?_
        refine iv_icmp_ne (pc := 259) X dX11_readAhead_259 (tgt := 264) rfl (fun hb3 => ?_) (fun hb3 => ?_)
        · rw [if_pos hb3] at hm
          refine iv_aload_n (pc := 264) X dX11_readAhead_264 rfl ?_
          refine gF_X11_32_75 (pc := 265) X dX11_readAhead_265 ?_
          refine iv_iload_n (pc := 268) X dX11_readAhead_268 rfl ?_
          refine iv_iload_n (pc := 269) X dX11_readAhead_269 rfl ?_
          obtain ⟨hg, hm⟩ := gd_some hm
          refine aS_83 (pc := 270) X dX11_readAhead_270 hg ?_
          refine iv_iload_n (pc := 271) X dX11_readAhead_271 rfl ?_
          cases hm
          exact is_iret (pc := 272) X dX11_readAhead_272
        · rw [if_neg hb3] at hm
          refine iv_iload_n (pc := 262) X dX11_readAhead_262 rfl ?_
          cases hm
          exact is_iret (pc := 263) X dX11_readAhead_263
    · rw [if_neg hb1] at hm
      refine iv_aload_n (pc := 155) X dX11_readAhead_155 rfl ?_
      refine iv_bipush (pc := 156) X dX11_readAhead_156 bc_91 ?_
      obtain ⟨⟨r5, S4⟩, hc6, hm⟩ := bd_some hm
      refine cV_X11_283_75 (pc := 158) X [.int 91] [] 1 rfl (f_X11_isSign_e l g ad 91 S _ _ hc6) (by show (_ : Nat) ≤ D; omega) (by show (_ : Nat) ≤ 40 * D; omega) (Nat.le_of_ble_eq_true rfl) rfl dX11_readAhead_158 ?_
      refine iv_if_eq (pc := 161) X dX11_readAhead_161 (tgt := 252) rfl (fun hb7 => ?_) (fun hb7 => ?_)
      · rw [if_pos hb7] at hm
        refine iv_iload_n (pc := 252) X dX11_readAhead_252 rfl ?_
        refine iv_iconst (pc := 253) X dX11_readAhead_253 ic_m1 ?_
        refine iv_icmp_eq (pc := 254) X dX11_readAhead_254 (tgt := 262) rfl (fun hb8 => ?_) (fun hb8 => ?_)
        · rw [if_pos hb8] at hm
          refine iv_iload_n (pc := 262) X dX11_readAhead_262 rfl ?_
          cases hm
          exact is_iret (pc := 263) X dX11_readAhead_263
        · rw [if_neg hb8] at hm
          refine iv_iload_n (pc := 257) X dX11_readAhead_257 rfl ?_
          refine iv_iconst (pc := 258) X dX11_readAhead_258 ic_m1 ?_
          refine iv_icmp_ne (pc := 259) X dX11_readAhead_259 (tgt := 264) rfl (fun hb9 => ?_) (fun hb9 => ?_)
          · rw [if_pos hb9] at hm
            refine iv_aload_n (pc := 264) X dX11_readAhead_264 rfl ?_
            refine gF_X11_32_75 (pc := 265) X dX11_readAhead_265 ?_
            refine iv_iload_n (pc := 268) X dX11_readAhead_268 rfl ?_
            refine iv_iload_n (pc := 269) X dX11_readAhead_269 rfl ?_
            obtain ⟨hg, hm⟩ := gd_some hm
            refine aS_83 (pc := 270) X dX11_readAhead_270 hg ?_
            refine iv_iload_n (pc := 271) X dX11_readAhead_271 rfl ?_
            cases hm
            exact is_iret (pc := 272) X dX11_readAhead_272
          · rw [if_neg hb9] at hm
            refine iv_iload_n (pc := 262) X dX11_readAhead_262 rfl ?_
            cases hm
            exact is_iret (pc := 263) X dX11_readAhead_263
      · rw [if_neg hb7] at hm
        refine iv_aload_n (pc := 164) X dX11_readAhead_164 rfl ?_
        refine iv_bipush (pc := 165) X dX11_readAhead_165 bc_10 ?_
        refine iv_aload_n (pc := 167) X dX11_readAhead_167 rfl ?_
        refine gF_X11_231_75 (pc := 168) X dX11_readAhead_168 (x := S4.1 75 10) rfl ?_
        obtain ⟨⟨r11, S10⟩, hc12, hm⟩ := bd_some hm
        refine cV_X11_276_75 (pc := 171) X [.int 10, .int (S4.1 75 10)] [] 2 rfl (f_X11_make_e l g ad 10 (S4.1 75 10) S4 _ _ hc12) (by show (_ : Nat) ≤ D; omega) (by show (_ : Nat) ≤ 40 * D; omega) (Nat.le_of_ble_eq_true rfl) rfl dX11_readAhead_171 ?_
        refine iv_istore (pc := 174) X dX11_readAhead_174 (by decide) (lv' := [(4, .int r11), (0, .ref (ad 75)), (1, .int z1), (2, .int z2), (3, .int z3)]) rfl ?_
        refine iv_aload_n (pc := 176) X dX11_readAhead_176 rfl ?_
        refine gF_X11_29_75 (pc := 177) X dX11_readAhead_177 ?_
        refine iv_iload (pc := 180) X dX11_readAhead_180 rfl ?_
        refine iv_aload_n (pc := 182) X dX11_readAhead_182 rfl ?_
        refine gF_X11_29_75 (pc := 183) X dX11_readAhead_183 ?_
        refine iv_iload_n (pc := 186) X dX11_readAhead_186 rfl ?_
        obtain ⟨hg, hm⟩ := gd_some hm
        refine aL_82 (pc := 187) X dX11_readAhead_187 hg (x := (S10.1 82) z3.toNatClampNeg) rfl ?_
        obtain ⟨hg, hm⟩ := gd_some hm
        refine aS_82 (pc := 188) X dX11_readAhead_188 hg ?_
        refine iv_aload_n (pc := 189) X dX11_readAhead_189 rfl ?_
        refine iv_dup (pc := 190) X dX11_readAhead_190 rfl ?_
        refine gF_X11_231_75 (pc := 191) X dX11_readAhead_191 (x := S10.1 75 10) rfl ?_
        refine iv_iconst (pc := 194) X dX11_readAhead_194 ic_1 ?_
        refine iv_iadd (pc := 195) X dX11_readAhead_195 ?_
        refine pF_X11_231_75 (pc := 196) X dX11_readAhead_196 ?_
        refine iv_aload_n (pc := 199) X dX11_readAhead_199 rfl ?_
        refine gF_X11_32_75 (pc := 200) X dX11_readAhead_200 ?_
        refine iv_iload (pc := 203) X dX11_readAhead_203 rfl ?_
        refine iv_iload_n (pc := 205) X dX11_readAhead_205 rfl ?_
        obtain ⟨hg, hm⟩ := gd_some hm
        refine aS_83 (pc := 206) X dX11_readAhead_206 hg ?_
        refine iv_aload_n (pc := 207) X dX11_readAhead_207 rfl ?_
        refine gF_X11_35_75 (pc := 208) X dX11_readAhead_208 ?_
        refine iv_iload (pc := 211) X dX11_readAhead_211 rfl ?_
        refine iv_aload_n (pc := 213) X dX11_readAhead_213 rfl ?_
        obtain ⟨⟨r14, S13⟩, hc15, hm⟩ := bd_some hm
        refine cV_X11_305_75 (pc := 214) X [] [.int r11, .ref (ad 84)] 0 rfl (hK.2.1 0 0 (uI (uI (uI S10 82 r11.toNatClampNeg ((S10.1 82) z3.toNatClampNeg)) 75 10 ((S10.1 75 10) + 1)) 83 r11.toNatClampNeg z3) _ _ hc15) (by show (_ : Nat) ≤ D; omega) (by show (_ : Nat) ≤ 40 * D; omega) (Nat.le_of_ble_eq_true rfl) rfl dX11_readAhead_214 ?_
        obtain ⟨hg, hm⟩ := gd_some hm
        refine aS_84 (pc := 217) X dX11_readAhead_217 hg ?_
        refine iv_aload_n (pc := 218) X dX11_readAhead_218 rfl ?_
        refine gF_X11_35_75 (pc := 219) X dX11_readAhead_219 ?_
        refine iv_iload (pc := 222) X dX11_readAhead_222 rfl ?_
        obtain ⟨hg, hm⟩ := gd_some hm
        refine aL_84 (pc := 224) X dX11_readAhead_224 hg (x := (upd (S13.1 84) r11.toNatClampNeg r14) r11.toNatClampNeg) rfl ?_
        refine iv_iconst (pc := 225) X dX11_readAhead_225 ic_m1 ?_
        refine iv_icmp_eq (pc := 226) X dX11_readAhead_226 (tgt := 242) rfl (fun hb16 => ?_) (fun hb16 => ?_)
        · rw [if_pos hb16] at hm
          refine iv_iconst (pc := 242) X dX11_readAhead_242 ic_m1 ?_
          refine iv_goto (pc := 243) X dX11_readAhead_243 (tgt := 248) rfl ?_
          refine iv_istore_n (pc := 248) X dX11_readAhead_248 (by decide) (lv' := [(3, .int (-1)), (4, .int r11), (0, .ref (ad 75)), (1, .int z1), (2, .int z2)]) rfl ?_
          refine iv_goto (pc := 249) X dX11_readAhead_249 (tgt := 150) rfl ?_
          refine iv_sub [2, 3, 4, 0] (lv2 := [(0, .ref (ad 75)), (1, .int z1), (2, .int z2), (3, .int (-1))]) rfl ?_
          exact ih z1 z2 (-1) (uI S13 84 r11.toNatClampNeg r14) _ _ hm
        · rw [if_neg hb16] at hm
          refine iv_aload_n (pc := 229) X dX11_readAhead_229 rfl ?_
          refine iv_aload_n (pc := 230) X dX11_readAhead_230 rfl ?_
          refine iv_bipush (pc := 231) X dX11_readAhead_231 bc_93 ?_
          obtain ⟨⟨r18, S17⟩, hc19, hm⟩ := bd_some hm
          refine cV_X11_283_75 (pc := 233) X [.int 93] [.ref (ad 75)] 1 rfl (f_X11_isSign_e l g ad 93 (uI S13 84 r11.toNatClampNeg r14) _ _ hc19) (by show (_ : Nat) ≤ D; omega) (by show (_ : Nat) ≤ 40 * D; omega) (Nat.le_of_ble_eq_true rfl) rfl dX11_readAhead_233 ?_
          obtain ⟨⟨r21, S20⟩, hc22, hm⟩ := bd_some hm
          refine cV_X11_245_75 (pc := 236) X [.int r18] [] 1 rfl (f_X11_want_e l g ad r18 S17 _ _ hc22) (by show (_ : Nat) ≤ D; omega) (by show (_ : Nat) ≤ 40 * D; omega) (Nat.le_of_ble_eq_true rfl) rfl dX11_readAhead_236 ?_
          refine iv_if_ne (pc := 239) X dX11_readAhead_239 (tgt := 246) rfl (fun hb23 => ?_) (fun hb23 => ?_)
          · rw [if_pos hb23] at hm
            refine iv_iload (pc := 246) X dX11_readAhead_246 rfl ?_
            refine iv_istore_n (pc := 248) X dX11_readAhead_248 (by decide) (lv' := [(3, .int r11), (4, .int r11), (0, .ref (ad 75)), (1, .int z1), (2, .int z2)]) rfl ?_
            refine iv_goto (pc := 249) X dX11_readAhead_249 (tgt := 150) rfl ?_
            refine iv_sub [2, 3, 4, 0] (lv2 := [(0, .ref (ad 75)), (1, .int z1), (2, .int z2), (3, .int r11)]) rfl ?_
            exact ih z1 z2 r11 S20 _ _ hm
          · rw [if_neg hb23] at hm
            refine iv_iconst (pc := 242) X dX11_readAhead_242 ic_m1 ?_
            refine iv_goto (pc := 243) X dX11_readAhead_243 (tgt := 248) rfl ?_
            refine iv_istore_n (pc := 248) X dX11_readAhead_248 (by decide) (lv' := [(3, .int (-1)), (4, .int r11), (0, .ref (ad 75)), (1, .int z1), (2, .int z2)]) rfl ?_
            refine iv_goto (pc := 249) X dX11_readAhead_249 (tgt := 150) rfl ?_
            refine iv_sub [2, 3, 4, 0] (lv2 := [(0, .ref (ad 75)), (1, .int z1), (2, .int z2), (3, .int (-1))]) rfl ?_
            exact ih z1 z2 (-1) S20 _ _ hm
def f_X11_readAhead_L4 (K : Nat → Int32 → Int32 → im_S → Option (Int32 × im_S)) (fu : Nat) : Nat → Int32 → Int32 → im_S → Option (Int32 × im_S)
  | 0, _, _, _ => none
  | nf + 1, z1, z2, S => (f_X11_isSign 45 S).bind (fun qS1 => if (qS1.1 : Int32) ≠ 0 then ((f_X11_make 8 (qS1.2.1 75 10) qS1.2).bind (fun qS5 => gd (in_b (qS5.2.1 75 10) 502) (gd (in_b qS5.1 1200) (if (z2 : Int32) ≠ (-1) then (gd (in_b z2 1200) (f_X11_readAhead_L4 K fu nf z1 qS5.1 (uI (uI (uI qS5.2 86 qS5.1.toNatClampNeg ((qS5.2.1 78) ((qS5.2.1 75 10).toNatClampNeg))) 75 10 ((qS5.2.1 75 10) + 1)) 83 z2.toNatClampNeg qS5.1))) else (f_X11_readAhead_L4 K fu nf qS5.1 qS5.1 (uI (uI qS5.2 86 qS5.1.toNatClampNeg ((qS5.2.1 78) ((qS5.2.1 75 10).toNatClampNeg))) 75 10 ((qS5.2.1 75 10) + 1))))))) else ((f_X11_isSign 33 qS1.2).bind (fun qS9 => if (qS9.1 : Int32) = 0 then ((f_X11_isSign 40 qS9.2).bind (fun qS13 => if (qS13.1 : Int32) = 0 then ((K 8 0 0 qS13.2).bind (fun qS17 => f_X11_readAhead_L150 K fu fu z1 z2 qS17.1 qS17.2)) else ((f_X11_make 12 (qS13.2.1 75 10) qS13.2).bind (fun qS20 => (K 1 0 0 (uI qS20.2 75 10 ((qS20.2.1 75 10) + 1))).bind (fun qS23 => gd (in_b qS20.1 1200) (gd (in_b qS20.1 1200) (if ((upd (qS23.2.1 83) qS20.1.toNatClampNeg qS23.1) qS20.1.toNatClampNeg : Int32) = (-1) then (some ((-1), (uI qS23.2 83 qS20.1.toNatClampNeg qS23.1))) else ((f_X11_isSign 41 (uI qS23.2 83 qS20.1.toNatClampNeg qS23.1)).bind (fun qS27 => (f_X11_want qS27.1 qS27.2).bind (fun qS30 => if (qS30.1 : Int32) ≠ 0 then (f_X11_readAhead_L150 K fu fu z1 z2 qS20.1 qS30.2) else (some ((-1), qS30.2)))))))))))) else ((f_X11_make 8 (qS9.2.1 75 10) qS9.2).bind (fun qS34 => gd (in_b (qS34.2.1 75 10) 502) (gd (in_b qS34.1 1200) (if (z2 : Int32) ≠ (-1) then (gd (in_b z2 1200) (f_X11_readAhead_L4 K fu nf z1 qS34.1 (uI (uI (uI qS34.2 86 qS34.1.toNatClampNeg ((qS34.2.1 78) ((qS34.2.1 75 10).toNatClampNeg))) 75 10 ((qS34.2.1 75 10) + 1)) 83 z2.toNatClampNeg qS34.1))) else (f_X11_readAhead_L4 K fu nf qS34.1 qS34.1 (uI (uI qS34.2 86 qS34.1.toNatClampNeg ((qS34.2.1 78) ((qS34.2.1 75 10).toNatClampNeg))) 75 10 ((qS34.2.1 75 10) + 1))))))))))
set_option maxHeartbeats 4000000 in
set_option maxRecDepth 100000 in
theorem f_X11_readAhead_L4_w {l : Launch} {g : im_G} {ad : Nat → Nat} (K : Nat → Int32 → Int32 → im_S → Option (Int32 × im_S)) {D dk : Nat} (hD1 : dk + 1 ≤ D) (hD2 : 3 ≤ D) (hK : kh_read l g ad K dk) {fu : Nat} (l0 : Launch) (g0 : im_G) (ad0 : Nat → Nat) {p : Program} {e : Env} {s : State} {m : MethodId} {below : List Frame} {meth : Method} {c : Code} {args : Array Value} (X : im_X p l s m args meth c g cX11_readAhead 5 RX11 (some Jvm.ClassFile.FieldType.int)) : ∀ (nf : Nat) (z1 : Int32) (z2 : Int32) (S : im_S) (r : Int32) (S' : im_S), f_X11_readAhead_L4 K fu nf z1 z2 S = some (r, S') → im_V p l e (im_R D 0 0) s m args below meth c g 5 (im_Z below g ad args s (some (.int r)) S') ad im_N (im_cn g ad S) 0 0 4 [(0, .ref (ad 75)), (1, .int z1), (2, .int z2)] [] := by
  intro nf
  induction nf with
  | zero =>
    intro z1 z2 S r S' hm
    cases hm
  | succ nf ih =>
    intro z1 z2 S r S' hm
    unfold f_X11_readAhead_L4 at hm
    refine iv_aload_n (pc := 4) X dX11_readAhead_4 rfl ?_
    refine iv_bipush (pc := 5) X dX11_readAhead_5 bc_45 ?_
    obtain ⟨⟨r2, S1⟩, hc3, hm⟩ := bd_some hm
    refine cV_X11_283_75 (pc := 7) X [.int 45] [] 1 rfl (f_X11_isSign_e l g ad 45 S _ _ hc3) (by show (_ : Nat) ≤ D; omega) (by show (_ : Nat) ≤ 40 * D; omega) (Nat.le_of_ble_eq_true rfl) rfl dX11_readAhead_7 ?_
    refine iv_if_ne (pc := 10) X dX11_readAhead_10 (tgt := 22) rfl (fun hb4 => ?_) (fun hb4 => ?_)
    · rw [if_pos hb4] at hm
      refine iv_aload_n (pc := 22) X dX11_readAhead_22 rfl ?_
      refine iv_bipush (pc := 23) X dX11_readAhead_23 bc_8 ?_
      refine iv_aload_n (pc := 25) X dX11_readAhead_25 rfl ?_
      refine gF_X11_231_75 (pc := 26) X dX11_readAhead_26 (x := S1.1 75 10) rfl ?_
      obtain ⟨⟨r6, S5⟩, hc7, hm⟩ := bd_some hm
      refine cV_X11_276_75 (pc := 29) X [.int 8, .int (S1.1 75 10)] [] 2 rfl (f_X11_make_e l g ad 8 (S1.1 75 10) S1 _ _ hc7) (by show (_ : Nat) ≤ D; omega) (by show (_ : Nat) ≤ 40 * D; omega) (Nat.le_of_ble_eq_true rfl) rfl dX11_readAhead_29 ?_
      refine iv_istore_n (pc := 32) X dX11_readAhead_32 (by decide) (lv' := [(3, .int r6), (0, .ref (ad 75)), (1, .int z1), (2, .int z2)]) rfl ?_
      refine iv_aload_n (pc := 33) X dX11_readAhead_33 rfl ?_
      refine gF_X11_41_75 (pc := 34) X dX11_readAhead_34 ?_
      refine iv_iload_n (pc := 37) X dX11_readAhead_37 rfl ?_
      refine iv_aload_n (pc := 38) X dX11_readAhead_38 rfl ?_
      refine gF_X11_16_75 (pc := 39) X dX11_readAhead_39 ?_
      refine iv_aload_n (pc := 42) X dX11_readAhead_42 rfl ?_
      refine gF_X11_231_75 (pc := 43) X dX11_readAhead_43 (x := S5.1 75 10) rfl ?_
      obtain ⟨hg, hm⟩ := gd_some hm
      refine aL_78 (pc := 46) X dX11_readAhead_46 hg (x := (S5.1 78) ((S5.1 75 10).toNatClampNeg)) rfl ?_
      obtain ⟨hg, hm⟩ := gd_some hm
      refine aS_86 (pc := 47) X dX11_readAhead_47 hg ?_
      refine iv_aload_n (pc := 48) X dX11_readAhead_48 rfl ?_
      refine iv_dup (pc := 49) X dX11_readAhead_49 rfl ?_
      refine gF_X11_231_75 (pc := 50) X dX11_readAhead_50 (x := S5.1 75 10) rfl ?_
      refine iv_iconst (pc := 53) X dX11_readAhead_53 ic_1 ?_
      refine iv_iadd (pc := 54) X dX11_readAhead_54 ?_
      refine pF_X11_231_75 (pc := 55) X dX11_readAhead_55 ?_
      refine iv_iload_n (pc := 58) X dX11_readAhead_58 rfl ?_
      refine iv_iconst (pc := 59) X dX11_readAhead_59 ic_m1 ?_
      refine iv_icmp_ne (pc := 60) X dX11_readAhead_60 (tgt := 68) rfl (fun hb8 => ?_) (fun hb8 => ?_)
      · rw [if_pos hb8] at hm
        refine iv_aload_n (pc := 68) X dX11_readAhead_68 rfl ?_
        refine gF_X11_32_75 (pc := 69) X dX11_readAhead_69 ?_
        refine iv_iload_n (pc := 72) X dX11_readAhead_72 rfl ?_
        refine iv_iload_n (pc := 73) X dX11_readAhead_73 rfl ?_
        obtain ⟨hg, hm⟩ := gd_some hm
        refine aS_83 (pc := 74) X dX11_readAhead_74 hg ?_
        refine iv_iload_n (pc := 75) X dX11_readAhead_75 rfl ?_
        refine iv_istore_n (pc := 76) X dX11_readAhead_76 (by decide) (lv' := [(2, .int r6), (3, .int r6), (0, .ref (ad 75)), (1, .int z1)]) rfl ?_
        refine iv_goto (pc := 77) X dX11_readAhead_77 (tgt := 4) rfl ?_
        refine iv_sub [2, 3, 0] (lv2 := [(0, .ref (ad 75)), (1, .int z1), (2, .int r6)]) rfl ?_
        exact ih z1 r6 (uI (uI (uI S5 86 r6.toNatClampNeg ((S5.1 78) ((S5.1 75 10).toNatClampNeg))) 75 10 ((S5.1 75 10) + 1)) 83 z2.toNatClampNeg r6) _ _ hm
      · rw [if_neg hb8] at hm
        refine iv_iload_n (pc := 63) X dX11_readAhead_63 rfl ?_
        refine iv_istore_n (pc := 64) X dX11_readAhead_64 (by decide) (lv' := [(1, .int r6), (3, .int r6), (0, .ref (ad 75)), (2, .int z2)]) rfl ?_
        refine iv_goto (pc := 65) X dX11_readAhead_65 (tgt := 75) rfl ?_
        refine iv_iload_n (pc := 75) X dX11_readAhead_75 rfl ?_
        refine iv_istore_n (pc := 76) X dX11_readAhead_76 (by decide) (lv' := [(2, .int r6), (1, .int r6), (3, .int r6), (0, .ref (ad 75))]) rfl ?_
        refine iv_goto (pc := 77) X dX11_readAhead_77 (tgt := 4) rfl ?_
        refine iv_sub [3, 1, 0] (lv2 := [(0, .ref (ad 75)), (1, .int r6), (2, .int r6)]) rfl ?_
        exact ih r6 r6 (uI (uI S5 86 r6.toNatClampNeg ((S5.1 78) ((S5.1 75 10).toNatClampNeg))) 75 10 ((S5.1 75 10) + 1)) _ _ hm
    · rw [if_neg hb4] at hm
      refine iv_aload_n (pc := 13) X dX11_readAhead_13 rfl ?_
      refine iv_bipush (pc := 14) X dX11_readAhead_14 bc_33 ?_
      obtain ⟨⟨r10, S9⟩, hc11, hm⟩ := bd_some hm
      refine cV_X11_283_75 (pc := 16) X [.int 33] [] 1 rfl (f_X11_isSign_e l g ad 33 S1 _ _ hc11) (by show (_ : Nat) ≤ D; omega) (by show (_ : Nat) ≤ 40 * D; omega) (Nat.le_of_ble_eq_true rfl) rfl dX11_readAhead_16 ?_
      refine iv_if_eq (pc := 19) X dX11_readAhead_19 (tgt := 80) rfl (fun hb12 => ?_) (fun hb12 => ?_)
      · rw [if_pos hb12] at hm
        refine iv_aload_n (pc := 80) X dX11_readAhead_80 rfl ?_
        refine iv_bipush (pc := 81) X dX11_readAhead_81 bc_40 ?_
        obtain ⟨⟨r14, S13⟩, hc15, hm⟩ := bd_some hm
        refine cV_X11_283_75 (pc := 83) X [.int 40] [] 1 rfl (f_X11_isSign_e l g ad 40 S9 _ _ hc15) (by show (_ : Nat) ≤ D; omega) (by show (_ : Nat) ≤ 40 * D; omega) (Nat.le_of_ble_eq_true rfl) rfl dX11_readAhead_83 ?_
        refine iv_if_eq (pc := 86) X dX11_readAhead_86 (tgt := 145) rfl (fun hb16 => ?_) (fun hb16 => ?_)
        · rw [if_pos hb16] at hm
          refine iv_aload_n (pc := 145) X dX11_readAhead_145 rfl ?_
          obtain ⟨⟨r18, S17⟩, hc19, hm⟩ := bd_some hm
          refine cV_X11_308_75 (pc := 146) X [] [] 0 rfl (hK.2.2.2.2.2.2.2.2.1 0 0 S13 _ _ hc19) (by show (_ : Nat) ≤ D; omega) (by show (_ : Nat) ≤ 40 * D; omega) (Nat.le_of_ble_eq_true rfl) rfl dX11_readAhead_146 ?_
          refine iv_istore_n (pc := 149) X dX11_readAhead_149 (by decide) (lv' := [(3, .int r18), (0, .ref (ad 75)), (1, .int z1), (2, .int z2)]) rfl ?_
          refine iv_sub [1, 2, 3, 0] (lv2 := [(0, .ref (ad 75)), (1, .int z1), (2, .int z2), (3, .int r18)]) rfl ?_
          exact f_X11_readAhead_L150_w K hD1 hD2 hK (fu := fu) l g ad X fu z1 z2 r18 S17 _ _ hm
        · rw [if_neg hb16] at hm
          refine iv_aload_n (pc := 89) X dX11_readAhead_89 rfl ?_
          refine iv_bipush (pc := 90) X dX11_readAhead_90 bc_12 ?_
          refine iv_aload_n (pc := 92) X dX11_readAhead_92 rfl ?_
          refine gF_X11_231_75 (pc := 93) X dX11_readAhead_93 (x := S13.1 75 10) rfl ?_
          obtain ⟨⟨r21, S20⟩, hc22, hm⟩ := bd_some hm
          refine cV_X11_276_75 (pc := 96) X [.int 12, .int (S13.1 75 10)] [] 2 rfl (f_X11_make_e l g ad 12 (S13.1 75 10) S13 _ _ hc22) (by show (_ : Nat) ≤ D; omega) (by show (_ : Nat) ≤ 40 * D; omega) (Nat.le_of_ble_eq_true rfl) rfl dX11_readAhead_96 ?_
          refine iv_istore_n (pc := 99) X dX11_readAhead_99 (by decide) (lv' := [(3, .int r21), (0, .ref (ad 75)), (1, .int z1), (2, .int z2)]) rfl ?_
          refine iv_aload_n (pc := 100) X dX11_readAhead_100 rfl ?_
          refine iv_dup (pc := 101) X dX11_readAhead_101 rfl ?_
          refine gF_X11_231_75 (pc := 102) X dX11_readAhead_102 (x := S20.1 75 10) rfl ?_
          refine iv_iconst (pc := 105) X dX11_readAhead_105 ic_1 ?_
          refine iv_iadd (pc := 106) X dX11_readAhead_106 ?_
          refine pF_X11_231_75 (pc := 107) X dX11_readAhead_107 ?_
          refine iv_aload_n (pc := 110) X dX11_readAhead_110 rfl ?_
          refine gF_X11_32_75 (pc := 111) X dX11_readAhead_111 ?_
          refine iv_iload_n (pc := 114) X dX11_readAhead_114 rfl ?_
          refine iv_aload_n (pc := 115) X dX11_readAhead_115 rfl ?_
          obtain ⟨⟨r24, S23⟩, hc25, hm⟩ := bd_some hm
          refine cV_X11_305_75 (pc := 116) X [] [.int r21, .ref (ad 83)] 0 rfl (hK.2.1 0 0 (uI S20 75 10 ((S20.1 75 10) + 1)) _ _ hc25) (by show (_ : Nat) ≤ D; omega) (by show (_ : Nat) ≤ 40 * D; omega) (Nat.le_of_ble_eq_true rfl) rfl dX11_readAhead_116 ?_
          obtain ⟨hg, hm⟩ := gd_some hm
          refine aS_83 (pc := 119) X dX11_readAhead_119 hg ?_
          refine iv_aload_n (pc := 120) X dX11_readAhead_120 rfl ?_
          refine gF_X11_32_75 (pc := 121) X dX11_readAhead_121 ?_
          refine iv_iload_n (pc := 124) X dX11_readAhead_124 rfl ?_
          obtain ⟨hg, hm⟩ := gd_some hm
          refine aL_83 (pc := 125) X dX11_readAhead_125 hg (x := (upd (S23.1 83) r21.toNatClampNeg r24) r21.toNatClampNeg) rfl ?_
          refine iv_iconst (pc := 126) X dX11_readAhead_126 ic_m1 ?_
          refine iv_icmp_eq (pc := 127) X dX11_readAhead_127 (tgt := 143) rfl (fun hb26 => ?_) (fun hb26 => ?_)
          · rw [if_pos hb26] at hm
            refine iv_iconst (pc := 143) X dX11_readAhead_143 ic_m1 ?_
            cases hm
            exact is_iret (pc := 144) X dX11_readAhead_144
          · rw [if_neg hb26] at hm
            refine iv_aload_n (pc := 130) X dX11_readAhead_130 rfl ?_
            refine iv_aload_n (pc := 131) X dX11_readAhead_131 rfl ?_
            refine iv_bipush (pc := 132) X dX11_readAhead_132 bc_41 ?_
            obtain ⟨⟨r28, S27⟩, hc29, hm⟩ := bd_some hm
            refine cV_X11_283_75 (pc := 134) X [.int 41] [.ref (ad 75)] 1 rfl (f_X11_isSign_e l g ad 41 (uI S23 83 r21.toNatClampNeg r24) _ _ hc29) (by show (_ : Nat) ≤ D; omega) (by show (_ : Nat) ≤ 40 * D; omega) (Nat.le_of_ble_eq_true rfl) rfl dX11_readAhead_134 ?_
            obtain ⟨⟨r31, S30⟩, hc32, hm⟩ := bd_some hm
            refine cV_X11_245_75 (pc := 137) X [.int r28] [] 1 rfl (f_X11_want_e l g ad r28 S27 _ _ hc32) (by show (_ : Nat) ≤ D; omega) (by show (_ : Nat) ≤ 40 * D; omega) (Nat.le_of_ble_eq_true rfl) rfl dX11_readAhead_137 ?_
            refine iv_if_ne (pc := 140) X dX11_readAhead_140 (tgt := 150) rfl (fun hb33 => ?_) (fun hb33 => ?_)
            · rw [if_pos hb33] at hm
              refine iv_sub [1, 2, 3, 0] (lv2 := [(0, .ref (ad 75)), (1, .int z1), (2, .int z2), (3, .int r21)]) rfl ?_
              exact f_X11_readAhead_L150_w K hD1 hD2 hK (fu := fu) l g ad X fu z1 z2 r21 S30 _ _ hm
            · rw [if_neg hb33] at hm
              refine iv_iconst (pc := 143) X dX11_readAhead_143 ic_m1 ?_
              cases hm
              exact is_iret (pc := 144) X dX11_readAhead_144
      · rw [if_neg hb12] at hm
        refine iv_aload_n (pc := 22) X dX11_readAhead_22 rfl ?_
        refine iv_bipush (pc := 23) X dX11_readAhead_23 bc_8 ?_
        refine iv_aload_n (pc := 25) X dX11_readAhead_25 rfl ?_
        refine gF_X11_231_75 (pc := 26) X dX11_readAhead_26 (x := S9.1 75 10) rfl ?_
        obtain ⟨⟨r35, S34⟩, hc36, hm⟩ := bd_some hm
        refine cV_X11_276_75 (pc := 29) X [.int 8, .int (S9.1 75 10)] [] 2 rfl (f_X11_make_e l g ad 8 (S9.1 75 10) S9 _ _ hc36) (by show (_ : Nat) ≤ D; omega) (by show (_ : Nat) ≤ 40 * D; omega) (Nat.le_of_ble_eq_true rfl) rfl dX11_readAhead_29 ?_
        refine iv_istore_n (pc := 32) X dX11_readAhead_32 (by decide) (lv' := [(3, .int r35), (0, .ref (ad 75)), (1, .int z1), (2, .int z2)]) rfl ?_
        refine iv_aload_n (pc := 33) X dX11_readAhead_33 rfl ?_
        refine gF_X11_41_75 (pc := 34) X dX11_readAhead_34 ?_
        refine iv_iload_n (pc := 37) X dX11_readAhead_37 rfl ?_
        refine iv_aload_n (pc := 38) X dX11_readAhead_38 rfl ?_
        refine gF_X11_16_75 (pc := 39) X dX11_readAhead_39 ?_
        refine iv_aload_n (pc := 42) X dX11_readAhead_42 rfl ?_
        refine gF_X11_231_75 (pc := 43) X dX11_readAhead_43 (x := S34.1 75 10) rfl ?_
        obtain ⟨hg, hm⟩ := gd_some hm
        refine aL_78 (pc := 46) X dX11_readAhead_46 hg (x := (S34.1 78) ((S34.1 75 10).toNatClampNeg)) rfl ?_
        obtain ⟨hg, hm⟩ := gd_some hm
        refine aS_86 (pc := 47) X dX11_readAhead_47 hg ?_
        refine iv_aload_n (pc := 48) X dX11_readAhead_48 rfl ?_
        refine iv_dup (pc := 49) X dX11_readAhead_49 rfl ?_
        refine gF_X11_231_75 (pc := 50) X dX11_readAhead_50 (x := S34.1 75 10) rfl ?_
        refine iv_iconst (pc := 53) X dX11_readAhead_53 ic_1 ?_
        refine iv_iadd (pc := 54) X dX11_readAhead_54 ?_
        refine pF_X11_231_75 (pc := 55) X dX11_readAhead_55 ?_
        refine iv_iload_n (pc := 58) X dX11_readAhead_58 rfl ?_
        refine iv_iconst (pc := 59) X dX11_readAhead_59 ic_m1 ?_
        refine iv_icmp_ne (pc := 60) X dX11_readAhead_60 (tgt := 68) rfl (fun hb37 => ?_) (fun hb37 => ?_)
        · rw [if_pos hb37] at hm
          refine iv_aload_n (pc := 68) X dX11_readAhead_68 rfl ?_
          refine gF_X11_32_75 (pc := 69) X dX11_readAhead_69 ?_
          refine iv_iload_n (pc := 72) X dX11_readAhead_72 rfl ?_
          refine iv_iload_n (pc := 73) X dX11_readAhead_73 rfl ?_
          obtain ⟨hg, hm⟩ := gd_some hm
          refine aS_83 (pc := 74) X dX11_readAhead_74 hg ?_
          refine iv_iload_n (pc := 75) X dX11_readAhead_75 rfl ?_
          refine iv_istore_n (pc := 76) X dX11_readAhead_76 (by decide) (lv' := [(2, .int r35), (3, .int r35), (0, .ref (ad 75)), (1, .int z1)]) rfl ?_
          refine iv_goto (pc := 77) X dX11_readAhead_77 (tgt := 4) rfl ?_
          refine iv_sub [2, 3, 0] (lv2 := [(0, .ref (ad 75)), (1, .int z1), (2, .int r35)]) rfl ?_
          exact ih z1 r35 (uI (uI (uI S34 86 r35.toNatClampNeg ((S34.1 78) ((S34.1 75 10).toNatClampNeg))) 75 10 ((S34.1 75 10) + 1)) 83 z2.toNatClampNeg r35) _ _ hm
        · rw [if_neg hb37] at hm
          refine iv_iload_n (pc := 63) X dX11_readAhead_63 rfl ?_
          refine iv_istore_n (pc := 64) X dX11_readAhead_64 (by decide) (lv' := [(1, .int r35), (3, .int r35), (0, .ref (ad 75)), (2, .int z2)]) rfl ?_
          refine iv_goto (pc := 65) X dX11_readAhead_65 (tgt := 75) rfl ?_
          refine iv_iload_n (pc := 75) X dX11_readAhead_75 rfl ?_
          refine iv_istore_n (pc := 76) X dX11_readAhead_76 (by decide) (lv' := [(2, .int r35), (1, .int r35), (3, .int r35), (0, .ref (ad 75))]) rfl ?_
          refine iv_goto (pc := 77) X dX11_readAhead_77 (tgt := 4) rfl ?_
          refine iv_sub [3, 1, 0] (lv2 := [(0, .ref (ad 75)), (1, .int r35), (2, .int r35)]) rfl ?_
          exact ih r35 r35 (uI (uI S34 86 r35.toNatClampNeg ((S34.1 78) ((S34.1 75 10).toNatClampNeg))) 75 10 ((S34.1 75 10) + 1)) _ _ hm
def f_X11_readAhead (K : Nat → Int32 → Int32 → im_S → Option (Int32 × im_S)) (fu : Nat) (S : im_S) : Option (Int32 × im_S) := f_X11_readAhead_L4 K fu fu (-1) (-1) S
set_option maxHeartbeats 4000000 in
set_option maxRecDepth 100000 in
theorem f_X11_readAhead_e (l : Launch) (g : im_G) (ad : Nat → Nat) (K : Nat → Int32 → Int32 → im_S → Option (Int32 × im_S)) {D dk : Nat} (hD1 : dk + 1 ≤ D) (hD2 : 3 ≤ D) (hK : kh_read l g ad K dk) (fu : Nat) (S : im_S) (r : Int32) (S' : im_S) (hm : f_X11_readAhead K fu  S = some (r, S')) : im_E l g ad D yX11_readAhead cX11_readAhead 5 (some Jvm.ClassFile.FieldType.int) [.ref (ad 75)] S (some (.int r)) S' := by
  unfold f_X11_readAhead at hm
  refine is_met (own := RX11) (by decide +kernel) rfl (Nat.le_of_ble_eq_true rfl) (fun p e s m below meth c X => ?_)
  refine iv_iconst (pc := 0) X dX11_readAhead_0 ic_m1 ?_
  refine iv_istore_n (pc := 1) X dX11_readAhead_1 (by decide) (lv' := [(1, .int (-1)), (0, .ref (ad 75))]) rfl ?_
  refine iv_iconst (pc := 2) X dX11_readAhead_2 ic_m1 ?_
  refine iv_istore_n (pc := 3) X dX11_readAhead_3 (by decide) (lv' := [(2, .int (-1)), (1, .int (-1)), (0, .ref (ad 75))]) rfl ?_
  refine iv_sub [2, 1, 0] (lv2 := [(0, .ref (ad 75)), (1, .int (-1)), (2, .int (-1))]) rfl ?_
  exact f_X11_readAhead_L4_w K hD1 hD2 hK (fu := fu) l g ad X fu (-1) (-1) S _ _ hm
def f_X11_readAtom_L188 (K : Nat → Int32 → Int32 → im_S → Option (Int32 × im_S)) (fu : Nat) : Nat → Int32 → Int32 → im_S → Option (Int32 × im_S)
  | 0, _, _, _ => none
  | nf + 1, z1, z2, S => if (z2 : Int32) ≠ 4 then ((K 1 0 0 S).bind (fun qS2 => if (qS2.1 : Int32) ≠ (-1) then (gd (in_b (qS2.2.1 75 78) 502) (gd (in_b (qS2.2.1 75 78) 502) ((f_X11_isSign 44 (uI (uI (uI qS2.2 132 ((qS2.2.1 75 78).toNatClampNeg) ((qS2.2.1 75 10) - 1)) 133 ((qS2.2.1 75 78).toNatClampNeg) qS2.1) 75 78 ((qS2.2.1 75 78) + 1))).bind (fun qS6 => (f_X11_takes qS6.1 qS6.2).bind (fun qS9 => if (qS9.1 : Int32) ≠ 0 then (f_X11_readAtom_L188 K fu nf z1 (z2 + 1) qS9.2) else ((f_X11_layRow fu (z2 + 1) qS9.2).bind (fun qS13 => gd (in_b z1 1200) (gd (in_b z1 1200) ((f_X11_isSign 41 (uI (uI qS13.2 89 z1.toNatClampNeg qS13.1) 90 z1.toNatClampNeg (z2 + 1))).bind (fun qS16 => (f_X11_want qS16.1 qS16.2).bind (fun qS19 => if (qS19.1 : Int32) = 0 then (some ((-1), qS19.2)) else (some (z1, qS19.2))))))))))))) else (some ((-1), qS2.2)))) else ((f_X11_refuse S).bind (fun qS23 => some ((-1), qS23.2)))
set_option maxHeartbeats 4000000 in
set_option maxRecDepth 100000 in
theorem f_X11_readAtom_L188_w {l : Launch} {g : im_G} {ad : Nat → Nat} (K : Nat → Int32 → Int32 → im_S → Option (Int32 × im_S)) {D dk : Nat} (hD1 : dk + 1 ≤ D) (hD2 : 3 ≤ D) (hK : kh_read l g ad K dk) {fu : Nat} (l0 : Launch) (g0 : im_G) (ad0 : Nat → Nat) {p : Program} {e : Env} {s : State} {m : MethodId} {below : List Frame} {meth : Method} {c : Code} {args : Array Value} (X : im_X p l s m args meth c g cX11_readAtom 4 RX11 (some Jvm.ClassFile.FieldType.int)) : ∀ (nf : Nat) (z1 : Int32) (z2 : Int32) (S : im_S) (r : Int32) (S' : im_S), f_X11_readAtom_L188 K fu nf z1 z2 S = some (r, S') → im_V p l e (im_R D 0 0) s m args below meth c g 4 (im_Z below g ad args s (some (.int r)) S') ad im_N (im_cn g ad S) 0 0 188 [(0, .ref (ad 75)), (1, .int z1), (2, .int z2)] [] := by
  intro nf
  induction nf with
  | zero =>
    intro z1 z2 S r S' hm
    cases hm
  | succ nf ih =>
    intro z1 z2 S r S' hm
    unfold f_X11_readAtom_L188 at hm
    refine iv_iload_n (pc := 188) X dX11_readAtom_188 rfl ?_
    refine iv_iconst (pc := 189) X dX11_readAtom_189 ic_4 ?_
    refine iv_icmp_ne (pc := 190) X dX11_readAtom_190 (tgt := 200) rfl (fun hb1 => ?_) (fun hb1 => ?_)
    · rw [if_pos hb1] at hm
      refine iv_aload_n (pc := 200) X dX11_readAtom_200 rfl ?_
      obtain ⟨⟨r3, S2⟩, hc4, hm⟩ := bd_some hm
      refine cV_X11_305_75 (pc := 201) X [] [] 0 rfl (hK.2.1 0 0 S _ _ hc4) (by show (_ : Nat) ≤ D; omega) (by show (_ : Nat) ≤ 40 * D; omega) (Nat.le_of_ble_eq_true rfl) rfl dX11_readAtom_201 ?_
      refine iv_istore_n (pc := 204) X dX11_readAtom_204 (by decide) (lv' := [(3, .int r3), (0, .ref (ad 75)), (1, .int z1), (2, .int z2)]) rfl ?_
      refine iv_iload_n (pc := 205) X dX11_readAtom_205 rfl ?_
      refine iv_iconst (pc := 206) X dX11_readAtom_206 ic_m1 ?_
      refine iv_icmp_ne (pc := 207) X dX11_readAtom_207 (tgt := 212) rfl (fun hb5 => ?_) (fun hb5 => ?_)
      · rw [if_pos hb5] at hm
        refine iv_aload_n (pc := 212) X dX11_readAtom_212 rfl ?_
        refine gF_X11_180_75 (pc := 213) X dX11_readAtom_213 ?_
        refine iv_aload_n (pc := 216) X dX11_readAtom_216 rfl ?_
        refine gF_X11_286_75 (pc := 217) X dX11_readAtom_217 (x := S2.1 75 78) rfl ?_
        refine iv_aload_n (pc := 220) X dX11_readAtom_220 rfl ?_
        refine gF_X11_231_75 (pc := 221) X dX11_readAtom_221 (x := S2.1 75 10) rfl ?_
        refine iv_iconst (pc := 224) X dX11_readAtom_224 ic_1 ?_
        refine iv_isub (pc := 225) X dX11_readAtom_225 ?_
        obtain ⟨hg, hm⟩ := gd_some hm
        refine aS_132 (pc := 226) X dX11_readAtom_226 hg ?_
        refine iv_aload_n (pc := 227) X dX11_readAtom_227 rfl ?_
        refine gF_X11_183_75 (pc := 228) X dX11_readAtom_228 ?_
        refine iv_aload_n (pc := 231) X dX11_readAtom_231 rfl ?_
        refine gF_X11_286_75 (pc := 232) X dX11_readAtom_232 (x := S2.1 75 78) rfl ?_
        refine iv_iload_n (pc := 235) X dX11_readAtom_235 rfl ?_
        obtain ⟨hg, hm⟩ := gd_some hm
        refine aS_133 (pc := 236) X dX11_readAtom_236 hg ?_
        refine iv_aload_n (pc := 237) X dX11_readAtom_237 rfl ?_
        refine iv_dup (pc := 238) X dX11_readAtom_238 rfl ?_
        refine gF_X11_286_75 (pc := 239) X dX11_readAtom_239 (x := S2.1 75 78) rfl ?_
        refine iv_iconst (pc := 242) X dX11_readAtom_242 ic_1 ?_
        refine iv_iadd (pc := 243) X dX11_readAtom_243 ?_
        refine pF_X11_286_75 (pc := 244) X dX11_readAtom_244 ?_
        refine iv_iinc (pc := 247) X dX11_readAtom_247 rfl (by decide) (v := z2 + 1) rfl (lv' := [(2, .int (z2 + 1)), (3, .int r3), (0, .ref (ad 75)), (1, .int z1)]) rfl ?_
        refine iv_aload_n (pc := 250) X dX11_readAtom_250 rfl ?_
        refine iv_aload_n (pc := 251) X dX11_readAtom_251 rfl ?_
        refine iv_bipush (pc := 252) X dX11_readAtom_252 bc_44 ?_
        obtain ⟨⟨r7, S6⟩, hc8, hm⟩ := bd_some hm
        refine cV_X11_283_75 (pc := 254) X [.int 44] [.ref (ad 75)] 1 rfl (f_X11_isSign_e l g ad 44 (uI (uI (uI S2 132 ((S2.1 75 78).toNatClampNeg) ((S2.1 75 10) - 1)) 133 ((S2.1 75 78).toNatClampNeg) r3) 75 78 ((S2.1 75 78) + 1)) _ _ hc8) (by show (_ : Nat) ≤ D; omega) (by show (_ : Nat) ≤ 40 * D; omega) (Nat.le_of_ble_eq_true rfl) rfl dX11_readAtom_254 ?_
        obtain ⟨⟨r10, S9⟩, hc11, hm⟩ := bd_some hm
        refine cV_X11_237_75 (pc := 257) X [.int r7] [] 1 rfl (f_X11_takes_e l g ad r7 S6 _ _ hc11) (by show (_ : Nat) ≤ D; omega) (by show (_ : Nat) ≤ 40 * D; omega) (Nat.le_of_ble_eq_true rfl) rfl dX11_readAtom_257 ?_
        refine iv_if_ne (pc := 260) X dX11_readAtom_260 (tgt := 188) rfl (fun hb12 => ?_) (fun hb12 => ?_)
        · rw [if_pos hb12] at hm
          refine iv_sub [2, 3, 0] (lv2 := [(0, .ref (ad 75)), (1, .int z1), (2, .int (z2 + 1))]) rfl ?_
          exact ih z1 (z2 + 1) S9 _ _ hm
        · rw [if_neg hb12] at hm
          refine iv_aload_n (pc := 263) X dX11_readAtom_263 rfl ?_
          refine gF_X11_50_75 (pc := 264) X dX11_readAtom_264 ?_
          refine iv_iload_n (pc := 267) X dX11_readAtom_267 rfl ?_
          refine iv_aload_n (pc := 268) X dX11_readAtom_268 rfl ?_
          refine iv_iload_n (pc := 269) X dX11_readAtom_269 rfl ?_
          obtain ⟨⟨r14, S13⟩, hc15, hm⟩ := bd_some hm
          refine cV_X11_296_75 (pc := 270) X [.int (z2 + 1)] [.int z1, .ref (ad 89)] 1 rfl (f_X11_layRow_e l g ad fu (z2 + 1) S9 _ _ hc15) (by show (_ : Nat) ≤ D; omega) (by show (_ : Nat) ≤ 40 * D; omega) (Nat.le_of_ble_eq_true rfl) rfl dX11_readAtom_270 ?_
          obtain ⟨hg, hm⟩ := gd_some hm
          refine aS_89 (pc := 273) X dX11_readAtom_273 hg ?_
          refine iv_aload_n (pc := 274) X dX11_readAtom_274 rfl ?_
          refine gF_X11_53_75 (pc := 275) X dX11_readAtom_275 ?_
          refine iv_iload_n (pc := 278) X dX11_readAtom_278 rfl ?_
          refine iv_iload_n (pc := 279) X dX11_readAtom_279 rfl ?_
          obtain ⟨hg, hm⟩ := gd_some hm
          refine aS_90 (pc := 280) X dX11_readAtom_280 hg ?_
          refine iv_aload_n (pc := 281) X dX11_readAtom_281 rfl ?_
          refine iv_aload_n (pc := 282) X dX11_readAtom_282 rfl ?_
          refine iv_bipush (pc := 283) X dX11_readAtom_283 bc_41 ?_
          obtain ⟨⟨r17, S16⟩, hc18, hm⟩ := bd_some hm
          refine cV_X11_283_75 (pc := 285) X [.int 41] [.ref (ad 75)] 1 rfl (f_X11_isSign_e l g ad 41 (uI (uI S13 89 z1.toNatClampNeg r14) 90 z1.toNatClampNeg (z2 + 1)) _ _ hc18) (by show (_ : Nat) ≤ D; omega) (by show (_ : Nat) ≤ 40 * D; omega) (Nat.le_of_ble_eq_true rfl) rfl dX11_readAtom_285 ?_
          obtain ⟨⟨r20, S19⟩, hc21, hm⟩ := bd_some hm
          refine cV_X11_245_75 (pc := 288) X [.int r17] [] 1 rfl (f_X11_want_e l g ad r17 S16 _ _ hc21) (by show (_ : Nat) ≤ D; omega) (by show (_ : Nat) ≤ 40 * D; omega) (Nat.le_of_ble_eq_true rfl) rfl dX11_readAtom_288 ?_
          refine iv_if_eq (pc := 291) X dX11_readAtom_291 (tgt := 298) rfl (fun hb22 => ?_) (fun hb22 => ?_)
          · rw [if_pos hb22] at hm
            refine iv_iconst (pc := 298) X dX11_readAtom_298 ic_m1 ?_
            cases hm
            exact is_iret (pc := 299) X dX11_readAtom_299
          · rw [if_neg hb22] at hm
            refine iv_iload_n (pc := 294) X dX11_readAtom_294 rfl ?_
            refine iv_goto (pc := 295) X dX11_readAtom_295 (tgt := 299) rfl ?_
            cases hm
            exact is_iret (pc := 299) X dX11_readAtom_299
      · rw [if_neg hb5] at hm
        refine iv_iconst (pc := 210) X dX11_readAtom_210 ic_m1 ?_
        cases hm
        exact is_iret (pc := 211) X dX11_readAtom_211
    · rw [if_neg hb1] at hm
      refine iv_aload_n (pc := 193) X dX11_readAtom_193 rfl ?_
      obtain ⟨⟨r24, S23⟩, hc25, hm⟩ := bd_some hm
      refine cV_X11_241_75 (pc := 194) X [] [] 0 rfl (f_X11_refuse_e l g ad  S _ _ hc25) (by show (_ : Nat) ≤ D; omega) (by show (_ : Nat) ≤ 40 * D; omega) (Nat.le_of_ble_eq_true rfl) rfl dX11_readAtom_194 ?_
      refine iv_pop (pc := 197) X dX11_readAtom_197 rfl ?_
      refine iv_iconst (pc := 198) X dX11_readAtom_198 ic_m1 ?_
      cases hm
      exact is_iret (pc := 199) X dX11_readAtom_199
def f_X11_readAtom (K : Nat → Int32 → Int32 → im_S → Option (Int32 × im_S)) (fu : Nat) (S : im_S) : Option (Int32 × im_S) := gd (in_b (S.1 75 10) 502) (if ((S.1 77) ((S.1 75 10).toNatClampNeg) : Int32) ≠ 2 then ((f_X11_isWord 12 S).bind (fun qS2 => if (qS2.1 : Int32) ≠ 0 then ((f_X11_make 2 (qS2.2.1 75 10) qS2.2).bind (fun qS6 => (f_X11_isWord 12 qS6.2).bind (fun qS9 => if (qS9.1 : Int32) = 0 then (gd (in_b qS6.1 1200) (some (qS6.1, (uI (uJ qS9.2 87 qS6.1.toNatClampNeg 0) 75 10 ((qS9.2.1 75 10) + 1))))) else (gd (in_b qS6.1 1200) (some (qS6.1, (uI (uJ qS9.2 87 qS6.1.toNatClampNeg 1) 75 10 ((qS9.2.1 75 10) + 1)))))))) else ((f_X11_isWord 13 qS2.2).bind (fun qS13 => if (qS13.1 : Int32) = 0 then ((f_X11_isWord 10 qS13.2).bind (fun qS17 => if (qS17.1 : Int32) = 0 then (gd (in_b (qS17.2.1 75 10) 502) (if ((qS17.2.1 77) ((qS17.2.1 75 10).toNatClampNeg) : Int32) = 1 then ((f_X11_make 3 (qS17.2.1 75 10) qS17.2).bind (fun qS22 => (f_X11_isSign 40 (uI qS22.2 75 10 ((qS22.2.1 75 10) + 1))).bind (fun qS25 => (f_X11_takes qS25.1 qS25.2).bind (fun qS28 => if (qS28.1 : Int32) ≠ 0 then (gd (in_b qS22.1 1200) ((f_X11_isSign 41 (uI qS28.2 81 qS22.1.toNatClampNeg 4)).bind (fun qS32 => (f_X11_takes qS32.1 qS32.2).bind (fun qS35 => if (qS35.1 : Int32) = 0 then (f_X11_readAtom_L188 K fu fu qS22.1 0 qS35.2) else (some (qS22.1, qS35.2)))))) else (some (qS22.1, qS28.2)))))) else ((f_X11_refuse qS17.2).bind (fun qS39 => some ((-1), qS39.2))))) else ((K 9 0 0 qS17.2).bind (fun qS42 => some (qS42.1, qS42.2))))) else ((f_X11_make 2 (qS13.2.1 75 10) qS13.2).bind (fun qS45 => (f_X11_isWord 12 qS45.2).bind (fun qS48 => if (qS48.1 : Int32) = 0 then (gd (in_b qS45.1 1200) (some (qS45.1, (uI (uJ qS48.2 87 qS45.1.toNatClampNeg 0) 75 10 ((qS48.2.1 75 10) + 1))))) else (gd (in_b qS45.1 1200) (some (qS45.1, (uI (uJ qS48.2 87 qS45.1.toNatClampNeg 1) 75 10 ((qS48.2.1 75 10) + 1)))))))))))) else ((f_X11_make 1 (S.1 75 10) S).bind (fun qS52 => some (qS52.1, (uI qS52.2 75 10 ((qS52.2.1 75 10) + 1))))))
set_option maxHeartbeats 4000000 in
set_option maxRecDepth 100000 in
theorem f_X11_readAtom_e (l : Launch) (g : im_G) (ad : Nat → Nat) (K : Nat → Int32 → Int32 → im_S → Option (Int32 × im_S)) {D dk : Nat} (hD1 : dk + 1 ≤ D) (hD2 : 3 ≤ D) (hK : kh_read l g ad K dk) (fu : Nat) (S : im_S) (r : Int32) (S' : im_S) (hm : f_X11_readAtom K fu  S = some (r, S')) : im_E l g ad D yX11_readAtom cX11_readAtom 4 (some Jvm.ClassFile.FieldType.int) [.ref (ad 75)] S (some (.int r)) S' := by
  unfold f_X11_readAtom at hm
  refine is_met (own := RX11) (by decide +kernel) rfl (Nat.le_of_ble_eq_true rfl) (fun p e s m below meth c X => ?_)
  refine iv_aload_n (pc := 0) X dX11_readAtom_0 rfl ?_
  refine gF_X11_13_75 (pc := 1) X dX11_readAtom_1 ?_
  refine iv_aload_n (pc := 4) X dX11_readAtom_4 rfl ?_
  refine gF_X11_231_75 (pc := 5) X dX11_readAtom_5 (x := S.1 75 10) rfl ?_
  obtain ⟨hg, hm⟩ := gd_some hm
  refine aL_77 (pc := 8) X dX11_readAtom_8 hg (x := (S.1 77) ((S.1 75 10).toNatClampNeg)) rfl ?_
  refine iv_iconst (pc := 9) X dX11_readAtom_9 ic_2 ?_
  refine iv_icmp_ne (pc := 10) X dX11_readAtom_10 (tgt := 35) rfl (fun hb1 => ?_) (fun hb1 => ?_)
  · rw [if_pos hb1] at hm
    refine iv_aload_n (pc := 35) X dX11_readAtom_35 rfl ?_
    refine iv_bipush (pc := 36) X dX11_readAtom_36 bc_12 ?_
    obtain ⟨⟨r3, S2⟩, hc4, hm⟩ := bd_some hm
    refine cV_X11_261_75 (pc := 38) X [.int 12] [] 1 rfl (f_X11_isWord_e l g ad 12 S _ _ hc4) (by show (_ : Nat) ≤ D; omega) (by show (_ : Nat) ≤ 40 * D; omega) (Nat.le_of_ble_eq_true rfl) rfl dX11_readAtom_38 ?_
    refine iv_if_ne (pc := 41) X dX11_readAtom_41 (tgt := 53) rfl (fun hb5 => ?_) (fun hb5 => ?_)
    · rw [if_pos hb5] at hm
      refine iv_aload_n (pc := 53) X dX11_readAtom_53 rfl ?_
      refine iv_iconst (pc := 54) X dX11_readAtom_54 ic_2 ?_
      refine iv_aload_n (pc := 55) X dX11_readAtom_55 rfl ?_
      refine gF_X11_231_75 (pc := 56) X dX11_readAtom_56 (x := S2.1 75 10) rfl ?_
      obtain ⟨⟨r7, S6⟩, hc8, hm⟩ := bd_some hm
      refine cV_X11_276_75 (pc := 59) X [.int 2, .int (S2.1 75 10)] [] 2 rfl (f_X11_make_e l g ad 2 (S2.1 75 10) S2 _ _ hc8) (by show (_ : Nat) ≤ D; omega) (by show (_ : Nat) ≤ 40 * D; omega) (Nat.le_of_ble_eq_true rfl) rfl dX11_readAtom_59 ?_
      refine iv_istore_n (pc := 62) X dX11_readAtom_62 (by decide) (lv' := [(1, .int r7), (0, .ref (ad 75))]) rfl ?_
      refine iv_aload_n (pc := 63) X dX11_readAtom_63 rfl ?_
      refine gF_X11_44_75 (pc := 64) X dX11_readAtom_64 ?_
      refine iv_iload_n (pc := 67) X dX11_readAtom_67 rfl ?_
      refine iv_aload_n (pc := 68) X dX11_readAtom_68 rfl ?_
      refine iv_bipush (pc := 69) X dX11_readAtom_69 bc_12 ?_
      obtain ⟨⟨r10, S9⟩, hc11, hm⟩ := bd_some hm
      refine cV_X11_261_75 (pc := 71) X [.int 12] [.int r7, .ref (ad 87)] 1 rfl (f_X11_isWord_e l g ad 12 S6 _ _ hc11) (by show (_ : Nat) ≤ D; omega) (by show (_ : Nat) ≤ 40 * D; omega) (Nat.le_of_ble_eq_true rfl) rfl dX11_readAtom_71 ?_
      refine iv_if_eq (pc := 74) X dX11_readAtom_74 (tgt := 81) rfl (fun hb12 => ?_) (fun hb12 => ?_)
      · rw [if_pos hb12] at hm
        refine iv_lconst (pc := 81) X dX11_readAtom_81 lc_0 ?_
        obtain ⟨hg, hm⟩ := gd_some hm
        refine aS_87 (pc := 82) X dX11_readAtom_82 hg ?_
        refine iv_aload_n (pc := 83) X dX11_readAtom_83 rfl ?_
        refine iv_dup (pc := 84) X dX11_readAtom_84 rfl ?_
        refine gF_X11_231_75 (pc := 85) X dX11_readAtom_85 (x := S9.1 75 10) rfl ?_
        refine iv_iconst (pc := 88) X dX11_readAtom_88 ic_1 ?_
        refine iv_iadd (pc := 89) X dX11_readAtom_89 ?_
        refine pF_X11_231_75 (pc := 90) X dX11_readAtom_90 ?_
        refine iv_iload_n (pc := 93) X dX11_readAtom_93 rfl ?_
        cases hm
        exact is_iret (pc := 94) X dX11_readAtom_94
      · rw [if_neg hb12] at hm
        refine iv_lconst (pc := 77) X dX11_readAtom_77 lc_1 ?_
        refine iv_goto (pc := 78) X dX11_readAtom_78 (tgt := 82) rfl ?_
        obtain ⟨hg, hm⟩ := gd_some hm
        refine aS_87 (pc := 82) X dX11_readAtom_82 hg ?_
        refine iv_aload_n (pc := 83) X dX11_readAtom_83 rfl ?_
        refine iv_dup (pc := 84) X dX11_readAtom_84 rfl ?_
        refine gF_X11_231_75 (pc := 85) X dX11_readAtom_85 (x := S9.1 75 10) rfl ?_
        refine iv_iconst (pc := 88) X dX11_readAtom_88 ic_1 ?_
        refine iv_iadd (pc := 89) X dX11_readAtom_89 ?_
        refine pF_X11_231_75 (pc := 90) X dX11_readAtom_90 ?_
        refine iv_iload_n (pc := 93) X dX11_readAtom_93 rfl ?_
        cases hm
        exact is_iret (pc := 94) X dX11_readAtom_94
    · rw [if_neg hb5] at hm
      refine iv_aload_n (pc := 44) X dX11_readAtom_44 rfl ?_
      refine iv_bipush (pc := 45) X dX11_readAtom_45 bc_13 ?_
      obtain ⟨⟨r14, S13⟩, hc15, hm⟩ := bd_some hm
      refine cV_X11_261_75 (pc := 47) X [.int 13] [] 1 rfl (f_X11_isWord_e l g ad 13 S2 _ _ hc15) (by show (_ : Nat) ≤ D; omega) (by show (_ : Nat) ≤ 40 * D; omega) (Nat.le_of_ble_eq_true rfl) rfl dX11_readAtom_47 ?_
      refine iv_if_eq (pc := 50) X dX11_readAtom_50 (tgt := 95) rfl (fun hb16 => ?_) (fun hb16 => ?_)
      · rw [if_pos hb16] at hm
        refine iv_aload_n (pc := 95) X dX11_readAtom_95 rfl ?_
        refine iv_bipush (pc := 96) X dX11_readAtom_96 bc_10 ?_
        obtain ⟨⟨r18, S17⟩, hc19, hm⟩ := bd_some hm
        refine cV_X11_261_75 (pc := 98) X [.int 10] [] 1 rfl (f_X11_isWord_e l g ad 10 S13 _ _ hc19) (by show (_ : Nat) ≤ D; omega) (by show (_ : Nat) ≤ 40 * D; omega) (Nat.le_of_ble_eq_true rfl) rfl dX11_readAtom_98 ?_
        refine iv_if_eq (pc := 101) X dX11_readAtom_101 (tgt := 109) rfl (fun hb20 => ?_) (fun hb20 => ?_)
        · rw [if_pos hb20] at hm
          refine iv_aload_n (pc := 109) X dX11_readAtom_109 rfl ?_
          refine gF_X11_13_75 (pc := 110) X dX11_readAtom_110 ?_
          refine iv_aload_n (pc := 113) X dX11_readAtom_113 rfl ?_
          refine gF_X11_231_75 (pc := 114) X dX11_readAtom_114 (x := S17.1 75 10) rfl ?_
          obtain ⟨hg, hm⟩ := gd_some hm
          refine aL_77 (pc := 117) X dX11_readAtom_117 hg (x := (S17.1 77) ((S17.1 75 10).toNatClampNeg)) rfl ?_
          refine iv_iconst (pc := 118) X dX11_readAtom_118 ic_1 ?_
          refine iv_icmp_eq (pc := 119) X dX11_readAtom_119 (tgt := 129) rfl (fun hb21 => ?_) (fun hb21 => ?_)
          · rw [if_pos hb21] at hm
            refine iv_aload_n (pc := 129) X dX11_readAtom_129 rfl ?_
            refine iv_iconst (pc := 130) X dX11_readAtom_130 ic_3 ?_
            refine iv_aload_n (pc := 131) X dX11_readAtom_131 rfl ?_
            refine gF_X11_231_75 (pc := 132) X dX11_readAtom_132 (x := S17.1 75 10) rfl ?_
            obtain ⟨⟨r23, S22⟩, hc24, hm⟩ := bd_some hm
            refine cV_X11_276_75 (pc := 135) X [.int 3, .int (S17.1 75 10)] [] 2 rfl (f_X11_make_e l g ad 3 (S17.1 75 10) S17 _ _ hc24) (by show (_ : Nat) ≤ D; omega) (by show (_ : Nat) ≤ 40 * D; omega) (Nat.le_of_ble_eq_true rfl) rfl dX11_readAtom_135 ?_
            refine iv_istore_n (pc := 138) X dX11_readAtom_138 (by decide) (lv' := [(1, .int r23), (0, .ref (ad 75))]) rfl ?_
            refine iv_aload_n (pc := 139) X dX11_readAtom_139 rfl ?_
            refine iv_dup (pc := 140) X dX11_readAtom_140 rfl ?_
            refine gF_X11_231_75 (pc := 141) X dX11_readAtom_141 (x := S22.1 75 10) rfl ?_
            refine iv_iconst (pc := 144) X dX11_readAtom_144 ic_1 ?_
            refine iv_iadd (pc := 145) X dX11_readAtom_145 ?_
            refine pF_X11_231_75 (pc := 146) X dX11_readAtom_146 ?_
            refine iv_aload_n (pc := 149) X dX11_readAtom_149 rfl ?_
            refine iv_aload_n (pc := 150) X dX11_readAtom_150 rfl ?_
            refine iv_bipush (pc := 151) X dX11_readAtom_151 bc_40 ?_
            obtain ⟨⟨r26, S25⟩, hc27, hm⟩ := bd_some hm
            refine cV_X11_283_75 (pc := 153) X [.int 40] [.ref (ad 75)] 1 rfl (f_X11_isSign_e l g ad 40 (uI S22 75 10 ((S22.1 75 10) + 1)) _ _ hc27) (by show (_ : Nat) ≤ D; omega) (by show (_ : Nat) ≤ 40 * D; omega) (Nat.le_of_ble_eq_true rfl) rfl dX11_readAtom_153 ?_
            obtain ⟨⟨r29, S28⟩, hc30, hm⟩ := bd_some hm
            refine cV_X11_237_75 (pc := 156) X [.int r26] [] 1 rfl (f_X11_takes_e l g ad r26 S25 _ _ hc30) (by show (_ : Nat) ≤ D; omega) (by show (_ : Nat) ≤ 40 * D; omega) (Nat.le_of_ble_eq_true rfl) rfl dX11_readAtom_156 ?_
            refine iv_if_ne (pc := 159) X dX11_readAtom_159 (tgt := 164) rfl (fun hb31 => ?_) (fun hb31 => ?_)
            · rw [if_pos hb31] at hm
              refine iv_aload_n (pc := 164) X dX11_readAtom_164 rfl ?_
              refine gF_X11_26_75 (pc := 165) X dX11_readAtom_165 ?_
              refine iv_iload_n (pc := 168) X dX11_readAtom_168 rfl ?_
              refine iv_iconst (pc := 169) X dX11_readAtom_169 ic_4 ?_
              obtain ⟨hg, hm⟩ := gd_some hm
              refine aS_81 (pc := 170) X dX11_readAtom_170 hg ?_
              refine iv_aload_n (pc := 171) X dX11_readAtom_171 rfl ?_
              refine iv_aload_n (pc := 172) X dX11_readAtom_172 rfl ?_
              refine iv_bipush (pc := 173) X dX11_readAtom_173 bc_41 ?_
              obtain ⟨⟨r33, S32⟩, hc34, hm⟩ := bd_some hm
              refine cV_X11_283_75 (pc := 175) X [.int 41] [.ref (ad 75)] 1 rfl (f_X11_isSign_e l g ad 41 (uI S28 81 r23.toNatClampNeg 4) _ _ hc34) (by show (_ : Nat) ≤ D; omega) (by show (_ : Nat) ≤ 40 * D; omega) (Nat.le_of_ble_eq_true rfl) rfl dX11_readAtom_175 ?_
              obtain ⟨⟨r36, S35⟩, hc37, hm⟩ := bd_some hm
              refine cV_X11_237_75 (pc := 178) X [.int r33] [] 1 rfl (f_X11_takes_e l g ad r33 S32 _ _ hc37) (by show (_ : Nat) ≤ D; omega) (by show (_ : Nat) ≤ 40 * D; omega) (Nat.le_of_ble_eq_true rfl) rfl dX11_readAtom_178 ?_
              refine iv_if_eq (pc := 181) X dX11_readAtom_181 (tgt := 186) rfl (fun hb38 => ?_) (fun hb38 => ?_)
              · rw [if_pos hb38] at hm
                refine iv_iconst (pc := 186) X dX11_readAtom_186 ic_0 ?_
                refine iv_istore_n (pc := 187) X dX11_readAtom_187 (by decide) (lv' := [(2, .int 0), (1, .int r23), (0, .ref (ad 75))]) rfl ?_
                refine iv_sub [2, 1, 0] (lv2 := [(0, .ref (ad 75)), (1, .int r23), (2, .int 0)]) rfl ?_
                exact f_X11_readAtom_L188_w K hD1 hD2 hK (fu := fu) l g ad X fu r23 0 S35 _ _ hm
              · rw [if_neg hb38] at hm
                refine iv_iload_n (pc := 184) X dX11_readAtom_184 rfl ?_
                cases hm
                exact is_iret (pc := 185) X dX11_readAtom_185
            · rw [if_neg hb31] at hm
              refine iv_iload_n (pc := 162) X dX11_readAtom_162 rfl ?_
              cases hm
              exact is_iret (pc := 163) X dX11_readAtom_163
          · rw [if_neg hb21] at hm
            refine iv_aload_n (pc := 122) X dX11_readAtom_122 rfl ?_
            obtain ⟨⟨r40, S39⟩, hc41, hm⟩ := bd_some hm
            refine cV_X11_241_75 (pc := 123) X [] [] 0 rfl (f_X11_refuse_e l g ad  S17 _ _ hc41) (by show (_ : Nat) ≤ D; omega) (by show (_ : Nat) ≤ 40 * D; omega) (Nat.le_of_ble_eq_true rfl) rfl dX11_readAtom_123 ?_
            refine iv_pop (pc := 126) X dX11_readAtom_126 rfl ?_
            refine iv_iconst (pc := 127) X dX11_readAtom_127 ic_m1 ?_
            cases hm
            exact is_iret (pc := 128) X dX11_readAtom_128
        · rw [if_neg hb20] at hm
          refine iv_aload_n (pc := 104) X dX11_readAtom_104 rfl ?_
          obtain ⟨⟨r43, S42⟩, hc44, hm⟩ := bd_some hm
          refine cV_X11_311_75 (pc := 105) X [] [] 0 rfl (hK.2.2.2.2.2.2.2.2.2 0 0 S17 _ _ hc44) (by show (_ : Nat) ≤ D; omega) (by show (_ : Nat) ≤ 40 * D; omega) (Nat.le_of_ble_eq_true rfl) rfl dX11_readAtom_105 ?_
          cases hm
          exact is_iret (pc := 108) X dX11_readAtom_108
      · rw [if_neg hb16] at hm
        refine iv_aload_n (pc := 53) X dX11_readAtom_53 rfl ?_
        refine iv_iconst (pc := 54) X dX11_readAtom_54 ic_2 ?_
        refine iv_aload_n (pc := 55) X dX11_readAtom_55 rfl ?_
        refine gF_X11_231_75 (pc := 56) X dX11_readAtom_56 (x := S13.1 75 10) rfl ?_
        obtain ⟨⟨r46, S45⟩, hc47, hm⟩ := bd_some hm
        refine cV_X11_276_75 (pc := 59) X [.int 2, .int (S13.1 75 10)] [] 2 rfl (f_X11_make_e l g ad 2 (S13.1 75 10) S13 _ _ hc47) (by show (_ : Nat) ≤ D; omega) (by show (_ : Nat) ≤ 40 * D; omega) (Nat.le_of_ble_eq_true rfl) rfl dX11_readAtom_59 ?_
        refine iv_istore_n (pc := 62) X dX11_readAtom_62 (by decide) (lv' := [(1, .int r46), (0, .ref (ad 75))]) rfl ?_
        refine iv_aload_n (pc := 63) X dX11_readAtom_63 rfl ?_
        refine gF_X11_44_75 (pc := 64) X dX11_readAtom_64 ?_
        refine iv_iload_n (pc := 67) X dX11_readAtom_67 rfl ?_
        refine iv_aload_n (pc := 68) X dX11_readAtom_68 rfl ?_
        refine iv_bipush (pc := 69) X dX11_readAtom_69 bc_12 ?_
        obtain ⟨⟨r49, S48⟩, hc50, hm⟩ := bd_some hm
        refine cV_X11_261_75 (pc := 71) X [.int 12] [.int r46, .ref (ad 87)] 1 rfl (f_X11_isWord_e l g ad 12 S45 _ _ hc50) (by show (_ : Nat) ≤ D; omega) (by show (_ : Nat) ≤ 40 * D; omega) (Nat.le_of_ble_eq_true rfl) rfl dX11_readAtom_71 ?_
        refine iv_if_eq (pc := 74) X dX11_readAtom_74 (tgt := 81) rfl (fun hb51 => ?_) (fun hb51 => ?_)
        · rw [if_pos hb51] at hm
          refine iv_lconst (pc := 81) X dX11_readAtom_81 lc_0 ?_
          obtain ⟨hg, hm⟩ := gd_some hm
          refine aS_87 (pc := 82) X dX11_readAtom_82 hg ?_
          refine iv_aload_n (pc := 83) X dX11_readAtom_83 rfl ?_
          refine iv_dup (pc := 84) X dX11_readAtom_84 rfl ?_
          refine gF_X11_231_75 (pc := 85) X dX11_readAtom_85 (x := S48.1 75 10) rfl ?_
          refine iv_iconst (pc := 88) X dX11_readAtom_88 ic_1 ?_
          refine iv_iadd (pc := 89) X dX11_readAtom_89 ?_
          refine pF_X11_231_75 (pc := 90) X dX11_readAtom_90 ?_
          refine iv_iload_n (pc := 93) X dX11_readAtom_93 rfl ?_
          cases hm
          exact is_iret (pc := 94) X dX11_readAtom_94
        · rw [if_neg hb51] at hm
          refine iv_lconst (pc := 77) X dX11_readAtom_77 lc_1 ?_
          refine iv_goto (pc := 78) X dX11_readAtom_78 (tgt := 82) rfl ?_
          obtain ⟨hg, hm⟩ := gd_some hm
          refine aS_87 (pc := 82) X dX11_readAtom_82 hg ?_
          refine iv_aload_n (pc := 83) X dX11_readAtom_83 rfl ?_
          refine iv_dup (pc := 84) X dX11_readAtom_84 rfl ?_
          refine gF_X11_231_75 (pc := 85) X dX11_readAtom_85 (x := S48.1 75 10) rfl ?_
          refine iv_iconst (pc := 88) X dX11_readAtom_88 ic_1 ?_
          refine iv_iadd (pc := 89) X dX11_readAtom_89 ?_
          refine pF_X11_231_75 (pc := 90) X dX11_readAtom_90 ?_
          refine iv_iload_n (pc := 93) X dX11_readAtom_93 rfl ?_
          cases hm
          exact is_iret (pc := 94) X dX11_readAtom_94
  · rw [if_neg hb1] at hm
    refine iv_aload_n (pc := 13) X dX11_readAtom_13 rfl ?_
    refine iv_iconst (pc := 14) X dX11_readAtom_14 ic_1 ?_
    refine iv_aload_n (pc := 15) X dX11_readAtom_15 rfl ?_
    refine gF_X11_231_75 (pc := 16) X dX11_readAtom_16 (x := S.1 75 10) rfl ?_
    obtain ⟨⟨r53, S52⟩, hc54, hm⟩ := bd_some hm
    refine cV_X11_276_75 (pc := 19) X [.int 1, .int (S.1 75 10)] [] 2 rfl (f_X11_make_e l g ad 1 (S.1 75 10) S _ _ hc54) (by show (_ : Nat) ≤ D; omega) (by show (_ : Nat) ≤ 40 * D; omega) (Nat.le_of_ble_eq_true rfl) rfl dX11_readAtom_19 ?_
    refine iv_istore_n (pc := 22) X dX11_readAtom_22 (by decide) (lv' := [(1, .int r53), (0, .ref (ad 75))]) rfl ?_
    refine iv_aload_n (pc := 23) X dX11_readAtom_23 rfl ?_
    refine iv_dup (pc := 24) X dX11_readAtom_24 rfl ?_
    refine gF_X11_231_75 (pc := 25) X dX11_readAtom_25 (x := S52.1 75 10) rfl ?_
    refine iv_iconst (pc := 28) X dX11_readAtom_28 ic_1 ?_
    refine iv_iadd (pc := 29) X dX11_readAtom_29 ?_
    refine pF_X11_231_75 (pc := 30) X dX11_readAtom_30 ?_
    refine iv_iload_n (pc := 33) X dX11_readAtom_33 rfl ?_
    cases hm
    exact is_iret (pc := 34) X dX11_readAtom_34
def f_X11_readTable (K : Nat → Int32 → Int32 → im_S → Option (Int32 × im_S)) (fu : Nat) (S : im_S) : Option (Int32 × im_S) := (f_X11_make 11 (S.1 75 10) S).bind (fun qS1 => (f_X11_wantName (uI qS1.2 75 10 ((qS1.2.1 75 10) + 1))).bind (fun qS4 => if (qS4.1 : Int32) = 0 then (some ((-1), qS4.2)) else ((f_X11_isSign 91 qS4.2).bind (fun qS8 => (f_X11_want qS8.1 qS8.2).bind (fun qS11 => if (qS11.1 : Int32) ≠ 0 then ((f_X11_wantName qS11.2).bind (fun qS15 => if (qS15.1 : Int32) = 0 then (some ((-1), qS15.2)) else ((f_X11_isSign 60 qS15.2).bind (fun qS19 => (f_X11_want qS19.1 qS19.2).bind (fun qS22 => if (qS22.1 : Int32) ≠ 0 then (gd (in_b qS1.1 1200) (gd (in_b qS1.1 1200) ((f_X11_addRow ((qS1.2.1 75 10) + 1) (-1) (uI (uI qS22.2 89 qS1.1.toNatClampNeg (qS22.2.1 75 27)) 90 qS1.1.toNatClampNeg 2)).bind (fun qS26 => (f_X11_addRow (qS11.2.1 75 10) (-1) qS26.2).bind (fun qS29 => (K 1 0 0 qS29.2).bind (fun qS32 => gd (in_b qS1.1 1200) (gd (in_b qS1.1 1200) (if ((upd (qS32.2.1 83) qS1.1.toNatClampNeg qS32.1) qS1.1.toNatClampNeg : Int32) = (-1) then (some ((-1), (uI qS32.2 83 qS1.1.toNatClampNeg qS32.1))) else ((f_X11_isSign 93 (uI qS32.2 83 qS1.1.toNatClampNeg qS32.1)).bind (fun qS36 => (f_X11_want qS36.1 qS36.2).bind (fun qS39 => if (qS39.1 : Int32) = 0 then (some ((-1), qS39.2)) else ((f_X11_isWord 11 qS39.2).bind (fun qS43 => (f_X11_want qS43.1 qS43.2).bind (fun qS46 => if (qS46.1 : Int32) ≠ 0 then ((K 0 0 0 qS46.2).bind (fun qS50 => gd (in_b qS1.1 1200) (gd (in_b qS1.1 1200) (if ((upd (qS50.2.1 84) qS1.1.toNatClampNeg qS50.1) qS1.1.toNatClampNeg : Int32) ≠ (-1) then (some (qS1.1, (uI qS50.2 84 qS1.1.toNatClampNeg qS50.1))) else (some ((-1), (uI qS50.2 84 qS1.1.toNatClampNeg qS50.1))))))) else (some ((-1), qS46.2)))))))))))))))) else (some ((-1), qS22.2))))))) else (some ((-1), qS11.2)))))))
set_option maxHeartbeats 4000000 in
set_option maxRecDepth 100000 in
theorem f_X11_readTable_e (l : Launch) (g : im_G) (ad : Nat → Nat) (K : Nat → Int32 → Int32 → im_S → Option (Int32 × im_S)) {D dk : Nat} (hD1 : dk + 1 ≤ D) (hD2 : 3 ≤ D) (hK : kh_read l g ad K dk) (fu : Nat) (S : im_S) (r : Int32) (S' : im_S) (hm : f_X11_readTable K fu  S = some (r, S')) : im_E l g ad D yX11_readTable cX11_readTable 4 (some Jvm.ClassFile.FieldType.int) [.ref (ad 75)] S (some (.int r)) S' := by
  unfold f_X11_readTable at hm
  refine is_met (own := RX11) (by decide +kernel) rfl (Nat.le_of_ble_eq_true rfl) (fun p e s m below meth c X => ?_)
  refine iv_aload_n (pc := 0) X dX11_readTable_0 rfl ?_
  refine iv_bipush (pc := 1) X dX11_readTable_1 bc_11 ?_
  refine iv_aload_n (pc := 3) X dX11_readTable_3 rfl ?_
  refine gF_X11_231_75 (pc := 4) X dX11_readTable_4 (x := S.1 75 10) rfl ?_
  obtain ⟨⟨r2, S1⟩, hc3, hm⟩ := bd_some hm
  refine cV_X11_276_75 (pc := 7) X [.int 11, .int (S.1 75 10)] [] 2 rfl (f_X11_make_e l g ad 11 (S.1 75 10) S _ _ hc3) (by show (_ : Nat) ≤ D; omega) (by show (_ : Nat) ≤ 40 * D; omega) (Nat.le_of_ble_eq_true rfl) rfl dX11_readTable_7 ?_
  refine iv_istore_n (pc := 10) X dX11_readTable_10 (by decide) (lv' := [(1, .int r2), (0, .ref (ad 75))]) rfl ?_
  refine iv_aload_n (pc := 11) X dX11_readTable_11 rfl ?_
  refine iv_dup (pc := 12) X dX11_readTable_12 rfl ?_
  refine gF_X11_231_75 (pc := 13) X dX11_readTable_13 (x := S1.1 75 10) rfl ?_
  refine iv_iconst (pc := 16) X dX11_readTable_16 ic_1 ?_
  refine iv_iadd (pc := 17) X dX11_readTable_17 ?_
  refine pF_X11_231_75 (pc := 18) X dX11_readTable_18 ?_
  refine iv_aload_n (pc := 21) X dX11_readTable_21 rfl ?_
  refine gF_X11_231_75 (pc := 22) X dX11_readTable_22 (x := (S1.1 75 10) + 1) rfl ?_
  refine iv_istore_n (pc := 25) X dX11_readTable_25 (by decide) (lv' := [(2, .int ((S1.1 75 10) + 1)), (1, .int r2), (0, .ref (ad 75))]) rfl ?_
  refine iv_aload_n (pc := 26) X dX11_readTable_26 rfl ?_
  obtain ⟨⟨r5, S4⟩, hc6, hm⟩ := bd_some hm
  refine cV_X11_280_75 (pc := 27) X [] [] 0 rfl (f_X11_wantName_e l g ad  (uI S1 75 10 ((S1.1 75 10) + 1)) _ _ hc6) (by show (_ : Nat) ≤ D; omega) (by show (_ : Nat) ≤ 40 * D; omega) (Nat.le_of_ble_eq_true rfl) rfl dX11_readTable_27 ?_
  refine iv_if_eq (pc := 30) X dX11_readTable_30 (tgt := 46) rfl (fun hb7 => ?_) (fun hb7 => ?_)
  · rw [if_pos hb7] at hm
    refine iv_iconst (pc := 46) X dX11_readTable_46 ic_m1 ?_
    cases hm
    exact is_iret (pc := 47) X dX11_readTable_47
  · rw [if_neg hb7] at hm
    refine iv_aload_n (pc := 33) X dX11_readTable_33 rfl ?_
    refine iv_aload_n (pc := 34) X dX11_readTable_34 rfl ?_
    refine iv_bipush (pc := 35) X dX11_readTable_35 bc_91 ?_
    obtain ⟨⟨r9, S8⟩, hc10, hm⟩ := bd_some hm
    refine cV_X11_283_75 (pc := 37) X [.int 91] [.ref (ad 75)] 1 rfl (f_X11_isSign_e l g ad 91 S4 _ _ hc10) (by show (_ : Nat) ≤ D; omega) (by show (_ : Nat) ≤ 40 * D; omega) (Nat.le_of_ble_eq_true rfl) rfl dX11_readTable_37 ?_
    obtain ⟨⟨r12, S11⟩, hc13, hm⟩ := bd_some hm
    refine cV_X11_245_75 (pc := 40) X [.int r9] [] 1 rfl (f_X11_want_e l g ad r9 S8 _ _ hc13) (by show (_ : Nat) ≤ D; omega) (by show (_ : Nat) ≤ 40 * D; omega) (Nat.le_of_ble_eq_true rfl) rfl dX11_readTable_40 ?_
    refine iv_if_ne (pc := 43) X dX11_readTable_43 (tgt := 48) rfl (fun hb14 => ?_) (fun hb14 => ?_)
    · rw [if_pos hb14] at hm
      refine iv_aload_n (pc := 48) X dX11_readTable_48 rfl ?_
      refine gF_X11_231_75 (pc := 49) X dX11_readTable_49 (x := S11.1 75 10) rfl ?_
      refine iv_istore_n (pc := 52) X dX11_readTable_52 (by decide) (lv' := [(3, .int (S11.1 75 10)), (2, .int ((S1.1 75 10) + 1)), (1, .int r2), (0, .ref (ad 75))]) rfl ?_
      refine iv_aload_n (pc := 53) X dX11_readTable_53 rfl ?_
      obtain ⟨⟨r16, S15⟩, hc17, hm⟩ := bd_some hm
      refine cV_X11_280_75 (pc := 54) X [] [] 0 rfl (f_X11_wantName_e l g ad  S11 _ _ hc17) (by show (_ : Nat) ≤ D; omega) (by show (_ : Nat) ≤ 40 * D; omega) (Nat.le_of_ble_eq_true rfl) rfl dX11_readTable_54 ?_
      refine iv_if_eq (pc := 57) X dX11_readTable_57 (tgt := 73) rfl (fun hb18 => ?_) (fun hb18 => ?_)
      · rw [if_pos hb18] at hm
        refine iv_iconst (pc := 73) X dX11_readTable_73 ic_m1 ?_
        cases hm
        exact is_iret (pc := 74) X dX11_readTable_74
      · rw [if_neg hb18] at hm
        refine iv_aload_n (pc := 60) X dX11_readTable_60 rfl ?_
        refine iv_aload_n (pc := 61) X dX11_readTable_61 rfl ?_
        refine iv_bipush (pc := 62) X dX11_readTable_62 bc_60 ?_
        obtain ⟨⟨r20, S19⟩, hc21, hm⟩ := bd_some hm
        refine cV_X11_283_75 (pc := 64) X [.int 60] [.ref (ad 75)] 1 rfl (f_X11_isSign_e l g ad 60 S15 _ _ hc21) (by show (_ : Nat) ≤ D; omega) (by show (_ : Nat) ≤ 40 * D; omega) (Nat.le_of_ble_eq_true rfl) rfl dX11_readTable_64 ?_
        obtain ⟨⟨r23, S22⟩, hc24, hm⟩ := bd_some hm
        refine cV_X11_245_75 (pc := 67) X [.int r20] [] 1 rfl (f_X11_want_e l g ad r20 S19 _ _ hc24) (by show (_ : Nat) ≤ D; omega) (by show (_ : Nat) ≤ 40 * D; omega) (Nat.le_of_ble_eq_true rfl) rfl dX11_readTable_67 ?_
        refine iv_if_ne (pc := 70) X dX11_readTable_70 (tgt := 75) rfl (fun hb25 => ?_) (fun hb25 => ?_)
        · rw [if_pos hb25] at hm
          refine iv_aload_n (pc := 75) X dX11_readTable_75 rfl ?_
          refine gF_X11_50_75 (pc := 76) X dX11_readTable_76 ?_
          refine iv_iload_n (pc := 79) X dX11_readTable_79 rfl ?_
          refine iv_aload_n (pc := 80) X dX11_readTable_80 rfl ?_
          refine gF_X11_251_75 (pc := 81) X dX11_readTable_81 (x := S22.1 75 27) rfl ?_
          obtain ⟨hg, hm⟩ := gd_some hm
          refine aS_89 (pc := 84) X dX11_readTable_84 hg ?_
          refine iv_aload_n (pc := 85) X dX11_readTable_85 rfl ?_
          refine gF_X11_53_75 (pc := 86) X dX11_readTable_86 ?_
          refine iv_iload_n (pc := 89) X dX11_readTable_89 rfl ?_
          refine iv_iconst (pc := 90) X dX11_readTable_90 ic_2 ?_
          obtain ⟨hg, hm⟩ := gd_some hm
          refine aS_90 (pc := 91) X dX11_readTable_91 hg ?_
          refine iv_aload_n (pc := 92) X dX11_readTable_92 rfl ?_
          refine iv_iload_n (pc := 93) X dX11_readTable_93 rfl ?_
          refine iv_iconst (pc := 94) X dX11_readTable_94 ic_m1 ?_
          obtain ⟨⟨r27, S26⟩, hc28, hm⟩ := bd_some hm
          refine cV_X11_289_75 (pc := 95) X [.int ((S1.1 75 10) + 1), .int (-1)] [] 2 rfl (f_X11_addRow_e l g ad ((S1.1 75 10) + 1) (-1) (uI (uI S22 89 r2.toNatClampNeg (S22.1 75 27)) 90 r2.toNatClampNeg 2) _ _ hc28) (by show (_ : Nat) ≤ D; omega) (by show (_ : Nat) ≤ 40 * D; omega) (Nat.le_of_ble_eq_true rfl) rfl dX11_readTable_95 ?_
          refine iv_aload_n (pc := 98) X dX11_readTable_98 rfl ?_
          refine iv_iload_n (pc := 99) X dX11_readTable_99 rfl ?_
          refine iv_iconst (pc := 100) X dX11_readTable_100 ic_m1 ?_
          obtain ⟨⟨r30, S29⟩, hc31, hm⟩ := bd_some hm
          refine cV_X11_289_75 (pc := 101) X [.int (S11.1 75 10), .int (-1)] [] 2 rfl (f_X11_addRow_e l g ad (S11.1 75 10) (-1) S26 _ _ hc31) (by show (_ : Nat) ≤ D; omega) (by show (_ : Nat) ≤ 40 * D; omega) (Nat.le_of_ble_eq_true rfl) rfl dX11_readTable_101 ?_
          refine iv_aload_n (pc := 104) X dX11_readTable_104 rfl ?_
          refine gF_X11_32_75 (pc := 105) X dX11_readTable_105 ?_
          refine iv_iload_n (pc := 108) X dX11_readTable_108 rfl ?_
          refine iv_aload_n (pc := 109) X dX11_readTable_109 rfl ?_
          obtain ⟨⟨r33, S32⟩, hc34, hm⟩ := bd_some hm
          refine cV_X11_305_75 (pc := 110) X [] [.int r2, .ref (ad 83)] 0 rfl (hK.2.1 0 0 S29 _ _ hc34) (by show (_ : Nat) ≤ D; omega) (by show (_ : Nat) ≤ 40 * D; omega) (Nat.le_of_ble_eq_true rfl) rfl dX11_readTable_110 ?_
          obtain ⟨hg, hm⟩ := gd_some hm
          refine aS_83 (pc := 113) X dX11_readTable_113 hg ?_
          refine iv_aload_n (pc := 114) X dX11_readTable_114 rfl ?_
          refine gF_X11_32_75 (pc := 115) X dX11_readTable_115 ?_
          refine iv_iload_n (pc := 118) X dX11_readTable_118 rfl ?_
          obtain ⟨hg, hm⟩ := gd_some hm
          refine aL_83 (pc := 119) X dX11_readTable_119 hg (x := (upd (S32.1 83) r2.toNatClampNeg r33) r2.toNatClampNeg) rfl ?_
          refine iv_iconst (pc := 120) X dX11_readTable_120 ic_m1 ?_
          refine iv_icmp_eq (pc := 121) X dX11_readTable_121 (tgt := 150) rfl (fun hb35 => ?_) (fun hb35 => ?_)
          · rw [if_pos hb35] at hm
            refine iv_iconst (pc := 150) X dX11_readTable_150 ic_m1 ?_
            cases hm
            exact is_iret (pc := 151) X dX11_readTable_151
          · rw [if_neg hb35] at hm
            refine iv_aload_n (pc := 124) X dX11_readTable_124 rfl ?_
            refine iv_aload_n (pc := 125) X dX11_readTable_125 rfl ?_
            refine iv_bipush (pc := 126) X dX11_readTable_126 bc_93 ?_
            obtain ⟨⟨r37, S36⟩, hc38, hm⟩ := bd_some hm
            refine cV_X11_283_75 (pc := 128) X [.int 93] [.ref (ad 75)] 1 rfl (f_X11_isSign_e l g ad 93 (uI S32 83 r2.toNatClampNeg r33) _ _ hc38) (by show (_ : Nat) ≤ D; omega) (by show (_ : Nat) ≤ 40 * D; omega) (Nat.le_of_ble_eq_true rfl) rfl dX11_readTable_128 ?_
            obtain ⟨⟨r40, S39⟩, hc41, hm⟩ := bd_some hm
            refine cV_X11_245_75 (pc := 131) X [.int r37] [] 1 rfl (f_X11_want_e l g ad r37 S36 _ _ hc41) (by show (_ : Nat) ≤ D; omega) (by show (_ : Nat) ≤ 40 * D; omega) (Nat.le_of_ble_eq_true rfl) rfl dX11_readTable_131 ?_
            refine iv_if_eq (pc := 134) X dX11_readTable_134 (tgt := 150) rfl (fun hb42 => ?_) (fun hb42 => ?_)
            · rw [if_pos hb42] at hm
              refine iv_iconst (pc := 150) X dX11_readTable_150 ic_m1 ?_
              cases hm
              exact is_iret (pc := 151) X dX11_readTable_151
            · rw [if_neg hb42] at hm
              refine iv_aload_n (pc := 137) X dX11_readTable_137 rfl ?_
              refine iv_aload_n (pc := 138) X dX11_readTable_138 rfl ?_
              refine iv_bipush (pc := 139) X dX11_readTable_139 bc_11 ?_
              obtain ⟨⟨r44, S43⟩, hc45, hm⟩ := bd_some hm
              refine cV_X11_261_75 (pc := 141) X [.int 11] [.ref (ad 75)] 1 rfl (f_X11_isWord_e l g ad 11 S39 _ _ hc45) (by show (_ : Nat) ≤ D; omega) (by show (_ : Nat) ≤ 40 * D; omega) (Nat.le_of_ble_eq_true rfl) rfl dX11_readTable_141 ?_
              obtain ⟨⟨r47, S46⟩, hc48, hm⟩ := bd_some hm
              refine cV_X11_245_75 (pc := 144) X [.int r44] [] 1 rfl (f_X11_want_e l g ad r44 S43 _ _ hc48) (by show (_ : Nat) ≤ D; omega) (by show (_ : Nat) ≤ 40 * D; omega) (Nat.le_of_ble_eq_true rfl) rfl dX11_readTable_144 ?_
              refine iv_if_ne (pc := 147) X dX11_readTable_147 (tgt := 152) rfl (fun hb49 => ?_) (fun hb49 => ?_)
              · rw [if_pos hb49] at hm
                refine iv_aload_n (pc := 152) X dX11_readTable_152 rfl ?_
                refine gF_X11_35_75 (pc := 153) X dX11_readTable_153 ?_
                refine iv_iload_n (pc := 156) X dX11_readTable_156 rfl ?_
                refine iv_aload_n (pc := 157) X dX11_readTable_157 rfl ?_
                obtain ⟨⟨r51, S50⟩, hc52, hm⟩ := bd_some hm
                refine cV_X11_257_75 (pc := 158) X [] [.int r2, .ref (ad 84)] 0 rfl (hK.1 0 0 S46 _ _ hc52) (by show (_ : Nat) ≤ D; omega) (by show (_ : Nat) ≤ 40 * D; omega) (Nat.le_of_ble_eq_true rfl) rfl dX11_readTable_158 ?_
                obtain ⟨hg, hm⟩ := gd_some hm
                refine aS_84 (pc := 161) X dX11_readTable_161 hg ?_
                refine iv_aload_n (pc := 162) X dX11_readTable_162 rfl ?_
                refine gF_X11_35_75 (pc := 163) X dX11_readTable_163 ?_
                refine iv_iload_n (pc := 166) X dX11_readTable_166 rfl ?_
                obtain ⟨hg, hm⟩ := gd_some hm
                refine aL_84 (pc := 167) X dX11_readTable_167 hg (x := (upd (S50.1 84) r2.toNatClampNeg r51) r2.toNatClampNeg) rfl ?_
                refine iv_iconst (pc := 168) X dX11_readTable_168 ic_m1 ?_
                refine iv_icmp_ne (pc := 169) X dX11_readTable_169 (tgt := 176) rfl (fun hb53 => ?_) (fun hb53 => ?_)
                · rw [if_pos hb53] at hm
                  refine iv_iload_n (pc := 176) X dX11_readTable_176 rfl ?_
                  cases hm
                  exact is_iret (pc := 177) X dX11_readTable_177
                · rw [if_neg hb53] at hm
                  refine iv_iconst (pc := 172) X dX11_readTable_172 ic_m1 ?_
                  refine iv_goto (pc := 173) X dX11_readTable_173 (tgt := 177) rfl ?_
                  cases hm
                  exact is_iret (pc := 177) X dX11_readTable_177
              · rw [if_neg hb49] at hm
                refine iv_iconst (pc := 150) X dX11_readTable_150 ic_m1 ?_
                cases hm
                exact is_iret (pc := 151) X dX11_readTable_151
        · rw [if_neg hb25] at hm
          refine iv_iconst (pc := 73) X dX11_readTable_73 ic_m1 ?_
          cases hm
          exact is_iret (pc := 74) X dX11_readTable_74
    · rw [if_neg hb14] at hm
      refine iv_iconst (pc := 46) X dX11_readTable_46 ic_m1 ?_
      cases hm
      exact is_iret (pc := 47) X dX11_readTable_47
def rc_read (fu : Nat) : Nat → Nat → Int32 → Int32 → im_S → Option (Int32 × im_S)
  | 0, _, _, _, _ => none
  | d + 1, lab, a, b, S => if lab = 0 then f_X11_readX (rc_read fu d) fu  S else (if lab = 1 then f_X11_readWithin (rc_read fu d) fu  S else (if lab = 2 then f_X11_readLet (rc_read fu d) fu  S else (if lab = 3 then f_X11_readIf (rc_read fu d) fu  S else (if lab = 4 then f_X11_readBindings (rc_read fu d) fu a S else (if lab = 5 then f_X11_readLoop (rc_read fu d) fu  S else (if lab = 6 then f_X11_readSigns (rc_read fu d) fu a S else (if lab = 7 then f_X11_readAhead (rc_read fu d) fu  S else (if lab = 8 then f_X11_readAtom (rc_read fu d) fu  S else (if lab = 9 then f_X11_readTable (rc_read fu d) fu  S else none)))))))))
theorem rc_read_h (l : Launch) (g : im_G) (ad : Nat → Nat) (fu : Nat) : ∀ d : Nat, kh_read l g ad (rc_read fu d) (d + 3) := by
  intro d
  induction d with
  | zero => exact ⟨(fun _ _ _ _ _ h => by cases h), (fun _ _ _ _ _ h => by cases h), (fun _ _ _ _ _ h => by cases h), (fun _ _ _ _ _ h => by cases h), (fun _ _ _ _ _ h => by cases h), (fun _ _ _ _ _ h => by cases h), (fun _ _ _ _ _ h => by cases h), (fun _ _ _ _ _ h => by cases h), (fun _ _ _ _ _ h => by cases h), (fun _ _ _ _ _ h => by cases h)⟩
  | succ d ih =>
    refine ⟨(fun a b S r S' hm => ?_), (fun a b S r S' hm => ?_), (fun a b S r S' hm => ?_), (fun a b S r S' hm => ?_), (fun a b S r S' hm => ?_), (fun a b S r S' hm => ?_), (fun a b S r S' hm => ?_), (fun a b S r S' hm => ?_), (fun a b S r S' hm => ?_), (fun a b S r S' hm => ?_)⟩
    · exact f_X11_readX_e l g ad (rc_read fu d) (dk := d + 3) (by omega) (by omega) ih fu  S r S' hm
    · exact f_X11_readWithin_e l g ad (rc_read fu d) (dk := d + 3) (by omega) (by omega) ih fu  S r S' hm
    · exact f_X11_readLet_e l g ad (rc_read fu d) (dk := d + 3) (by omega) (by omega) ih fu  S r S' hm
    · exact f_X11_readIf_e l g ad (rc_read fu d) (dk := d + 3) (by omega) (by omega) ih fu  S r S' hm
    · exact f_X11_readBindings_e l g ad (rc_read fu d) (dk := d + 3) (by omega) (by omega) ih fu a S r S' hm
    · exact f_X11_readLoop_e l g ad (rc_read fu d) (dk := d + 3) (by omega) (by omega) ih fu  S r S' hm
    · exact f_X11_readSigns_e l g ad (rc_read fu d) (dk := d + 3) (by omega) (by omega) ih fu a S r S' hm
    · exact f_X11_readAhead_e l g ad (rc_read fu d) (dk := d + 3) (by omega) (by omega) ih fu  S r S' hm
    · exact f_X11_readAtom_e l g ad (rc_read fu d) (dk := d + 3) (by omega) (by omega) ih fu  S r S' hm
    · exact f_X11_readTable_e l g ad (rc_read fu d) (dk := d + 3) (by omega) (by omega) ih fu  S r S' hm
def g_X11_readX (fu : Nat) (S : im_S) : Option (Int32 × im_S) := rc_read fu 1800 0 0 0 S
theorem g_X11_readX_e (l : Launch) (g : im_G) (ad : Nat → Nat) (fu : Nat) (S : im_S) (r : Int32) (S' : im_S) (hm : g_X11_readX fu  S = some (r, S')) : im_E l g ad 1803 yX11_readX cX11_readX 1 (some Jvm.ClassFile.FieldType.int) [.ref (ad 75)] S (some (.int r)) S' := (rc_read_h l g ad fu 1800).1 0 0 S r S' hm
def g_X11_readWithin (fu : Nat) (S : im_S) : Option (Int32 × im_S) := rc_read fu 1800 1 0 0 S
theorem g_X11_readWithin_e (l : Launch) (g : im_G) (ad : Nat → Nat) (fu : Nat) (S : im_S) (r : Int32) (S' : im_S) (hm : g_X11_readWithin fu  S = some (r, S')) : im_E l g ad 1803 yX11_readWithin cX11_readWithin 2 (some Jvm.ClassFile.FieldType.int) [.ref (ad 75)] S (some (.int r)) S' := (rc_read_h l g ad fu 1800).2.1 0 0 S r S' hm
def g_X11_readLet (fu : Nat) (S : im_S) : Option (Int32 × im_S) := rc_read fu 1800 2 0 0 S
theorem g_X11_readLet_e (l : Launch) (g : im_G) (ad : Nat → Nat) (fu : Nat) (S : im_S) (r : Int32) (S' : im_S) (hm : g_X11_readLet fu  S = some (r, S')) : im_E l g ad 1803 yX11_readLet cX11_readLet 2 (some Jvm.ClassFile.FieldType.int) [.ref (ad 75)] S (some (.int r)) S' := (rc_read_h l g ad fu 1800).2.2.1 0 0 S r S' hm
def g_X11_readIf (fu : Nat) (S : im_S) : Option (Int32 × im_S) := rc_read fu 1800 3 0 0 S
theorem g_X11_readIf_e (l : Launch) (g : im_G) (ad : Nat → Nat) (fu : Nat) (S : im_S) (r : Int32) (S' : im_S) (hm : g_X11_readIf fu  S = some (r, S')) : im_E l g ad 1803 yX11_readIf cX11_readIf 2 (some Jvm.ClassFile.FieldType.int) [.ref (ad 75)] S (some (.int r)) S' := (rc_read_h l g ad fu 1800).2.2.2.1 0 0 S r S' hm
def g_X11_readBindings (fu : Nat) (a : Int32) (S : im_S) : Option (Int32 × im_S) := rc_read fu 1800 4 a 0 S
theorem g_X11_readBindings_e (l : Launch) (g : im_G) (ad : Nat → Nat) (fu : Nat) (a : Int32) (S : im_S) (r : Int32) (S' : im_S) (hm : g_X11_readBindings fu a S = some (r, S')) : im_E l g ad 1803 yX11_readBindings cX11_readBindings 5 (some Jvm.ClassFile.FieldType.int) [.ref (ad 75), .int a] S (some (.int r)) S' := (rc_read_h l g ad fu 1800).2.2.2.2.1 a 0 S r S' hm
def g_X11_readLoop (fu : Nat) (S : im_S) : Option (Int32 × im_S) := rc_read fu 1800 5 0 0 S
theorem g_X11_readLoop_e (l : Launch) (g : im_G) (ad : Nat → Nat) (fu : Nat) (S : im_S) (r : Int32) (S' : im_S) (hm : g_X11_readLoop fu  S = some (r, S')) : im_E l g ad 1803 yX11_readLoop cX11_readLoop 4 (some Jvm.ClassFile.FieldType.int) [.ref (ad 75)] S (some (.int r)) S' := (rc_read_h l g ad fu 1800).2.2.2.2.2.1 0 0 S r S' hm
def g_X11_readSigns (fu : Nat) (a : Int32) (S : im_S) : Option (Int32 × im_S) := rc_read fu 1800 6 a 0 S
theorem g_X11_readSigns_e (l : Launch) (g : im_G) (ad : Nat → Nat) (fu : Nat) (a : Int32) (S : im_S) (r : Int32) (S' : im_S) (hm : g_X11_readSigns fu a S = some (r, S')) : im_E l g ad 1803 yX11_readSigns cX11_readSigns 6 (some Jvm.ClassFile.FieldType.int) [.ref (ad 75), .int a] S (some (.int r)) S' := (rc_read_h l g ad fu 1800).2.2.2.2.2.2.1 a 0 S r S' hm
def g_X11_readAhead (fu : Nat) (S : im_S) : Option (Int32 × im_S) := rc_read fu 1800 7 0 0 S
theorem g_X11_readAhead_e (l : Launch) (g : im_G) (ad : Nat → Nat) (fu : Nat) (S : im_S) (r : Int32) (S' : im_S) (hm : g_X11_readAhead fu  S = some (r, S')) : im_E l g ad 1803 yX11_readAhead cX11_readAhead 5 (some Jvm.ClassFile.FieldType.int) [.ref (ad 75)] S (some (.int r)) S' := (rc_read_h l g ad fu 1800).2.2.2.2.2.2.2.1 0 0 S r S' hm
def g_X11_readAtom (fu : Nat) (S : im_S) : Option (Int32 × im_S) := rc_read fu 1800 8 0 0 S
theorem g_X11_readAtom_e (l : Launch) (g : im_G) (ad : Nat → Nat) (fu : Nat) (S : im_S) (r : Int32) (S' : im_S) (hm : g_X11_readAtom fu  S = some (r, S')) : im_E l g ad 1803 yX11_readAtom cX11_readAtom 4 (some Jvm.ClassFile.FieldType.int) [.ref (ad 75)] S (some (.int r)) S' := (rc_read_h l g ad fu 1800).2.2.2.2.2.2.2.2.1 0 0 S r S' hm
def g_X11_readTable (fu : Nat) (S : im_S) : Option (Int32 × im_S) := rc_read fu 1800 9 0 0 S
theorem g_X11_readTable_e (l : Launch) (g : im_G) (ad : Nat → Nat) (fu : Nat) (S : im_S) (r : Int32) (S' : im_S) (hm : g_X11_readTable fu  S = some (r, S')) : im_E l g ad 1803 yX11_readTable cX11_readTable 4 (some Jvm.ClassFile.FieldType.int) [.ref (ad 75)] S (some (.int r)) S' := (rc_read_h l g ad fu 1800).2.2.2.2.2.2.2.2.2 0 0 S r S' hm
