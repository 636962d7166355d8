/-! written by program (wip/whole/walk.py): methods as functions, and their contracts -/
def kh_look (l : Launch) (g : im_G) (ad : Nat → Nat) (K : Nat → Int32 → Int32 → im_S → Option (Int32 × im_S)) (dk : Nat) : Prop := (∀ (a b : Int32) (S : im_S) (r : Int32) (S' : im_S), K 0 a b S = some (r, S') → im_E l g ad dk yX11_look cX11_look 2 (some Jvm.ClassFile.FieldType.int) [.ref (ad 75), .int a] S (some (.int r)) S') ∧ (∀ (a b : Int32) (S : im_S) (r : Int32) (S' : im_S), K 1 a b S = some (r, S') → im_E l g ad dk yX11_typed cX11_typed 5 (some Jvm.ClassFile.FieldType.int) [.ref (ad 75), .int a] S (some (.int r)) S') ∧ (∀ (a b : Int32) (S : im_S) (r : Int32) (S' : im_S), K 2 a b S = some (r, S') → im_E l g ad dk yX11_wants cX11_wants 3 none [.ref (ad 75), .int a, .int b] S none S') ∧ (∀ (a b : Int32) (S : im_S) (r : Int32) (S' : im_S), K 3 a b S = some (r, S') → im_E l g ad dk yX11_lookCall cX11_lookCall 5 (some Jvm.ClassFile.FieldType.int) [.ref (ad 75), .int a] S (some (.int r)) S') ∧ (∀ (a b : Int32) (S : im_S) (r : Int32) (S' : im_S), K 4 a b S = some (r, S') → im_E l g ad dk yX11_lookLet cX11_lookLet 3 (some Jvm.ClassFile.FieldType.int) [.ref (ad 75), .int a] S (some (.int r)) S') ∧ (∀ (a b : Int32) (S : im_S) (r : Int32) (S' : im_S), K 5 a b S = some (r, S') → im_E l g ad dk yX11_lookLoop cX11_lookLoop 7 (some Jvm.ClassFile.FieldType.int) [.ref (ad 75), .int a] S (some (.int r)) S') ∧ (∀ (a b : Int32) (S : im_S) (r : Int32) (S' : im_S), K 6 a b S = some (r, S') → im_E l g ad dk yX11_lookTable cX11_lookTable 3 (some Jvm.ClassFile.FieldType.int) [.ref (ad 75), .int a] S (some (.int r)) S')
def f_X11_look (K : Nat → Int32 → Int32 → im_S → Option (Int32 × im_S)) (fu : Nat) (x1 : Int32) (S : im_S) : Option (Int32 × im_S) := (K 1 x1 0 S).bind (fun qS1 => gd (in_b x1 1200) (gd (in_b x1 1200) (some ((upd (qS1.2.1 88) x1.toNatClampNeg qS1.1) x1.toNatClampNeg, (uI qS1.2 88 x1.toNatClampNeg qS1.1)))))
set_option maxHeartbeats 4000000 in
set_option maxRecDepth 100000 in
theorem f_X11_look_e (l : Launch) (g : im_G) (ad : Nat → Nat) (K : Nat → Int32 → Int32 → im_S → Option (Int32 × im_S)) {D dk : Nat} (hD1 : dk + 1 ≤ D) (hD2 : 3 ≤ D) (hK : kh_look l g ad K dk) (fu : Nat) (x1 : Int32) (S : im_S) (r : Int32) (S' : im_S) (hm : f_X11_look K fu x1 S = some (r, S')) : im_E l g ad D yX11_look cX11_look 2 (some Jvm.ClassFile.FieldType.int) [.ref (ad 75), .int x1] S (some (.int r)) S' := by
  unfold f_X11_look at hm
  refine is_met (own := RX11) (by decide +kernel) rfl (Nat.le_of_ble_eq_true rfl) (fun p e s m below meth c X => ?_)
  refine iv_aload_n (pc := 0) X dX11_look_0 rfl ?_
  refine gF_X11_47_75 (pc := 1) X dX11_look_1 ?_
  refine iv_iload_n (pc := 4) X dX11_look_4 rfl ?_
  refine iv_aload_n (pc := 5) X dX11_look_5 rfl ?_
  refine iv_iload_n (pc := 6) X dX11_look_6 rfl ?_
  obtain ⟨⟨r2, S1⟩, hc3, hm⟩ := bd_some hm
  refine cV_X11_341_75 (pc := 7) X [.int x1] [.int x1, .ref (ad 88)] 1 rfl (hK.2.1 x1 0 S _ _ hc3) (by show (_ : Nat) ≤ D; omega) (by show (_ : Nat) ≤ 40 * D; omega) (Nat.le_of_ble_eq_true rfl) rfl dX11_look_7 ?_
  obtain ⟨hg, hm⟩ := gd_some hm
  refine aS_88 (pc := 10) X dX11_look_10 hg ?_
  refine iv_aload_n (pc := 11) X dX11_look_11 rfl ?_
  refine gF_X11_47_75 (pc := 12) X dX11_look_12 ?_
  refine iv_iload_n (pc := 15) X dX11_look_15 rfl ?_
  obtain ⟨hg, hm⟩ := gd_some hm
  refine aL_88 (pc := 16) X dX11_look_16 hg (x := (upd (S1.1 88) x1.toNatClampNeg r2) x1.toNatClampNeg) rfl ?_
  cases hm
  exact is_iret (pc := 17) X dX11_look_17
def f_X11_typed (K : Nat → Int32 → Int32 → im_S → Option (Int32 × im_S)) (fu : Nat) (x1 : Int32) (S : im_S) : Option (Int32 × im_S) := gd (in_b x1 1200) (if ((S.1 81) x1.toNatClampNeg) = (1 : Int32) then (some (1, S)) else (if ((S.1 81) x1.toNatClampNeg) = (2 : Int32) then (some (2, S)) else (if ((S.1 81) x1.toNatClampNeg) = (3 : Int32) then ((f_X11_lookName fu x1 S).bind (fun qS4 => some (qS4.1, qS4.2))) else (if ((S.1 81) x1.toNatClampNeg) = (4 : Int32) then ((K 3 x1 0 S).bind (fun qS8 => some (qS8.1, qS8.2))) else (if ((S.1 81) x1.toNatClampNeg) = (5 : Int32) then ((K 4 x1 0 S).bind (fun qS12 => some (qS12.1, qS12.2))) else (if ((S.1 81) x1.toNatClampNeg) = (6 : Int32) then (gd (in_b x1 1200) ((K 2 ((S.1 83) x1.toNatClampNeg) 2 S).bind (fun qS16 => gd (in_b x1 1200) ((K 0 ((qS16.2.1 84) x1.toNatClampNeg) 0 qS16.2).bind (fun qS19 => gd (in_b x1 1200) ((K 2 ((qS19.2.1 85) x1.toNatClampNeg) qS19.1 qS19.2).bind (fun qS22 => some (qS19.1, qS22.2)))))))) else (if ((S.1 81) x1.toNatClampNeg) = (7 : Int32) then ((K 5 x1 0 S).bind (fun qS26 => some (qS26.1, qS26.2))) else (if ((S.1 81) x1.toNatClampNeg) = (8 : Int32) then (gd (in_b x1 1200) (if ((S.1 86) x1.toNatClampNeg : Int32) ≠ 45 then (gd (in_b x1 1200) ((K 2 ((S.1 83) x1.toNatClampNeg) 2 S).bind (fun qS31 => some (2, qS31.2)))) else (gd (in_b x1 1200) ((K 2 ((S.1 83) x1.toNatClampNeg) 1 S).bind (fun qS34 => some (1, qS34.2)))))) else (if ((S.1 81) x1.toNatClampNeg) = (9 : Int32) then (gd (in_b x1 1200) (if ((S.1 86) x1.toNatClampNeg : Int32) = 124 then (gd (in_b x1 1200) ((K 2 ((S.1 83) x1.toNatClampNeg) 2 S).bind (fun qS40 => gd (in_b x1 1200) ((K 2 ((qS40.2.1 84) x1.toNatClampNeg) 2 qS40.2).bind (fun qS44 => some (2, qS44.2)))))) else (gd (in_b x1 1200) (if ((S.1 86) x1.toNatClampNeg : Int32) ≠ 38 then (gd (in_b x1 1200) ((K 2 ((S.1 83) x1.toNatClampNeg) 1 S).bind (fun qS50 => gd (in_b x1 1200) ((K 2 ((qS50.2.1 84) x1.toNatClampNeg) 1 qS50.2).bind (fun qS54 => gd (in_b x1 1200) (if ((qS54.2.1 86) x1.toNatClampNeg : Int32) = 61 then (some (2, qS54.2)) else (gd (in_b x1 1200) (if ((qS54.2.1 86) x1.toNatClampNeg : Int32) ≠ 60 then (some (1, qS54.2)) else (some (2, qS54.2)))))))))) else (gd (in_b x1 1200) ((K 2 ((S.1 83) x1.toNatClampNeg) 2 S).bind (fun qS61 => gd (in_b x1 1200) ((K 2 ((qS61.2.1 84) x1.toNatClampNeg) 2 qS61.2).bind (fun qS65 => some (2, qS65.2)))))))))) else (if ((S.1 81) x1.toNatClampNeg) = (10 : Int32) then (gd (in_b x1 1200) ((K 2 ((S.1 83) x1.toNatClampNeg) 3 S).bind (fun qS70 => gd (in_b x1 1200) ((K 2 ((qS70.2.1 84) x1.toNatClampNeg) 1 qS70.2).bind (fun qS73 => some (1, qS73.2)))))) else (if ((S.1 81) x1.toNatClampNeg) = (11 : Int32) then ((K 6 x1 0 S).bind (fun qS77 => some (qS77.1, qS77.2))) else (gd (in_b x1 1200) ((K 0 ((S.1 83) x1.toNatClampNeg) 0 S).bind (fun qS80 => some (qS80.1, qS80.2)))))))))))))))
set_option maxHeartbeats 4000000 in
set_option maxRecDepth 100000 in
theorem f_X11_typed_e (l : Launch) (g : im_G) (ad : Nat → Nat) (K : Nat → Int32 → Int32 → im_S → Option (Int32 × im_S)) {D dk : Nat} (hD1 : dk + 1 ≤ D) (hD2 : 3 ≤ D) (hK : kh_look l g ad K dk) (fu : Nat) (x1 : Int32) (S : im_S) (r : Int32) (S' : im_S) (hm : f_X11_typed K fu x1 S = some (r, S')) : im_E l g ad D yX11_typed cX11_typed 5 (some Jvm.ClassFile.FieldType.int) [.ref (ad 75), .int x1] S (some (.int r)) S' := by
  unfold f_X11_typed at hm
  refine is_met (own := RX11) (by decide +kernel) rfl (Nat.le_of_ble_eq_true rfl) (fun p e s m below meth c X => ?_)
  refine iv_aload_n (pc := 0) X dX11_typed_0 rfl ?_
  refine gF_X11_26_75 (pc := 1) X dX11_typed_1 ?_
  refine iv_iload_n (pc := 4) X dX11_typed_4 rfl ?_
  obtain ⟨hg, hm⟩ := gd_some hm
  refine aL_81 (pc := 5) X dX11_typed_5 hg (x := (S.1 81) x1.toNatClampNeg) rfl ?_
  by_cases hb1 : ((S.1 81) x1.toNatClampNeg) = (1 : Int32)
  · rw [if_pos hb1] at hm
    refine iv_tableIn X dX11_typed_6 (off := 58) (tgt := 64) (by rw [hb1]; decide) (by rw [hb1]; decide) (by rw [hb1]; decide) (by decide) ?_
    refine iv_iconst (pc := 64) X dX11_typed_64 ic_1 ?_
    cases hm
    exact is_iret (pc := 65) X dX11_typed_65
  · rw [if_neg hb1] at hm
    by_cases hb2 : ((S.1 81) x1.toNatClampNeg) = (2 : Int32)
    · rw [if_pos hb2] at hm
      refine iv_tableIn X dX11_typed_6 (off := 60) (tgt := 66) (by rw [hb2]; decide) (by rw [hb2]; decide) (by rw [hb2]; decide) (by decide) ?_
      refine iv_iconst (pc := 66) X dX11_typed_66 ic_2 ?_
      cases hm
      exact is_iret (pc := 67) X dX11_typed_67
    · rw [if_neg hb2] at hm
      by_cases hb3 : ((S.1 81) x1.toNatClampNeg) = (3 : Int32)
      · rw [if_pos hb3] at hm
        refine iv_tableIn X dX11_typed_6 (off := 62) (tgt := 68) (by rw [hb3]; decide) (by rw [hb3]; decide) (by rw [hb3]; decide) (by decide) ?_
        refine iv_aload_n (pc := 68) X dX11_typed_68 rfl ?_
        refine iv_iload_n (pc := 69) X dX11_typed_69 rfl ?_
        obtain ⟨⟨r5, S4⟩, hc6, hm⟩ := bd_some hm
        refine cV_X11_344_75 (pc := 70) X [.int x1] [] 1 rfl (f_X11_lookName_e l g ad fu x1 S _ _ hc6) (by show (_ : Nat) ≤ D; omega) (by show (_ : Nat) ≤ 40 * D; omega) (Nat.le_of_ble_eq_true rfl) rfl dX11_typed_70 ?_
        cases hm
        exact is_iret (pc := 73) X dX11_typed_73
      · rw [if_neg hb3] at hm
        by_cases hb7 : ((S.1 81) x1.toNatClampNeg) = (4 : Int32)
        · rw [if_pos hb7] at hm
          refine iv_tableIn X dX11_typed_6 (off := 68) (tgt := 74) (by rw [hb7]; decide) (by rw [hb7]; decide) (by rw [hb7]; decide) (by decide) ?_
          refine iv_aload_n (pc := 74) X dX11_typed_74 rfl ?_
          refine iv_iload_n (pc := 75) X dX11_typed_75 rfl ?_
          obtain ⟨⟨r9, S8⟩, hc10, hm⟩ := bd_some hm
          refine cV_X11_347_75 (pc := 76) X [.int x1] [] 1 rfl (hK.2.2.2.1 x1 0 S _ _ hc10) (by show (_ : Nat) ≤ D; omega) (by show (_ : Nat) ≤ 40 * D; omega) (Nat.le_of_ble_eq_true rfl) rfl dX11_typed_76 ?_
          cases hm
          exact is_iret (pc := 79) X dX11_typed_79
        · rw [if_neg hb7] at hm
          by_cases hb11 : ((S.1 81) x1.toNatClampNeg) = (5 : Int32)
          · rw [if_pos hb11] at hm
            refine iv_tableIn X dX11_typed_6 (off := 74) (tgt := 80) (by rw [hb11]; decide) (by rw [hb11]; decide) (by rw [hb11]; decide) (by decide) ?_
            refine iv_aload_n (pc := 80) X dX11_typed_80 rfl ?_
            refine iv_iload_n (pc := 81) X dX11_typed_81 rfl ?_
            obtain ⟨⟨r13, S12⟩, hc14, hm⟩ := bd_some hm
            refine cV_X11_350_75 (pc := 82) X [.int x1] [] 1 rfl (hK.2.2.2.2.1 x1 0 S _ _ hc14) (by show (_ : Nat) ≤ D; omega) (by show (_ : Nat) ≤ 40 * D; omega) (Nat.le_of_ble_eq_true rfl) rfl dX11_typed_82 ?_
            cases hm
            exact is_iret (pc := 85) X dX11_typed_85
          · rw [if_neg hb11] at hm
            by_cases hb15 : ((S.1 81) x1.toNatClampNeg) = (6 : Int32)
            · rw [if_pos hb15] at hm
              refine iv_tableIn X dX11_typed_6 (off := 80) (tgt := 86) (by rw [hb15]; decide) (by rw [hb15]; decide) (by rw [hb15]; decide) (by decide) ?_
              refine iv_aload_n (pc := 86) X dX11_typed_86 rfl ?_
              refine iv_aload_n (pc := 87) X dX11_typed_87 rfl ?_
              refine gF_X11_32_75 (pc := 88) X dX11_typed_88 ?_
              refine iv_iload_n (pc := 91) X dX11_typed_91 rfl ?_
              obtain ⟨hg, hm⟩ := gd_some hm
              refine aL_83 (pc := 92) X dX11_typed_92 hg (x := (S.1 83) x1.toNatClampNeg) rfl ?_
              refine iv_iconst (pc := 93) X dX11_typed_93 ic_2 ?_
              obtain ⟨⟨r17, S16⟩, hc18, hm⟩ := bd_some hm
              refine cV_X11_353_75 (pc := 94) X [.int ((S.1 83) x1.toNatClampNeg), .int 2] [] 2 rfl (hK.2.2.1 ((S.1 83) x1.toNatClampNeg) 2 S _ _ hc18) (by show (_ : Nat) ≤ D; omega) (by show (_ : Nat) ≤ 40 * D; omega) (Nat.le_of_ble_eq_true rfl) rfl dX11_typed_94 ?_
              refine iv_aload_n (pc := 97) X dX11_typed_97 rfl ?_
              refine iv_aload_n (pc := 98) X dX11_typed_98 rfl ?_
              refine gF_X11_35_75 (pc := 99) X dX11_typed_99 ?_
              refine iv_iload_n (pc := 102) X dX11_typed_102 rfl ?_
              obtain ⟨hg, hm⟩ := gd_some hm
              refine aL_84 (pc := 103) X dX11_typed_103 hg (x := (S16.1 84) x1.toNatClampNeg) rfl ?_
              obtain ⟨⟨r20, S19⟩, hc21, hm⟩ := bd_some hm
              refine cV_X11_338_75 (pc := 104) X [.int ((S16.1 84) x1.toNatClampNeg)] [] 1 rfl (hK.1 ((S16.1 84) x1.toNatClampNeg) 0 S16 _ _ hc21) (by show (_ : Nat) ≤ D; omega) (by show (_ : Nat) ≤ 40 * D; omega) (Nat.le_of_ble_eq_true rfl) rfl dX11_typed_104 ?_
              refine iv_istore_n (pc := 107) X dX11_typed_107 (by decide) (lv' := [(2, .int r20), (0, .ref (ad 75)), (1, .int x1)]) rfl ?_
              refine iv_aload_n (pc := 108) X dX11_typed_108 rfl ?_
              refine iv_aload_n (pc := 109) X dX11_typed_109 rfl ?_
              refine gF_X11_38_75 (pc := 110) X dX11_typed_110 ?_
              refine iv_iload_n (pc := 113) X dX11_typed_113 rfl ?_
              obtain ⟨hg, hm⟩ := gd_some hm
              refine aL_85 (pc := 114) X dX11_typed_114 hg (x := (S19.1 85) x1.toNatClampNeg) rfl ?_
              refine iv_iload_n (pc := 115) X dX11_typed_115 rfl ?_
              obtain ⟨⟨r23, S22⟩, hc24, hm⟩ := bd_some hm
              refine cV_X11_353_75 (pc := 116) X [.int ((S19.1 85) x1.toNatClampNeg), .int r20] [] 2 rfl (hK.2.2.1 ((S19.1 85) x1.toNatClampNeg) r20 S19 _ _ hc24) (by show (_ : Nat) ≤ D; omega) (by show (_ : Nat) ≤ 40 * D; omega) (Nat.le_of_ble_eq_true rfl) rfl dX11_typed_116 ?_
              refine iv_iload_n (pc := 119) X dX11_typed_119 rfl ?_
              cases hm
              exact is_iret (pc := 120) X dX11_typed_120
            · rw [if_neg hb15] at hm
              by_cases hb25 : ((S.1 81) x1.toNatClampNeg) = (7 : Int32)
              · rw [if_pos hb25] at hm
                refine iv_tableIn X dX11_typed_6 (off := 115) (tgt := 121) (by rw [hb25]; decide) (by rw [hb25]; decide) (by rw [hb25]; decide) (by decide) ?_
                refine iv_aload_n (pc := 121) X dX11_typed_121 rfl ?_
                refine iv_iload_n (pc := 122) X dX11_typed_122 rfl ?_
                obtain ⟨⟨r27, S26⟩, hc28, hm⟩ := bd_some hm
                refine cV_X11_356_75 (pc := 123) X [.int x1] [] 1 rfl (hK.2.2.2.2.2.1 x1 0 S _ _ hc28) (by show (_ : Nat) ≤ D; omega) (by show (_ : Nat) ≤ 40 * D; omega) (Nat.le_of_ble_eq_true rfl) rfl dX11_typed_123 ?_
                cases hm
                exact is_iret (pc := 126) X dX11_typed_126
              · rw [if_neg hb25] at hm
                by_cases hb29 : ((S.1 81) x1.toNatClampNeg) = (8 : Int32)
                · rw [if_pos hb29] at hm
                  refine iv_tableIn X dX11_typed_6 (off := 121) (tgt := 127) (by rw [hb29]; decide) (by rw [hb29]; decide) (by rw [hb29]; decide) (by decide) ?_
                  refine iv_aload_n (pc := 127) X dX11_typed_127 rfl ?_
                  refine gF_X11_41_75 (pc := 128) X dX11_typed_128 ?_
                  refine iv_iload_n (pc := 131) X dX11_typed_131 rfl ?_
                  obtain ⟨hg, hm⟩ := gd_some hm
                  refine aL_86 (pc := 132) X dX11_typed_132 hg (x := (S.1 86) x1.toNatClampNeg) rfl ?_
                  refine iv_bipush (pc := 133) X dX11_typed_133 bc_45 ?_
                  refine iv_icmp_ne (pc := 135) X dX11_typed_135 (tgt := 142) rfl (fun hb30 => ?_) (fun hb30 => ?_)
                  · rw [if_pos hb30] at hm
                    refine iv_iconst (pc := 142) X dX11_typed_142 ic_2 ?_
                    refine iv_istore_n (pc := 143) X dX11_typed_143 (by decide) (lv' := [(3, .int 2), (0, .ref (ad 75)), (1, .int x1)]) rfl ?_
                    refine iv_aload_n (pc := 144) X dX11_typed_144 rfl ?_
                    refine iv_aload_n (pc := 145) X dX11_typed_145 rfl ?_
                    refine gF_X11_32_75 (pc := 146) X dX11_typed_146 ?_
                    refine iv_iload_n (pc := 149) X dX11_typed_149 rfl ?_
                    obtain ⟨hg, hm⟩ := gd_some hm
                    refine aL_83 (pc := 150) X dX11_typed_150 hg (x := (S.1 83) x1.toNatClampNeg) rfl ?_
                    refine iv_iload_n (pc := 151) X dX11_typed_151 rfl ?_
                    obtain ⟨⟨r32, S31⟩, hc33, hm⟩ := bd_some hm
                    refine cV_X11_353_75 (pc := 152) X [.int ((S.1 83) x1.toNatClampNeg), .int 2] [] 2 rfl (hK.2.2.1 ((S.1 83) x1.toNatClampNeg) 2 S _ _ hc33) (by show (_ : Nat) ≤ D; omega) (by show (_ : Nat) ≤ 40 * D; omega) (Nat.le_of_ble_eq_true rfl) rfl dX11_typed_152 ?_
                    refine iv_iload_n (pc := 155) X dX11_typed_155 rfl ?_
                    cases hm
                    exact is_iret (pc := 156) X dX11_typed_156
                  · rw [if_neg hb30] at hm
                    refine iv_iconst (pc := 138) X dX11_typed_138 ic_1 ?_
                    refine iv_goto (pc := 139) X dX11_typed_139 (tgt := 143) rfl ?_
                    refine iv_istore_n (pc := 143) X dX11_typed_143 (by decide) (lv' := [(3, .int 1), (0, .ref (ad 75)), (1, .int x1)]) rfl ?_
                    refine iv_aload_n (pc := 144) X dX11_typed_144 rfl ?_
                    refine iv_aload_n (pc := 145) X dX11_typed_145 rfl ?_
                    refine gF_X11_32_75 (pc := 146) X dX11_typed_146 ?_
                    refine iv_iload_n (pc := 149) X dX11_typed_149 rfl ?_
                    obtain ⟨hg, hm⟩ := gd_some hm
                    refine aL_83 (pc := 150) X dX11_typed_150 hg (x := (S.1 83) x1.toNatClampNeg) rfl ?_
                    refine iv_iload_n (pc := 151) X dX11_typed_151 rfl ?_
                    obtain ⟨⟨r35, S34⟩, hc36, hm⟩ := bd_some hm
                    refine cV_X11_353_75 (pc := 152) X [.int ((S.1 83) x1.toNatClampNeg), .int 1] [] 2 rfl (hK.2.2.1 ((S.1 83) x1.toNatClampNeg) 1 S _ _ hc36) (by show (_ : Nat) ≤ D; omega) (by show (_ : Nat) ≤ 40 * D; omega) (Nat.le_of_ble_eq_true rfl) rfl dX11_typed_152 ?_
                    refine iv_iload_n (pc := 155) X dX11_typed_155 rfl ?_
                    cases hm
                    exact is_iret (pc := 156) X dX11_typed_156
                · rw [if_neg hb29] at hm
                  by_cases hb37 : ((S.1 81) x1.toNatClampNeg) = (9 : Int32)
                  · rw [if_pos hb37] at hm
                    refine iv_tableIn X dX11_typed_6 (off := 151) (tgt := 157) (by rw [hb37]; decide) (by rw [hb37]; decide) (by rw [hb37]; decide) (by decide) ?_
                    refine iv_aload_n (pc := 157) X dX11_typed_157 rfl ?_
                    refine gF_X11_41_75 (pc := 158) X dX11_typed_158 ?_
                    refine iv_iload_n (pc := 161) X dX11_typed_161 rfl ?_
                    obtain ⟨hg, hm⟩ := gd_some hm
                    refine aL_86 (pc := 162) X dX11_typed_162 hg (x := (S.1 86) x1.toNatClampNeg) rfl ?_
                    refine iv_bipush (pc := 163) X dX11_typed_163 bc_124 ?_
                    refine iv_icmp_eq (pc := 165) X dX11_typed_165 (tgt := 179) rfl (fun hb38 => ?_) (fun hb38 => ?_)
                    · rw [if_pos hb38] at hm
                      refine iv_iconst (pc := 179) X dX11_typed_179 ic_1 ?_
                      refine iv_goto (pc := 180) X dX11_typed_180 (tgt := 184) rfl ?_
                      refine iv_istore (pc := 184) X dX11_typed_184 (by decide) (lv' := [(4, .int 1), (0, .ref (ad 75)), (1, .int x1)]) rfl ?_
                      refine iv_aload_n (pc := 186) X dX11_typed_186 rfl ?_
                      refine iv_aload_n (pc := 187) X dX11_typed_187 rfl ?_
                      refine gF_X11_32_75 (pc := 188) X dX11_typed_188 ?_
                      refine iv_iload_n (pc := 191) X dX11_typed_191 rfl ?_
                      obtain ⟨hg, hm⟩ := gd_some hm
                      refine aL_83 (pc := 192) X dX11_typed_192 hg (x := (S.1 83) x1.toNatClampNeg) rfl ?_
                      refine iv_iload (pc := 193) X dX11_typed_193 rfl ?_
                      refine iv_if_eq (pc := 195) X dX11_typed_195 (tgt := 202) rfl (fun hb => absurd hb (by decide)) (fun _ => ?_)
                      refine iv_iconst (pc := 198) X dX11_typed_198 ic_2 ?_
                      refine iv_goto (pc := 199) X dX11_typed_199 (tgt := 203) rfl ?_
                      obtain ⟨⟨r41, S40⟩, hc42, hm⟩ := bd_some hm
                      refine cV_X11_353_75 (pc := 203) X [.int ((S.1 83) x1.toNatClampNeg), .int 2] [] 2 rfl (hK.2.2.1 ((S.1 83) x1.toNatClampNeg) 2 S _ _ hc42) (by show (_ : Nat) ≤ D; omega) (by show (_ : Nat) ≤ 40 * D; omega) (Nat.le_of_ble_eq_true rfl) rfl dX11_typed_203 ?_
                      refine iv_aload_n (pc := 206) X dX11_typed_206 rfl ?_
                      refine iv_aload_n (pc := 207) X dX11_typed_207 rfl ?_
                      refine gF_X11_35_75 (pc := 208) X dX11_typed_208 ?_
                      refine iv_iload_n (pc := 211) X dX11_typed_211 rfl ?_
                      obtain ⟨hg, hm⟩ := gd_some hm
                      refine aL_84 (pc := 212) X dX11_typed_212 hg (x := (S40.1 84) x1.toNatClampNeg) rfl ?_
                      refine iv_iload (pc := 213) X dX11_typed_213 rfl ?_
                      refine iv_if_eq (pc := 215) X dX11_typed_215 (tgt := 222) rfl (fun hb => absurd hb (by decide)) (fun _ => ?_)
                      refine iv_iconst (pc := 218) X dX11_typed_218 ic_2 ?_
                      refine iv_goto (pc := 219) X dX11_typed_219 (tgt := 223) rfl ?_
                      obtain ⟨⟨r45, S44⟩, hc46, hm⟩ := bd_some hm
                      refine cV_X11_353_75 (pc := 223) X [.int ((S40.1 84) x1.toNatClampNeg), .int 2] [] 2 rfl (hK.2.2.1 ((S40.1 84) x1.toNatClampNeg) 2 S40 _ _ hc46) (by show (_ : Nat) ≤ D; omega) (by show (_ : Nat) ≤ 40 * D; omega) (Nat.le_of_ble_eq_true rfl) rfl dX11_typed_223 ?_
                      refine iv_iload (pc := 226) X dX11_typed_226 rfl ?_
                      refine iv_if_ne (pc := 228) X dX11_typed_228 (tgt := 253) rfl (fun _ => ?_) (fun hb => absurd (by decide) hb)
                      refine iv_iconst (pc := 253) X dX11_typed_253 ic_2 ?_
                      refine iv_goto (pc := 254) X dX11_typed_254 (tgt := 258) rfl ?_
                      cases hm
                      exact is_iret (pc := 258) X dX11_typed_258
                    · rw [if_neg hb38] at hm
                      refine iv_aload_n (pc := 168) X dX11_typed_168 rfl ?_
                      refine gF_X11_41_75 (pc := 169) X dX11_typed_169 ?_
                      refine iv_iload_n (pc := 172) X dX11_typed_172 rfl ?_
                      obtain ⟨hg, hm⟩ := gd_some hm
                      refine aL_86 (pc := 173) X dX11_typed_173 hg (x := (S.1 86) x1.toNatClampNeg) rfl ?_
                      refine iv_bipush (pc := 174) X dX11_typed_174 bc_38 ?_
                      refine iv_icmp_ne (pc := 176) X dX11_typed_176 (tgt := 183) rfl (fun hb48 => ?_) (fun hb48 => ?_)
                      · rw [if_pos hb48] at hm
                        refine iv_iconst (pc := 183) X dX11_typed_183 ic_0 ?_
                        refine iv_istore (pc := 184) X dX11_typed_184 (by decide) (lv' := [(4, .int 0), (0, .ref (ad 75)), (1, .int x1)]) rfl ?_
                        refine iv_aload_n (pc := 186) X dX11_typed_186 rfl ?_
                        refine iv_aload_n (pc := 187) X dX11_typed_187 rfl ?_
                        refine gF_X11_32_75 (pc := 188) X dX11_typed_188 ?_
                        refine iv_iload_n (pc := 191) X dX11_typed_191 rfl ?_
                        obtain ⟨hg, hm⟩ := gd_some hm
                        refine aL_83 (pc := 192) X dX11_typed_192 hg (x := (S.1 83) x1.toNatClampNeg) rfl ?_
                        refine iv_iload (pc := 193) X dX11_typed_193 rfl ?_
                        refine iv_if_eq (pc := 195) X dX11_typed_195 (tgt := 202) rfl (fun _ => ?_) (fun hb => absurd (by decide) hb)
                        refine iv_iconst (pc := 202) X dX11_typed_202 ic_1 ?_
                        obtain ⟨⟨r51, S50⟩, hc52, hm⟩ := bd_some hm
                        refine cV_X11_353_75 (pc := 203) X [.int ((S.1 83) x1.toNatClampNeg), .int 1] [] 2 rfl (hK.2.2.1 ((S.1 83) x1.toNatClampNeg) 1 S _ _ hc52) (by show (_ : Nat) ≤ D; omega) (by show (_ : Nat) ≤ 40 * D; omega) (Nat.le_of_ble_eq_true rfl) rfl dX11_typed_203 ?_
                        refine iv_aload_n (pc := 206) X dX11_typed_206 rfl ?_
                        refine iv_aload_n (pc := 207) X dX11_typed_207 rfl ?_
                        refine gF_X11_35_75 (pc := 208) X dX11_typed_208 ?_
                        refine iv_iload_n (pc := 211) X dX11_typed_211 rfl ?_
                        obtain ⟨hg, hm⟩ := gd_some hm
                        refine aL_84 (pc := 212) X dX11_typed_212 hg (x := (S50.1 84) x1.toNatClampNeg) rfl ?_
                        refine iv_iload (pc := 213) X dX11_typed_213 rfl ?_
                        refine iv_if_eq (pc := 215) X dX11_typed_215 (tgt := 222) rfl (fun _ => ?_) (fun hb => absurd (by decide) hb)
                        refine iv_iconst (pc := 222) X dX11_typed_222 ic_1 ?_
                        obtain ⟨⟨r55, S54⟩, hc56, hm⟩ := bd_some hm
                        refine cV_X11_353_75 (pc := 223) X [.int ((S50.1 84) x1.toNatClampNeg), .int 1] [] 2 rfl (hK.2.2.1 ((S50.1 84) x1.toNatClampNeg) 1 S50 _ _ hc56) (by show (_ : Nat) ≤ D; omega) (by show (_ : Nat) ≤ 40 * D; omega) (Nat.le_of_ble_eq_true rfl) rfl dX11_typed_223 ?_
                        refine iv_iload (pc := 226) X dX11_typed_226 rfl ?_
                        refine iv_if_ne (pc := 228) X dX11_typed_228 (tgt := 253) rfl (fun hb => absurd hb (by decide)) (fun _ => ?_)
                        refine iv_aload_n (pc := 231) X dX11_typed_231 rfl ?_
                        refine gF_X11_41_75 (pc := 232) X dX11_typed_232 ?_
                        refine iv_iload_n (pc := 235) X dX11_typed_235 rfl ?_
                        obtain ⟨hg, hm⟩ := gd_some hm
                        refine aL_86 (pc := 236) X dX11_typed_236 hg (x := (S54.1 86) x1.toNatClampNeg) rfl ?_
                        refine iv_bipush (pc := 237) X dX11_typed_237 bc_61 ?_
                        refine iv_icmp_eq (pc := 239) X dX11_typed_239 (tgt := 253) rfl (fun hb58 => ?_) (fun hb58 => ?_)
                        · rw [if_pos hb58] at hm
                          refine iv_iconst (pc := 253) X dX11_typed_253 ic_2 ?_
                          refine iv_goto (pc := 254) X dX11_typed_254 (tgt := 258) rfl ?_
                          cases hm
                          exact is_iret (pc := 258) X dX11_typed_258
                        · rw [if_neg hb58] at hm
                          refine iv_aload_n (pc := 242) X dX11_typed_242 rfl ?_
                          refine gF_X11_41_75 (pc := 243) X dX11_typed_243 ?_
                          refine iv_iload_n (pc := 246) X dX11_typed_246 rfl ?_
                          obtain ⟨hg, hm⟩ := gd_some hm
                          refine aL_86 (pc := 247) X dX11_typed_247 hg (x := (S54.1 86) x1.toNatClampNeg) rfl ?_
                          refine iv_bipush (pc := 248) X dX11_typed_248 bc_60 ?_
                          refine iv_icmp_ne (pc := 250) X dX11_typed_250 (tgt := 257) rfl (fun hb59 => ?_) (fun hb59 => ?_)
                          · rw [if_pos hb59] at hm
                            refine iv_iconst (pc := 257) X dX11_typed_257 ic_1 ?_
                            cases hm
                            exact is_iret (pc := 258) X dX11_typed_258
                          · rw [if_neg hb59] at hm
                            refine iv_iconst (pc := 253) X dX11_typed_253 ic_2 ?_
                            refine iv_goto (pc := 254) X dX11_typed_254 (tgt := 258) rfl ?_
                            cases hm
                            exact is_iret (pc := 258) X dX11_typed_258
                      · rw [if_neg hb48] at hm
                        refine iv_iconst (pc := 179) X dX11_typed_179 ic_1 ?_
                        refine iv_goto (pc := 180) X dX11_typed_180 (tgt := 184) rfl ?_
                        refine iv_istore (pc := 184) X dX11_typed_184 (by decide) (lv' := [(4, .int 1), (0, .ref (ad 75)), (1, .int x1)]) rfl ?_
                        refine iv_aload_n (pc := 186) X dX11_typed_186 rfl ?_
                        refine iv_aload_n (pc := 187) X dX11_typed_187 rfl ?_
                        refine gF_X11_32_75 (pc := 188) X dX11_typed_188 ?_
                        refine iv_iload_n (pc := 191) X dX11_typed_191 rfl ?_
                        obtain ⟨hg, hm⟩ := gd_some hm
                        refine aL_83 (pc := 192) X dX11_typed_192 hg (x := (S.1 83) x1.toNatClampNeg) rfl ?_
                        refine iv_iload (pc := 193) X dX11_typed_193 rfl ?_
                        refine iv_if_eq (pc := 195) X dX11_typed_195 (tgt := 202) rfl (fun hb => absurd hb (by decide)) (fun _ => ?_)
                        refine iv_iconst (pc := 198) X dX11_typed_198 ic_2 ?_
                        refine iv_goto (pc := 199) X dX11_typed_199 (tgt := 203) rfl ?_
                        obtain ⟨⟨r62, S61⟩, hc63, hm⟩ := bd_some hm
                        refine cV_X11_353_75 (pc := 203) X [.int ((S.1 83) x1.toNatClampNeg), .int 2] [] 2 rfl (hK.2.2.1 ((S.1 83) x1.toNatClampNeg) 2 S _ _ hc63) (by show (_ : Nat) ≤ D; omega) (by show (_ : Nat) ≤ 40 * D; omega) (Nat.le_of_ble_eq_true rfl) rfl dX11_typed_203 ?_
                        refine iv_aload_n (pc := 206) X dX11_typed_206 rfl ?_
                        refine iv_aload_n (pc := 207) X dX11_typed_207 rfl ?_
                        refine gF_X11_35_75 (pc := 208) X dX11_typed_208 ?_
                        refine iv_iload_n (pc := 211) X dX11_typed_211 rfl ?_
                        obtain ⟨hg, hm⟩ := gd_some hm
                        refine aL_84 (pc := 212) X dX11_typed_212 hg (x := (S61.1 84) x1.toNatClampNeg) rfl ?_
                        refine iv_iload (pc := 213) X dX11_typed_213 rfl ?_
                        refine iv_if_eq (pc := 215) X dX11_typed_215 (tgt := 222) rfl (fun hb => absurd hb (by decide)) (fun _ => ?_)
                        refine iv_iconst (pc := 218) X dX11_typed_218 ic_2 ?_
                        refine iv_goto (pc := 219) X dX11_typed_219 (tgt := 223) rfl ?_
                        obtain ⟨⟨r66, S65⟩, hc67, hm⟩ := bd_some hm
                        refine cV_X11_353_75 (pc := 223) X [.int ((S61.1 84) x1.toNatClampNeg), .int 2] [] 2 rfl (hK.2.2.1 ((S61.1 84) x1.toNatClampNeg) 2 S61 _ _ hc67) (by show (_ : Nat) ≤ D; omega) (by show (_ : Nat) ≤ 40 * D; omega) (Nat.le_of_ble_eq_true rfl) rfl dX11_typed_223 ?_
                        refine iv_iload (pc := 226) X dX11_typed_226 rfl ?_
                        refine iv_if_ne (pc := 228) X dX11_typed_228 (tgt := 253) rfl (fun _ => ?_) (fun hb => absurd (by decide) hb)
                        refine iv_iconst (pc := 253) X dX11_typed_253 ic_2 ?_
                        refine iv_goto (pc := 254) X dX11_typed_254 (tgt := 258) rfl ?_
                        cases hm
                        exact is_iret (pc := 258) X dX11_typed_258
                  · rw [if_neg hb37] at hm
                    by_cases hb69 : ((S.1 81) x1.toNatClampNeg) = (10 : Int32)
                    · rw [if_pos hb69] at hm
                      refine iv_tableIn X dX11_typed_6 (off := 253) (tgt := 259) (by rw [hb69]; decide) (by rw [hb69]; decide) (by rw [hb69]; decide) (by decide) ?_
                      refine iv_aload_n (pc := 259) X dX11_typed_259 rfl ?_
                      refine iv_aload_n (pc := 260) X dX11_typed_260 rfl ?_
                      refine gF_X11_32_75 (pc := 261) X dX11_typed_261 ?_
                      refine iv_iload_n (pc := 264) X dX11_typed_264 rfl ?_
                      obtain ⟨hg, hm⟩ := gd_some hm
                      refine aL_83 (pc := 265) X dX11_typed_265 hg (x := (S.1 83) x1.toNatClampNeg) rfl ?_
                      refine iv_iconst (pc := 266) X dX11_typed_266 ic_3 ?_
                      obtain ⟨⟨r71, S70⟩, hc72, hm⟩ := bd_some hm
                      refine cV_X11_353_75 (pc := 267) X [.int ((S.1 83) x1.toNatClampNeg), .int 3] [] 2 rfl (hK.2.2.1 ((S.1 83) x1.toNatClampNeg) 3 S _ _ hc72) (by show (_ : Nat) ≤ D; omega) (by show (_ : Nat) ≤ 40 * D; omega) (Nat.le_of_ble_eq_true rfl) rfl dX11_typed_267 ?_
                      refine iv_aload_n (pc := 270) X dX11_typed_270 rfl ?_
                      refine iv_aload_n (pc := 271) X dX11_typed_271 rfl ?_
                      refine gF_X11_35_75 (pc := 272) X dX11_typed_272 ?_
                      refine iv_iload_n (pc := 275) X dX11_typed_275 rfl ?_
                      obtain ⟨hg, hm⟩ := gd_some hm
                      refine aL_84 (pc := 276) X dX11_typed_276 hg (x := (S70.1 84) x1.toNatClampNeg) rfl ?_
                      refine iv_iconst (pc := 277) X dX11_typed_277 ic_1 ?_
                      obtain ⟨⟨r74, S73⟩, hc75, hm⟩ := bd_some hm
                      refine cV_X11_353_75 (pc := 278) X [.int ((S70.1 84) x1.toNatClampNeg), .int 1] [] 2 rfl (hK.2.2.1 ((S70.1 84) x1.toNatClampNeg) 1 S70 _ _ hc75) (by show (_ : Nat) ≤ D; omega) (by show (_ : Nat) ≤ 40 * D; omega) (Nat.le_of_ble_eq_true rfl) rfl dX11_typed_278 ?_
                      refine iv_iconst (pc := 281) X dX11_typed_281 ic_1 ?_
                      cases hm
                      exact is_iret (pc := 282) X dX11_typed_282
                    · rw [if_neg hb69] at hm
                      by_cases hb76 : ((S.1 81) x1.toNatClampNeg) = (11 : Int32)
                      · rw [if_pos hb76] at hm
                        refine iv_tableIn X dX11_typed_6 (off := 277) (tgt := 283) (by rw [hb76]; decide) (by rw [hb76]; decide) (by rw [hb76]; decide) (by decide) ?_
                        refine iv_aload_n (pc := 283) X dX11_typed_283 rfl ?_
                        refine iv_iload_n (pc := 284) X dX11_typed_284 rfl ?_
                        obtain ⟨⟨r78, S77⟩, hc79, hm⟩ := bd_some hm
                        refine cV_X11_359_75 (pc := 285) X [.int x1] [] 1 rfl (hK.2.2.2.2.2.2 x1 0 S _ _ hc79) (by show (_ : Nat) ≤ D; omega) (by show (_ : Nat) ≤ 40 * D; omega) (Nat.le_of_ble_eq_true rfl) rfl dX11_typed_285 ?_
                        cases hm
                        exact is_iret (pc := 288) X dX11_typed_288
                      · rw [if_neg hb76] at hm
                        have k0 := sw_ne hb1 (n := 1) (by decide)
                        have k1 := sw_ne hb2 (n := 2) (by decide)
                        have k2 := sw_ne hb3 (n := 3) (by decide)
                        have k3 := sw_ne hb7 (n := 4) (by decide)
                        have k4 := sw_ne hb11 (n := 5) (by decide)
                        have k5 := sw_ne hb15 (n := 6) (by decide)
                        have k6 := sw_ne hb25 (n := 7) (by decide)
                        have k7 := sw_ne hb29 (n := 8) (by decide)
                        have k8 := sw_ne hb37 (n := 9) (by decide)
                        have k9 := sw_ne hb69 (n := 10) (by decide)
                        have k10 := sw_ne hb76 (n := 11) (by decide)
                        refine iv_tableOut X dX11_typed_6 (tgt := 289) (by omega) (by decide) ?_
                        refine iv_aload_n (pc := 289) X dX11_typed_289 rfl ?_
                        refine iv_aload_n (pc := 290) X dX11_typed_290 rfl ?_
                        refine gF_X11_32_75 (pc := 291) X dX11_typed_291 ?_
                        refine iv_iload_n (pc := 294) X dX11_typed_294 rfl ?_
                        obtain ⟨hg, hm⟩ := gd_some hm
                        refine aL_83 (pc := 295) X dX11_typed_295 hg (x := (S.1 83) x1.toNatClampNeg) rfl ?_
                        obtain ⟨⟨r81, S80⟩, hc82, hm⟩ := bd_some hm
                        refine cV_X11_338_75 (pc := 296) X [.int ((S.1 83) x1.toNatClampNeg)] [] 1 rfl (hK.1 ((S.1 83) x1.toNatClampNeg) 0 S _ _ hc82) (by show (_ : Nat) ≤ D; omega) (by show (_ : Nat) ≤ 40 * D; omega) (Nat.le_of_ble_eq_true rfl) rfl dX11_typed_296 ?_
                        cases hm
                        exact is_iret (pc := 299) X dX11_typed_299
def f_X11_wants (K : Nat → Int32 → Int32 → im_S → Option (Int32 × im_S)) (fu : Nat) (x1 : Int32) (x2 : Int32) (S : im_S) : Option (Unit × im_S) := (K 0 x1 0 S).bind (fun qS1 => if (qS1.1 : Int32) = x2 then (some ((), qS1.2)) else (gd (in_b x1 1200) ((f_X11_note 3 ((qS1.2.1 82) x1.toNatClampNeg) qS1.2).bind (fun qS5 => some ((), qS5.2)))))
set_option maxHeartbeats 4000000 in
set_option maxRecDepth 100000 in
theorem f_X11_wants_e (l : Launch) (g : im_G) (ad : Nat → Nat) (K : Nat → Int32 → Int32 → im_S → Option (Int32 × im_S)) {D dk : Nat} (hD1 : dk + 1 ≤ D) (hD2 : 3 ≤ D) (hK : kh_look l g ad K dk) (fu : Nat) (x1 : Int32) (x2 : Int32) (S : im_S) (r : Unit) (S' : im_S) (hm : f_X11_wants K fu x1 x2 S = some (r, S')) : im_E l g ad D yX11_wants cX11_wants 3 none [.ref (ad 75), .int x1, .int x2] S none S' := by
  unfold f_X11_wants at hm
  refine is_met (own := RX11) (by decide +kernel) rfl (Nat.le_of_ble_eq_true rfl) (fun p e s m below meth c X => ?_)
  refine iv_aload_n (pc := 0) X dX11_wants_0 rfl ?_
  refine iv_iload_n (pc := 1) X dX11_wants_1 rfl ?_
  obtain ⟨⟨r2, S1⟩, hc3, hm⟩ := bd_some hm
  refine cV_X11_338_75 (pc := 2) X [.int x1] [] 1 rfl (hK.1 x1 0 S _ _ hc3) (by show (_ : Nat) ≤ D; omega) (by show (_ : Nat) ≤ 40 * D; omega) (Nat.le_of_ble_eq_true rfl) rfl dX11_wants_2 ?_
  refine iv_iload_n (pc := 5) X dX11_wants_5 rfl ?_
  refine iv_icmp_eq (pc := 6) X dX11_wants_6 (tgt := 20) rfl (fun hb4 => ?_) (fun hb4 => ?_)
  · rw [if_pos hb4] at hm
    cases hm
    exact is_vret (pc := 20) X dX11_wants_20
  · rw [if_neg hb4] at hm
    refine iv_aload_n (pc := 9) X dX11_wants_9 rfl ?_
    refine iv_iconst (pc := 10) X dX11_wants_10 ic_3 ?_
    refine iv_aload_n (pc := 11) X dX11_wants_11 rfl ?_
    refine gF_X11_29_75 (pc := 12) X dX11_wants_12 ?_
    refine iv_iload_n (pc := 15) X dX11_wants_15 rfl ?_
    obtain ⟨hg, hm⟩ := gd_some hm
    refine aL_82 (pc := 16) X dX11_wants_16 hg (x := (S1.1 82) x1.toNatClampNeg) rfl ?_
    obtain ⟨⟨r6, S5⟩, hc7, hm⟩ := bd_some hm
    refine cV_X11_335_75 (pc := 17) X [.int 3, .int ((S1.1 82) x1.toNatClampNeg)] [] 2 rfl (f_X11_note_e l g ad 3 ((S1.1 82) x1.toNatClampNeg) S1 _ _ hc7) (by show (_ : Nat) ≤ D; omega) (by show (_ : Nat) ≤ 40 * D; omega) (Nat.le_of_ble_eq_true rfl) rfl dX11_wants_17 ?_
    cases hm
    exact is_vret (pc := 20) X dX11_wants_20
def f_X11_lookCall_L51 (K : Nat → Int32 → Int32 → im_S → Option (Int32 × im_S)) (fu : Nat) : Nat → Int32 → Int32 → Int32 → im_S → Option (Int32 × im_S)
  | 0, _, _, _, _ => none
  | nf + 1, z1, z2, z3, S => gd (in_b z1 1200) (if ((S.1 90) z1.toNatClampNeg : Int32) ≤ z3 then (gd (in_b z1 1200) ((f_X11_typeOf fu ((S.2.1 87) z1.toNatClampNeg) S).bind (fun qS2 => some (qS2.1, qS2.2)))) else (gd (in_b z1 1200) (gd (in_b (((S.1 89) z1.toNatClampNeg) + z3) 1200) (if (z2 : Int32) = (-1) then ((K 0 ((S.1 95) ((((S.1 89) z1.toNatClampNeg) + z3).toNatClampNeg)) 0 S).bind (fun qS6 => f_X11_lookCall_L51 K fu nf z1 z2 (z3 + 1) qS6.2)) else (gd (in_b z2 16) (if (z3 : Int32) < ((S.1 99) z2.toNatClampNeg) then (gd (in_b ((4 * z2) + z3) 64) ((f_X11_typeOf fu ((S.2.1 100) (((4 * z2) + z3).toNatClampNeg)) S).bind (fun qS10 => (K 2 ((S.1 95) ((((S.1 89) z1.toNatClampNeg) + z3).toNatClampNeg)) qS10.1 qS10.2).bind (fun qS13 => f_X11_lookCall_L51 K fu nf z1 z2 (z3 + 1) qS13.2)))) else ((K 0 ((S.1 95) ((((S.1 89) z1.toNatClampNeg) + z3).toNatClampNeg)) 0 S).bind (fun qS16 => f_X11_lookCall_L51 K fu nf z1 z2 (z3 + 1) qS16.2))))))))
set_option maxHeartbeats 4000000 in
set_option maxRecDepth 100000 in
theorem f_X11_lookCall_L51_w {l : Launch} {g : im_G} {ad : Nat → Nat} (K : Nat → Int32 → Int32 → im_S → Option (Int32 × im_S)) {D dk : Nat} (hD1 : dk + 1 ≤ D) (hD2 : 3 ≤ D) (hK : kh_look l g ad K dk) {fu : Nat} (l0 : Launch) (g0 : im_G) (ad0 : Nat → Nat) {p : Program} {e : Env} {s : State} {m : MethodId} {below : List Frame} {meth : Method} {c : Code} {args : Array Value} (X : im_X p l s m args meth c g cX11_lookCall 5 RX11 (some Jvm.ClassFile.FieldType.int)) : ∀ (nf : Nat) (z1 : Int32) (z2 : Int32) (z3 : Int32) (S : im_S) (r : Int32) (S' : im_S), f_X11_lookCall_L51 K fu nf z1 z2 z3 S = some (r, S') → im_V p l e (im_R D 0 0) s m args below meth c g 5 (im_Z below g ad args s (some (.int r)) S') ad im_N (im_cn g ad S) 0 0 51 [(0, .ref (ad 75)), (1, .int z1), (2, .int z2), (3, .int z3)] [] := by
  intro nf
  induction nf with
  | zero =>
    intro z1 z2 z3 S r S' hm
    cases hm
  | succ nf ih =>
    intro z1 z2 z3 S r S' hm
    unfold f_X11_lookCall_L51 at hm
    refine iv_iload_n (pc := 51) X dX11_lookCall_51 rfl ?_
    refine iv_aload_n (pc := 52) X dX11_lookCall_52 rfl ?_
    refine gF_X11_53_75 (pc := 53) X dX11_lookCall_53 ?_
    refine iv_iload_n (pc := 56) X dX11_lookCall_56 rfl ?_
    obtain ⟨hg, hm⟩ := gd_some hm
    refine aL_90 (pc := 57) X dX11_lookCall_57 hg (x := (S.1 90) z1.toNatClampNeg) rfl ?_
    refine iv_icmp_ge (pc := 58) X dX11_lookCall_58 (tgt := 126) rfl (fun hb1 => ?_) (fun hb1 => ?_)
    · rw [if_pos hb1] at hm
      refine iv_aload_n (pc := 126) X dX11_lookCall_126 rfl ?_
      refine gF_X11_44_75 (pc := 127) X dX11_lookCall_127 ?_
      refine iv_iload_n (pc := 130) X dX11_lookCall_130 rfl ?_
      obtain ⟨hg, hm⟩ := gd_some hm
      refine aL_87 (pc := 131) X dX11_lookCall_131 hg (x := (S.2.1 87) z1.toNatClampNeg) rfl ?_
      obtain ⟨⟨r3, S2⟩, hc4, hm⟩ := bd_some hm
      refine cS_X11_362 (pc := 132) X [.long ((S.2.1 87) z1.toNatClampNeg)] [] 1 rfl (f_X11_typeOf_e l g ad fu ((S.2.1 87) z1.toNatClampNeg) S _ _ hc4) (by show (_ : Nat) ≤ D; omega) (by show (_ : Nat) ≤ 40 * D; omega) (Nat.le_of_ble_eq_true rfl) rfl dX11_lookCall_132 ?_
      cases hm
      exact is_iret (pc := 135) X dX11_lookCall_135
    · rw [if_neg hb1] at hm
      refine iv_aload_n (pc := 61) X dX11_lookCall_61 rfl ?_
      refine gF_X11_68_75 (pc := 62) X dX11_lookCall_62 ?_
      refine iv_aload_n (pc := 65) X dX11_lookCall_65 rfl ?_
      refine gF_X11_50_75 (pc := 66) X dX11_lookCall_66 ?_
      refine iv_iload_n (pc := 69) X dX11_lookCall_69 rfl ?_
      obtain ⟨hg, hm⟩ := gd_some hm
      refine aL_89 (pc := 70) X dX11_lookCall_70 hg (x := (S.1 89) z1.toNatClampNeg) rfl ?_
      refine iv_iload_n (pc := 71) X dX11_lookCall_71 rfl ?_
      refine iv_iadd (pc := 72) X dX11_lookCall_72 ?_
      obtain ⟨hg, hm⟩ := gd_some hm
      refine aL_95 (pc := 73) X dX11_lookCall_73 hg (x := (S.1 95) ((((S.1 89) z1.toNatClampNeg) + z3).toNatClampNeg)) rfl ?_
      refine iv_istore (pc := 74) X dX11_lookCall_74 (by decide) (lv' := [(4, .int ((S.1 95) ((((S.1 89) z1.toNatClampNeg) + z3).toNatClampNeg))), (0, .ref (ad 75)), (1, .int z1), (2, .int z2), (3, .int z3)]) rfl ?_
      refine iv_iload_n (pc := 76) X dX11_lookCall_76 rfl ?_
      refine iv_iconst (pc := 77) X dX11_lookCall_77 ic_m1 ?_
      refine iv_icmp_eq (pc := 78) X dX11_lookCall_78 (tgt := 91) rfl (fun hb5 => ?_) (fun hb5 => ?_)
      · rw [if_pos hb5] at hm
        refine iv_aload_n (pc := 91) X dX11_lookCall_91 rfl ?_
        refine iv_iload (pc := 92) X dX11_lookCall_92 rfl ?_
        obtain ⟨⟨r7, S6⟩, hc8, hm⟩ := bd_some hm
        refine cV_X11_338_75 (pc := 94) X [.int ((S.1 95) ((((S.1 89) z1.toNatClampNeg) + z3).toNatClampNeg))] [] 1 rfl (hK.1 ((S.1 95) ((((S.1 89) z1.toNatClampNeg) + z3).toNatClampNeg)) 0 S _ _ hc8) (by show (_ : Nat) ≤ D; omega) (by show (_ : Nat) ≤ 40 * D; omega) (Nat.le_of_ble_eq_true rfl) rfl dX11_lookCall_94 ?_
        refine iv_pop (pc := 97) X dX11_lookCall_97 rfl ?_
        refine iv_goto (pc := 98) X dX11_lookCall_98 (tgt := 120) rfl ?_
        refine iv_iinc (pc := 120) X dX11_lookCall_120 rfl (by decide) (v := z3 + 1) rfl (lv' := [(3, .int (z3 + 1)), (4, .int ((S.1 95) ((((S.1 89) z1.toNatClampNeg) + z3).toNatClampNeg))), (0, .ref (ad 75)), (1, .int z1), (2, .int z2)]) rfl ?_
        refine iv_goto (pc := 123) X dX11_lookCall_123 (tgt := 51) rfl ?_
        refine iv_sub [2, 3, 4, 0] (lv2 := [(0, .ref (ad 75)), (1, .int z1), (2, .int z2), (3, .int (z3 + 1))]) rfl ?_
        exact ih z1 z2 (z3 + 1) S6 _ _ hm
      · rw [if_neg hb5] at hm
        refine iv_iload_n (pc := 81) X dX11_lookCall_81 rfl ?_
        refine iv_aload_n (pc := 82) X dX11_lookCall_82 rfl ?_
        refine gF_X11_80_75 (pc := 83) X dX11_lookCall_83 ?_
        refine iv_iload_n (pc := 86) X dX11_lookCall_86 rfl ?_
        obtain ⟨hg, hm⟩ := gd_some hm
        refine aL_99 (pc := 87) X dX11_lookCall_87 hg (x := (S.1 99) z2.toNatClampNeg) rfl ?_
        refine iv_icmp_lt (pc := 88) X dX11_lookCall_88 (tgt := 101) rfl (fun hb9 => ?_) (fun hb9 => ?_)
        · rw [if_pos hb9] at hm
          refine iv_aload_n (pc := 101) X dX11_lookCall_101 rfl ?_
          refine iv_iload (pc := 102) X dX11_lookCall_102 rfl ?_
          refine iv_aload_n (pc := 104) X dX11_lookCall_104 rfl ?_
          refine gF_X11_83_75 (pc := 105) X dX11_lookCall_105 ?_
          refine iv_iconst (pc := 108) X dX11_lookCall_108 ic_4 ?_
          refine iv_iload_n (pc := 109) X dX11_lookCall_109 rfl ?_
          refine iv_imul (pc := 110) X dX11_lookCall_110 ?_
          refine iv_iload_n (pc := 111) X dX11_lookCall_111 rfl ?_
          refine iv_iadd (pc := 112) X dX11_lookCall_112 ?_
          obtain ⟨hg, hm⟩ := gd_some hm
          refine aL_100 (pc := 113) X dX11_lookCall_113 hg (x := (S.2.1 100) (((4 * z2) + z3).toNatClampNeg)) rfl ?_
          obtain ⟨⟨r11, S10⟩, hc12, hm⟩ := bd_some hm
          refine cS_X11_362 (pc := 114) X [.long ((S.2.1 100) (((4 * z2) + z3).toNatClampNeg))] [.int ((S.1 95) ((((S.1 89) z1.toNatClampNeg) + z3).toNatClampNeg)), .ref (ad 75)] 1 rfl (f_X11_typeOf_e l g ad fu ((S.2.1 100) (((4 * z2) + z3).toNatClampNeg)) S _ _ hc12) (by show (_ : Nat) ≤ D; omega) (by show (_ : Nat) ≤ 40 * D; omega) (Nat.le_of_ble_eq_true rfl) rfl dX11_lookCall_114 ?_
          obtain ⟨⟨r14, S13⟩, hc15, hm⟩ := bd_some hm
          refine cV_X11_353_75 (pc := 117) X [.int ((S.1 95) ((((S.1 89) z1.toNatClampNeg) + z3).toNatClampNeg)), .int r11] [] 2 rfl (hK.2.2.1 ((S.1 95) ((((S.1 89) z1.toNatClampNeg) + z3).toNatClampNeg)) r11 S10 _ _ hc15) (by show (_ : Nat) ≤ D; omega) (by show (_ : Nat) ≤ 40 * D; omega) (Nat.le_of_ble_eq_true rfl) rfl dX11_lookCall_117 ?_
          refine iv_iinc (pc := 120) X dX11_lookCall_120 rfl (by decide) (v := z3 + 1) rfl (lv' := [(3, .int (z3 + 1)), (4, .int ((S.1 95) ((((S.1 89) z1.toNatClampNeg) + z3).toNatClampNeg))), (0, .ref (ad 75)), (1, .int z1), (2, .int z2)]) rfl ?_
          refine iv_goto (pc := 123) X dX11_lookCall_123 (tgt := 51) rfl ?_
          refine iv_sub [2, 3, 4, 0] (lv2 := [(0, .ref (ad 75)), (1, .int z1), (2, .int z2), (3, .int (z3 + 1))]) rfl ?_
          exact ih z1 z2 (z3 + 1) S13 _ _ hm
        · rw [if_neg hb9] at hm
          refine iv_aload_n (pc := 91) X dX11_lookCall_91 rfl ?_
          refine iv_iload (pc := 92) X dX11_lookCall_92 rfl ?_
          obtain ⟨⟨r17, S16⟩, hc18, hm⟩ := bd_some hm
          refine cV_X11_338_75 (pc := 94) X [.int ((S.1 95) ((((S.1 89) z1.toNatClampNeg) + z3).toNatClampNeg))] [] 1 rfl (hK.1 ((S.1 95) ((((S.1 89) z1.toNatClampNeg) + z3).toNatClampNeg)) 0 S _ _ hc18) (by show (_ : Nat) ≤ D; omega) (by show (_ : Nat) ≤ 40 * D; omega) (Nat.le_of_ble_eq_true rfl) rfl dX11_lookCall_94 ?_
          refine iv_pop (pc := 97) X dX11_lookCall_97 rfl ?_
          refine iv_goto (pc := 98) X dX11_lookCall_98 (tgt := 120) rfl ?_
          refine iv_iinc (pc := 120) X dX11_lookCall_120 rfl (by decide) (v := z3 + 1) rfl (lv' := [(3, .int (z3 + 1)), (4, .int ((S.1 95) ((((S.1 89) z1.toNatClampNeg) + z3).toNatClampNeg))), (0, .ref (ad 75)), (1, .int z1), (2, .int z2)]) rfl ?_
          refine iv_goto (pc := 123) X dX11_lookCall_123 (tgt := 51) rfl ?_
          refine iv_sub [2, 3, 4, 0] (lv2 := [(0, .ref (ad 75)), (1, .int z1), (2, .int z2), (3, .int (z3 + 1))]) rfl ?_
          exact ih z1 z2 (z3 + 1) S16 _ _ hm
def f_X11_lookCall (K : Nat → Int32 → Int32 → im_S → Option (Int32 × im_S)) (fu : Nat) (x1 : Int32) (S : im_S) : Option (Int32 × im_S) := gd (in_b x1 1200) ((f_X11_functionOf fu ((S.2.1 87) x1.toNatClampNeg) S).bind (fun qS1 => if (qS1.1 : Int32) = (-1) then (gd (in_b x1 1200) ((f_X11_note 2 ((qS1.2.1 82) x1.toNatClampNeg) qS1.2).bind (fun qS5 => gd (in_b x1 1200) (f_X11_lookCall_L51 K fu fu x1 qS1.1 0 (uI qS5.2 84 x1.toNatClampNeg qS1.1))))) else (gd (in_b qS1.1 16) (gd (in_b x1 1200) (if ((qS1.2.1 99) qS1.1.toNatClampNeg : Int32) = ((qS1.2.1 90) x1.toNatClampNeg) then (gd (in_b x1 1200) (f_X11_lookCall_L51 K fu fu x1 qS1.1 0 (uI qS1.2 84 x1.toNatClampNeg qS1.1))) else (gd (in_b x1 1200) ((f_X11_note 2 ((qS1.2.1 82) x1.toNatClampNeg) qS1.2).bind (fun qS9 => gd (in_b x1 1200) (f_X11_lookCall_L51 K fu fu x1 qS1.1 0 (uI qS9.2 84 x1.toNatClampNeg qS1.1))))))))))
set_option maxHeartbeats 4000000 in
set_option maxRecDepth 100000 in
theorem f_X11_lookCall_e (l : Launch) (g : im_G) (ad : Nat → Nat) (K : Nat → Int32 → Int32 → im_S → Option (Int32 × im_S)) {D dk : Nat} (hD1 : dk + 1 ≤ D) (hD2 : 3 ≤ D) (hK : kh_look l g ad K dk) (fu : Nat) (x1 : Int32) (S : im_S) (r : Int32) (S' : im_S) (hm : f_X11_lookCall K fu x1 S = some (r, S')) : im_E l g ad D yX11_lookCall cX11_lookCall 5 (some Jvm.ClassFile.FieldType.int) [.ref (ad 75), .int x1] S (some (.int r)) S' := by
  unfold f_X11_lookCall at hm
  refine is_met (own := RX11) (by decide +kernel) rfl (Nat.le_of_ble_eq_true rfl) (fun p e s m below meth c X => ?_)
  refine iv_aload_n (pc := 0) X dX11_lookCall_0 rfl ?_
  refine iv_aload_n (pc := 1) X dX11_lookCall_1 rfl ?_
  refine gF_X11_44_75 (pc := 2) X dX11_lookCall_2 ?_
  refine iv_iload_n (pc := 5) X dX11_lookCall_5 rfl ?_
  obtain ⟨hg, hm⟩ := gd_some hm
  refine aL_87 (pc := 6) X dX11_lookCall_6 hg (x := (S.2.1 87) x1.toNatClampNeg) rfl ?_
  obtain ⟨⟨r2, S1⟩, hc3, hm⟩ := bd_some hm
  refine cV_X11_365_75 (pc := 7) X [.long ((S.2.1 87) x1.toNatClampNeg)] [] 1 rfl (f_X11_functionOf_e l g ad fu ((S.2.1 87) x1.toNatClampNeg) S _ _ hc3) (by show (_ : Nat) ≤ D; omega) (by show (_ : Nat) ≤ 40 * D; omega) (Nat.le_of_ble_eq_true rfl) rfl dX11_lookCall_7 ?_
  refine iv_istore_n (pc := 10) X dX11_lookCall_10 (by decide) (lv' := [(2, .int r2), (0, .ref (ad 75)), (1, .int x1)]) rfl ?_
  refine iv_iload_n (pc := 11) X dX11_lookCall_11 rfl ?_
  refine iv_iconst (pc := 12) X dX11_lookCall_12 ic_m1 ?_
  refine iv_icmp_eq (pc := 13) X dX11_lookCall_13 (tgt := 31) rfl (fun hb4 => ?_) (fun hb4 => ?_)
  · rw [if_pos hb4] at hm
    refine iv_aload_n (pc := 31) X dX11_lookCall_31 rfl ?_
    refine iv_iconst (pc := 32) X dX11_lookCall_32 ic_2 ?_
    refine iv_aload_n (pc := 33) X dX11_lookCall_33 rfl ?_
    refine gF_X11_29_75 (pc := 34) X dX11_lookCall_34 ?_
    refine iv_iload_n (pc := 37) X dX11_lookCall_37 rfl ?_
    obtain ⟨hg, hm⟩ := gd_some hm
    refine aL_82 (pc := 38) X dX11_lookCall_38 hg (x := (S1.1 82) x1.toNatClampNeg) rfl ?_
    obtain ⟨⟨r6, S5⟩, hc7, hm⟩ := bd_some hm
    refine cV_X11_335_75 (pc := 39) X [.int 2, .int ((S1.1 82) x1.toNatClampNeg)] [] 2 rfl (f_X11_note_e l g ad 2 ((S1.1 82) x1.toNatClampNeg) S1 _ _ hc7) (by show (_ : Nat) ≤ D; omega) (by show (_ : Nat) ≤ 40 * D; omega) (Nat.le_of_ble_eq_true rfl) rfl dX11_lookCall_39 ?_
    refine iv_aload_n (pc := 42) X dX11_lookCall_42 rfl ?_
    refine gF_X11_35_75 (pc := 43) X dX11_lookCall_43 ?_
    refine iv_iload_n (pc := 46) X dX11_lookCall_46 rfl ?_
    refine iv_iload_n (pc := 47) X dX11_lookCall_47 rfl ?_
    obtain ⟨hg, hm⟩ := gd_some hm
    refine aS_84 (pc := 48) X dX11_lookCall_48 hg ?_
    refine iv_iconst (pc := 49) X dX11_lookCall_49 ic_0 ?_
    refine iv_istore_n (pc := 50) X dX11_lookCall_50 (by decide) (lv' := [(3, .int 0), (2, .int r2), (0, .ref (ad 75)), (1, .int x1)]) rfl ?_
    refine iv_sub [2, 3, 1, 0] (lv2 := [(0, .ref (ad 75)), (1, .int x1), (2, .int r2), (3, .int 0)]) rfl ?_
    exact f_X11_lookCall_L51_w K hD1 hD2 hK (fu := fu) l g ad X fu x1 r2 0 (uI S5 84 x1.toNatClampNeg r2) _ _ hm
  · rw [if_neg hb4] at hm
    refine iv_aload_n (pc := 16) X dX11_lookCall_16 rfl ?_
    refine gF_X11_80_75 (pc := 17) X dX11_lookCall_17 ?_
    refine iv_iload_n (pc := 20) X dX11_lookCall_20 rfl ?_
    obtain ⟨hg, hm⟩ := gd_some hm
    refine aL_99 (pc := 21) X dX11_lookCall_21 hg (x := (S1.1 99) r2.toNatClampNeg) rfl ?_
    refine iv_aload_n (pc := 22) X dX11_lookCall_22 rfl ?_
    refine gF_X11_53_75 (pc := 23) X dX11_lookCall_23 ?_
    refine iv_iload_n (pc := 26) X dX11_lookCall_26 rfl ?_
    obtain ⟨hg, hm⟩ := gd_some hm
    refine aL_90 (pc := 27) X dX11_lookCall_27 hg (x := (S1.1 90) x1.toNatClampNeg) rfl ?_
    refine iv_icmp_eq (pc := 28) X dX11_lookCall_28 (tgt := 42) rfl (fun hb8 => ?_) (fun hb8 => ?_)
    · rw [if_pos hb8] at hm
      refine iv_aload_n (pc := 42) X dX11_lookCall_42 rfl ?_
      refine gF_X11_35_75 (pc := 43) X dX11_lookCall_43 ?_
      refine iv_iload_n (pc := 46) X dX11_lookCall_46 rfl ?_
      refine iv_iload_n (pc := 47) X dX11_lookCall_47 rfl ?_
      obtain ⟨hg, hm⟩ := gd_some hm
      refine aS_84 (pc := 48) X dX11_lookCall_48 hg ?_
      refine iv_iconst (pc := 49) X dX11_lookCall_49 ic_0 ?_
      refine iv_istore_n (pc := 50) X dX11_lookCall_50 (by decide) (lv' := [(3, .int 0), (2, .int r2), (0, .ref (ad 75)), (1, .int x1)]) rfl ?_
      refine iv_sub [2, 3, 1, 0] (lv2 := [(0, .ref (ad 75)), (1, .int x1), (2, .int r2), (3, .int 0)]) rfl ?_
      exact f_X11_lookCall_L51_w K hD1 hD2 hK (fu := fu) l g ad X fu x1 r2 0 (uI S1 84 x1.toNatClampNeg r2) _ _ hm
    · rw [if_neg hb8] at hm
      refine iv_aload_n (pc := 31) X dX11_lookCall_31 rfl ?_
      refine iv_iconst (pc := 32) X dX11_lookCall_32 ic_2 ?_
      refine iv_aload_n (pc := 33) X dX11_lookCall_33 rfl ?_
      refine gF_X11_29_75 (pc := 34) X dX11_lookCall_34 ?_
      refine iv_iload_n (pc := 37) X dX11_lookCall_37 rfl ?_
      obtain ⟨hg, hm⟩ := gd_some hm
      refine aL_82 (pc := 38) X dX11_lookCall_38 hg (x := (S1.1 82) x1.toNatClampNeg) rfl ?_
      obtain ⟨⟨r10, S9⟩, hc11, hm⟩ := bd_some hm
      refine cV_X11_335_75 (pc := 39) X [.int 2, .int ((S1.1 82) x1.toNatClampNeg)] [] 2 rfl (f_X11_note_e l g ad 2 ((S1.1 82) x1.toNatClampNeg) S1 _ _ hc11) (by show (_ : Nat) ≤ D; omega) (by show (_ : Nat) ≤ 40 * D; omega) (Nat.le_of_ble_eq_true rfl) rfl dX11_lookCall_39 ?_
      refine iv_aload_n (pc := 42) X dX11_lookCall_42 rfl ?_
      refine gF_X11_35_75 (pc := 43) X dX11_lookCall_43 ?_
      refine iv_iload_n (pc := 46) X dX11_lookCall_46 rfl ?_
      refine iv_iload_n (pc := 47) X dX11_lookCall_47 rfl ?_
      obtain ⟨hg, hm⟩ := gd_some hm
      refine aS_84 (pc := 48) X dX11_lookCall_48 hg ?_
      refine iv_iconst (pc := 49) X dX11_lookCall_49 ic_0 ?_
      refine iv_istore_n (pc := 50) X dX11_lookCall_50 (by decide) (lv' := [(3, .int 0), (2, .int r2), (0, .ref (ad 75)), (1, .int x1)]) rfl ?_
      refine iv_sub [2, 3, 1, 0] (lv2 := [(0, .ref (ad 75)), (1, .int x1), (2, .int r2), (3, .int 0)]) rfl ?_
      exact f_X11_lookCall_L51_w K hD1 hD2 hK (fu := fu) l g ad X fu x1 r2 0 (uI S9 84 x1.toNatClampNeg r2) _ _ hm
def f_X11_lookLet (K : Nat → Int32 → Int32 → im_S → Option (Int32 × im_S)) (fu : Nat) (x1 : Int32) (S : im_S) : Option (Int32 × im_S) := gd (in_b x1 1200) (gd (in_b x1 1200) ((f_X11_typeOf fu ((S.2.1 87) x1.toNatClampNeg) S).bind (fun qS1 => (K 2 ((S.1 83) x1.toNatClampNeg) qS1.1 qS1.2).bind (fun qS4 => gd (in_b x1 1200) (gd (in_b x1 1200) ((f_X11_know fu ((qS4.2.2.1 87) x1.toNatClampNeg) ((qS4.2.1 86) x1.toNatClampNeg) 2 x1 0 qS4.2).bind (fun qS7 => gd (in_b x1 1200) ((K 0 ((qS7.2.1 84) x1.toNatClampNeg) 0 qS7.2).bind (fun qS10 => some (qS10.1, (uI qS10.2 75 52 ((qS10.2.1 75 52) - 1))))))))))))
set_option maxHeartbeats 4000000 in
set_option maxRecDepth 100000 in
theorem f_X11_lookLet_e (l : Launch) (g : im_G) (ad : Nat → Nat) (K : Nat → Int32 → Int32 → im_S → Option (Int32 × im_S)) {D dk : Nat} (hD1 : dk + 1 ≤ D) (hD2 : 3 ≤ D) (hK : kh_look l g ad K dk) (fu : Nat) (x1 : Int32) (S : im_S) (r : Int32) (S' : im_S) (hm : f_X11_lookLet K fu x1 S = some (r, S')) : im_E l g ad D yX11_lookLet cX11_lookLet 3 (some Jvm.ClassFile.FieldType.int) [.ref (ad 75), .int x1] S (some (.int r)) S' := by
  unfold f_X11_lookLet at hm
  refine is_met (own := RX11) (by decide +kernel) rfl (Nat.le_of_ble_eq_true rfl) (fun p e s m below meth c X => ?_)
  refine iv_aload_n (pc := 0) X dX11_lookLet_0 rfl ?_
  refine iv_aload_n (pc := 1) X dX11_lookLet_1 rfl ?_
  refine gF_X11_32_75 (pc := 2) X dX11_lookLet_2 ?_
  refine iv_iload_n (pc := 5) X dX11_lookLet_5 rfl ?_
  obtain ⟨hg, hm⟩ := gd_some hm
  refine aL_83 (pc := 6) X dX11_lookLet_6 hg (x := (S.1 83) x1.toNatClampNeg) rfl ?_
  refine iv_aload_n (pc := 7) X dX11_lookLet_7 rfl ?_
  refine gF_X11_44_75 (pc := 8) X dX11_lookLet_8 ?_
  refine iv_iload_n (pc := 11) X dX11_lookLet_11 rfl ?_
  obtain ⟨hg, hm⟩ := gd_some hm
  refine aL_87 (pc := 12) X dX11_lookLet_12 hg (x := (S.2.1 87) x1.toNatClampNeg) rfl ?_
  obtain ⟨⟨r2, S1⟩, hc3, hm⟩ := bd_some hm
  refine cS_X11_362 (pc := 13) X [.long ((S.2.1 87) x1.toNatClampNeg)] [.int ((S.1 83) x1.toNatClampNeg), .ref (ad 75)] 1 rfl (f_X11_typeOf_e l g ad fu ((S.2.1 87) x1.toNatClampNeg) S _ _ hc3) (by show (_ : Nat) ≤ D; omega) (by show (_ : Nat) ≤ 40 * D; omega) (Nat.le_of_ble_eq_true rfl) rfl dX11_lookLet_13 ?_
  obtain ⟨⟨r5, S4⟩, hc6, hm⟩ := bd_some hm
  refine cV_X11_353_75 (pc := 16) X [.int ((S.1 83) x1.toNatClampNeg), .int r2] [] 2 rfl (hK.2.2.1 ((S.1 83) x1.toNatClampNeg) r2 S1 _ _ hc6) (by show (_ : Nat) ≤ D; omega) (by show (_ : Nat) ≤ 40 * D; omega) (Nat.le_of_ble_eq_true rfl) rfl dX11_lookLet_16 ?_
  refine iv_aload_n (pc := 19) X dX11_lookLet_19 rfl ?_
  refine iv_aload_n (pc := 20) X dX11_lookLet_20 rfl ?_
  refine gF_X11_44_75 (pc := 21) X dX11_lookLet_21 ?_
  refine iv_iload_n (pc := 24) X dX11_lookLet_24 rfl ?_
  obtain ⟨hg, hm⟩ := gd_some hm
  refine aL_87 (pc := 25) X dX11_lookLet_25 hg (x := (S4.2.1 87) x1.toNatClampNeg) rfl ?_
  refine iv_aload_n (pc := 26) X dX11_lookLet_26 rfl ?_
  refine gF_X11_41_75 (pc := 27) X dX11_lookLet_27 ?_
  refine iv_iload_n (pc := 30) X dX11_lookLet_30 rfl ?_
  obtain ⟨hg, hm⟩ := gd_some hm
  refine aL_86 (pc := 31) X dX11_lookLet_31 hg (x := (S4.1 86) x1.toNatClampNeg) rfl ?_
  refine iv_iconst (pc := 32) X dX11_lookLet_32 ic_2 ?_
  refine iv_iload_n (pc := 33) X dX11_lookLet_33 rfl ?_
  refine iv_iconst (pc := 34) X dX11_lookLet_34 ic_0 ?_
  obtain ⟨⟨r8, S7⟩, hc9, hm⟩ := bd_some hm
  refine cV_X11_368_75 (pc := 35) X [.long ((S4.2.1 87) x1.toNatClampNeg), .int ((S4.1 86) x1.toNatClampNeg), .int 2, .int x1, .int 0] [] 5 rfl (f_X11_know_e l g ad fu ((S4.2.1 87) x1.toNatClampNeg) ((S4.1 86) x1.toNatClampNeg) 2 x1 0 S4 _ _ hc9) (by show (_ : Nat) ≤ D; omega) (by show (_ : Nat) ≤ 40 * D; omega) (Nat.le_of_ble_eq_true rfl) rfl dX11_lookLet_35 ?_
  refine iv_aload_n (pc := 38) X dX11_lookLet_38 rfl ?_
  refine iv_aload_n (pc := 39) X dX11_lookLet_39 rfl ?_
  refine gF_X11_35_75 (pc := 40) X dX11_lookLet_40 ?_
  refine iv_iload_n (pc := 43) X dX11_lookLet_43 rfl ?_
  obtain ⟨hg, hm⟩ := gd_some hm
  refine aL_84 (pc := 44) X dX11_lookLet_44 hg (x := (S7.1 84) x1.toNatClampNeg) rfl ?_
  obtain ⟨⟨r11, S10⟩, hc12, hm⟩ := bd_some hm
  refine cV_X11_338_75 (pc := 45) X [.int ((S7.1 84) x1.toNatClampNeg)] [] 1 rfl (hK.1 ((S7.1 84) x1.toNatClampNeg) 0 S7 _ _ hc12) (by show (_ : Nat) ≤ D; omega) (by show (_ : Nat) ≤ 40 * D; omega) (Nat.le_of_ble_eq_true rfl) rfl dX11_lookLet_45 ?_
  refine iv_istore_n (pc := 48) X dX11_lookLet_48 (by decide) (lv' := [(2, .int r11), (0, .ref (ad 75)), (1, .int x1)]) rfl ?_
  refine iv_aload_n (pc := 49) X dX11_lookLet_49 rfl ?_
  refine iv_dup (pc := 50) X dX11_lookLet_50 rfl ?_
  refine gF_X11_329_75 (pc := 51) X dX11_lookLet_51 (x := S10.1 75 52) rfl ?_
  refine iv_iconst (pc := 54) X dX11_lookLet_54 ic_1 ?_
  refine iv_isub (pc := 55) X dX11_lookLet_55 ?_
  refine pF_X11_329_75 (pc := 56) X dX11_lookLet_56 ?_
  refine iv_iload_n (pc := 59) X dX11_lookLet_59 rfl ?_
  cases hm
  exact is_iret (pc := 60) X dX11_lookLet_60
def f_X11_lookLoop_L163 (K : Nat → Int32 → Int32 → im_S → Option (Int32 × im_S)) (fu : Nat) (K112 : Int32 → Int32 → Int32 → im_S → Option (Int32 × im_S)) : Nat → Int32 → Int32 → Int32 → Int32 → Int32 → Int32 → im_S → Option (Int32 × im_S)
  | 0, _, _, _, _, _, _, _ => none
  | nf + 1, z1, z2, z3, z4, z5, z6, S => if (z4 : Int32) ≤ z6 then (if (z5 : Int32) ≠ 0 then (gd (in_b z4 1200) (gd (in_b z4 1200) ((f_X11_typeOf fu ((S.2.1 93) z4.toNatClampNeg) S).bind (fun qS3 => (K 2 ((S.1 95) z4.toNatClampNeg) qS3.1 qS3.2).bind (fun qS6 => K112 z1 z2 (z3 + 1) qS6.2))))) else (gd (in_b z4 1200) ((f_X11_note 2 ((S.1 94) z4.toNatClampNeg) S).bind (fun qS9 => gd (in_b z4 1200) (gd (in_b z4 1200) ((f_X11_typeOf fu ((qS9.2.2.1 93) z4.toNatClampNeg) qS9.2).bind (fun qS12 => (K 2 ((qS9.2.1 95) z4.toNatClampNeg) qS12.1 qS12.2).bind (fun qS15 => K112 z1 z2 (z3 + 1) qS15.2)))))))) else (if (z5 : Int32) = 0 then (f_X11_lookLoop_L163 K fu K112 nf z1 z2 z3 z4 0 (z6 + 1) S) else (gd (in_b z6 1200) (gd (in_b z4 1200) (if (lg_cmp ((S.2.1 93) z6.toNatClampNeg) ((S.2.1 93) z4.toNatClampNeg) : Int32) = 0 then (f_X11_lookLoop_L163 K fu K112 nf z1 z2 z3 z4 0 (z6 + 1) S) else (f_X11_lookLoop_L163 K fu K112 nf z1 z2 z3 z4 1 (z6 + 1) S)))))
set_option maxHeartbeats 4000000 in
set_option maxRecDepth 100000 in
theorem f_X11_lookLoop_L163_w {l : Launch} {g : im_G} {ad : Nat → Nat} (K : Nat → Int32 → Int32 → im_S → Option (Int32 × im_S)) {D dk : Nat} (hD1 : dk + 1 ≤ D) (hD2 : 3 ≤ D) (hK : kh_look l g ad K dk) {fu : Nat} (l0 : Launch) (g0 : im_G) (ad0 : Nat → Nat) {p : Program} {e : Env} {s : State} {m : MethodId} {below : List Frame} {meth : Method} {c : Code} {args : Array Value} (X : im_X p l s m args meth c g cX11_lookLoop 7 RX11 (some Jvm.ClassFile.FieldType.int)) (K112 : Int32 → Int32 → Int32 → im_S → Option (Int32 × im_S)) (hK112 : ∀ (z1 : Int32) (z2 : Int32) (z3 : Int32) (S : im_S) (r : Int32) (S' : im_S), K112 z1 z2 z3 S = some (r, S') → im_V p l e (im_R D 0 0) s m args below meth c g 7 (im_Z below g ad args s (some (.int r)) S') ad im_N (im_cn g ad S) 0 0 112 [(0, .ref (ad 75)), (1, .int z1), (2, .int z2), (3, .int z3)] []) : ∀ (nf : Nat) (z1 : Int32) (z2 : Int32) (z3 : Int32) (z4 : Int32) (z5 : Int32) (z6 : Int32) (S : im_S) (r : Int32) (S' : im_S), f_X11_lookLoop_L163 K fu K112 nf z1 z2 z3 z4 z5 z6 S = some (r, S') → im_V p l e (im_R D 0 0) s m args below meth c g 7 (im_Z below g ad args s (some (.int r)) S') ad im_N (im_cn g ad S) 0 0 163 [(0, .ref (ad 75)), (1, .int z1), (2, .int z2), (3, .int z3), (4, .int z4), (5, .int z5), (6, .int z6)] [] := by
  intro nf
  induction nf with
  | zero =>
    intro z1 z2 z3 z4 z5 z6 S r S' hm
    cases hm
  | succ nf ih =>
    intro z1 z2 z3 z4 z5 z6 S r S' hm
    unfold f_X11_lookLoop_L163 at hm
    refine iv_iload (pc := 163) X dX11_lookLoop_163 rfl ?_
    refine iv_iload (pc := 165) X dX11_lookLoop_165 rfl ?_
    refine iv_icmp_ge (pc := 167) X dX11_lookLoop_167 (tgt := 206) rfl (fun hb1 => ?_) (fun hb1 => ?_)
    · rw [if_pos hb1] at hm
      refine iv_iload (pc := 206) X dX11_lookLoop_206 rfl ?_
      refine iv_if_ne (pc := 208) X dX11_lookLoop_208 (tgt := 223) rfl (fun hb2 => ?_) (fun hb2 => ?_)
      · rw [if_pos hb2] at hm
        refine iv_aload_n (pc := 223) X dX11_lookLoop_223 rfl ?_
        refine iv_aload_n (pc := 224) X dX11_lookLoop_224 rfl ?_
        refine gF_X11_68_75 (pc := 225) X dX11_lookLoop_225 ?_
        refine iv_iload (pc := 228) X dX11_lookLoop_228 rfl ?_
        obtain ⟨hg, hm⟩ := gd_some hm
        refine aL_95 (pc := 230) X dX11_lookLoop_230 hg (x := (S.1 95) z4.toNatClampNeg) rfl ?_
        refine iv_aload_n (pc := 231) X dX11_lookLoop_231 rfl ?_
        refine gF_X11_62_75 (pc := 232) X dX11_lookLoop_232 ?_
        refine iv_iload (pc := 235) X dX11_lookLoop_235 rfl ?_
        obtain ⟨hg, hm⟩ := gd_some hm
        refine aL_93 (pc := 237) X dX11_lookLoop_237 hg (x := (S.2.1 93) z4.toNatClampNeg) rfl ?_
        obtain ⟨⟨r4, S3⟩, hc5, hm⟩ := bd_some hm
        refine cS_X11_362 (pc := 238) X [.long ((S.2.1 93) z4.toNatClampNeg)] [.int ((S.1 95) z4.toNatClampNeg), .ref (ad 75)] 1 rfl (f_X11_typeOf_e l g ad fu ((S.2.1 93) z4.toNatClampNeg) S _ _ hc5) (by show (_ : Nat) ≤ D; omega) (by show (_ : Nat) ≤ 40 * D; omega) (Nat.le_of_ble_eq_true rfl) rfl dX11_lookLoop_238 ?_
        obtain ⟨⟨r7, S6⟩, hc8, hm⟩ := bd_some hm
        refine cV_X11_353_75 (pc := 241) X [.int ((S.1 95) z4.toNatClampNeg), .int r4] [] 2 rfl (hK.2.2.1 ((S.1 95) z4.toNatClampNeg) r4 S3 _ _ hc8) (by show (_ : Nat) ≤ D; omega) (by show (_ : Nat) ≤ 40 * D; omega) (Nat.le_of_ble_eq_true rfl) rfl dX11_lookLoop_241 ?_
        refine iv_iinc (pc := 244) X dX11_lookLoop_244 rfl (by decide) (v := z3 + 1) rfl (lv' := [(3, .int (z3 + 1)), (0, .ref (ad 75)), (1, .int z1), (2, .int z2), (4, .int z4), (5, .int z5), (6, .int z6)]) rfl ?_
        refine iv_goto (pc := 247) X dX11_lookLoop_247 (tgt := 112) rfl ?_
        refine iv_sub [1, 2, 3, 0] (lv2 := [(0, .ref (ad 75)), (1, .int z1), (2, .int z2), (3, .int (z3 + 1))]) rfl ?_
        exact hK112 z1 z2 (z3 + 1) S6 _ _ hm
      · rw [if_neg hb2] at hm
        refine iv_aload_n (pc := 211) X dX11_lookLoop_211 rfl ?_
        refine iv_iconst (pc := 212) X dX11_lookLoop_212 ic_2 ?_
        refine iv_aload_n (pc := 213) X dX11_lookLoop_213 rfl ?_
        refine gF_X11_65_75 (pc := 214) X dX11_lookLoop_214 ?_
        refine iv_iload (pc := 217) X dX11_lookLoop_217 rfl ?_
        obtain ⟨hg, hm⟩ := gd_some hm
        refine aL_94 (pc := 219) X dX11_lookLoop_219 hg (x := (S.1 94) z4.toNatClampNeg) rfl ?_
        obtain ⟨⟨r10, S9⟩, hc11, hm⟩ := bd_some hm
        refine cV_X11_335_75 (pc := 220) X [.int 2, .int ((S.1 94) z4.toNatClampNeg)] [] 2 rfl (f_X11_note_e l g ad 2 ((S.1 94) z4.toNatClampNeg) S _ _ hc11) (by show (_ : Nat) ≤ D; omega) (by show (_ : Nat) ≤ 40 * D; omega) (Nat.le_of_ble_eq_true rfl) rfl dX11_lookLoop_220 ?_
        refine iv_aload_n (pc := 223) X dX11_lookLoop_223 rfl ?_
        refine iv_aload_n (pc := 224) X dX11_lookLoop_224 rfl ?_
        refine gF_X11_68_75 (pc := 225) X dX11_lookLoop_225 ?_
        refine iv_iload (pc := 228) X dX11_lookLoop_228 rfl ?_
        obtain ⟨hg, hm⟩ := gd_some hm
        refine aL_95 (pc := 230) X dX11_lookLoop_230 hg (x := (S9.1 95) z4.toNatClampNeg) rfl ?_
        refine iv_aload_n (pc := 231) X dX11_lookLoop_231 rfl ?_
        refine gF_X11_62_75 (pc := 232) X dX11_lookLoop_232 ?_
        refine iv_iload (pc := 235) X dX11_lookLoop_235 rfl ?_
        obtain ⟨hg, hm⟩ := gd_some hm
        refine aL_93 (pc := 237) X dX11_lookLoop_237 hg (x := (S9.2.1 93) z4.toNatClampNeg) rfl ?_
        obtain ⟨⟨r13, S12⟩, hc14, hm⟩ := bd_some hm
        refine cS_X11_362 (pc := 238) X [.long ((S9.2.1 93) z4.toNatClampNeg)] [.int ((S9.1 95) z4.toNatClampNeg), .ref (ad 75)] 1 rfl (f_X11_typeOf_e l g ad fu ((S9.2.1 93) z4.toNatClampNeg) S9 _ _ hc14) (by show (_ : Nat) ≤ D; omega) (by show (_ : Nat) ≤ 40 * D; omega) (Nat.le_of_ble_eq_true rfl) rfl dX11_lookLoop_238 ?_
        obtain ⟨⟨r16, S15⟩, hc17, hm⟩ := bd_some hm
        refine cV_X11_353_75 (pc := 241) X [.int ((S9.1 95) z4.toNatClampNeg), .int r13] [] 2 rfl (hK.2.2.1 ((S9.1 95) z4.toNatClampNeg) r13 S12 _ _ hc17) (by show (_ : Nat) ≤ D; omega) (by show (_ : Nat) ≤ 40 * D; omega) (Nat.le_of_ble_eq_true rfl) rfl dX11_lookLoop_241 ?_
        refine iv_iinc (pc := 244) X dX11_lookLoop_244 rfl (by decide) (v := z3 + 1) rfl (lv' := [(3, .int (z3 + 1)), (0, .ref (ad 75)), (1, .int z1), (2, .int z2), (4, .int z4), (5, .int z5), (6, .int z6)]) rfl ?_
        refine iv_goto (pc := 247) X dX11_lookLoop_247 (tgt := 112) rfl ?_
        refine iv_sub [1, 2, 3, 0] (lv2 := [(0, .ref (ad 75)), (1, .int z1), (2, .int z2), (3, .int (z3 + 1))]) rfl ?_
        exact hK112 z1 z2 (z3 + 1) S15 _ _ hm
    · rw [if_neg hb1] at hm
      refine iv_iload (pc := 170) X dX11_lookLoop_170 rfl ?_
      refine iv_if_eq (pc := 172) X dX11_lookLoop_172 (tgt := 197) rfl (fun hb18 => ?_) (fun hb18 => ?_)
      · rw [if_pos hb18] at hm
        refine iv_iconst (pc := 197) X dX11_lookLoop_197 ic_0 ?_
        refine iv_istore (pc := 198) X dX11_lookLoop_198 (by decide) (lv' := [(5, .int 0), (0, .ref (ad 75)), (1, .int z1), (2, .int z2), (3, .int z3), (4, .int z4), (6, .int z6)]) rfl ?_
        refine iv_iinc (pc := 200) X dX11_lookLoop_200 rfl (by decide) (v := z6 + 1) rfl (lv' := [(6, .int (z6 + 1)), (5, .int 0), (0, .ref (ad 75)), (1, .int z1), (2, .int z2), (3, .int z3), (4, .int z4)]) rfl ?_
        refine iv_goto (pc := 203) X dX11_lookLoop_203 (tgt := 163) rfl ?_
        refine iv_sub [2, 3, 4, 5, 6, 1, 0] (lv2 := [(0, .ref (ad 75)), (1, .int z1), (2, .int z2), (3, .int z3), (4, .int z4), (5, .int 0), (6, .int (z6 + 1))]) rfl ?_
        exact ih z1 z2 z3 z4 0 (z6 + 1) S _ _ hm
      · rw [if_neg hb18] at hm
        refine iv_aload_n (pc := 175) X dX11_lookLoop_175 rfl ?_
        refine gF_X11_62_75 (pc := 176) X dX11_lookLoop_176 ?_
        refine iv_iload (pc := 179) X dX11_lookLoop_179 rfl ?_
        obtain ⟨hg, hm⟩ := gd_some hm
        refine aL_93 (pc := 181) X dX11_lookLoop_181 hg (x := (S.2.1 93) z6.toNatClampNeg) rfl ?_
        refine iv_aload_n (pc := 182) X dX11_lookLoop_182 rfl ?_
        refine gF_X11_62_75 (pc := 183) X dX11_lookLoop_183 ?_
        refine iv_iload (pc := 186) X dX11_lookLoop_186 rfl ?_
        obtain ⟨hg, hm⟩ := gd_some hm
        refine aL_93 (pc := 188) X dX11_lookLoop_188 hg (x := (S.2.1 93) z4.toNatClampNeg) rfl ?_
        refine iv_lcmp (pc := 189) X dX11_lookLoop_189 ?_
        refine iv_if_eq (pc := 190) X dX11_lookLoop_190 (tgt := 197) rfl (fun hb19 => ?_) (fun hb19 => ?_)
        · rw [if_pos hb19] at hm
          refine iv_iconst (pc := 197) X dX11_lookLoop_197 ic_0 ?_
          refine iv_istore (pc := 198) X dX11_lookLoop_198 (by decide) (lv' := [(5, .int 0), (0, .ref (ad 75)), (1, .int z1), (2, .int z2), (3, .int z3), (4, .int z4), (6, .int z6)]) rfl ?_
          refine iv_iinc (pc := 200) X dX11_lookLoop_200 rfl (by decide) (v := z6 + 1) rfl (lv' := [(6, .int (z6 + 1)), (5, .int 0), (0, .ref (ad 75)), (1, .int z1), (2, .int z2), (3, .int z3), (4, .int z4)]) rfl ?_
          refine iv_goto (pc := 203) X dX11_lookLoop_203 (tgt := 163) rfl ?_
          refine iv_sub [2, 3, 4, 5, 6, 1, 0] (lv2 := [(0, .ref (ad 75)), (1, .int z1), (2, .int z2), (3, .int z3), (4, .int z4), (5, .int 0), (6, .int (z6 + 1))]) rfl ?_
          exact ih z1 z2 z3 z4 0 (z6 + 1) S _ _ hm
        · rw [if_neg hb19] at hm
          refine iv_iconst (pc := 193) X dX11_lookLoop_193 ic_1 ?_
          refine iv_goto (pc := 194) X dX11_lookLoop_194 (tgt := 198) rfl ?_
          refine iv_istore (pc := 198) X dX11_lookLoop_198 (by decide) (lv' := [(5, .int 1), (0, .ref (ad 75)), (1, .int z1), (2, .int z2), (3, .int z3), (4, .int z4), (6, .int z6)]) rfl ?_
          refine iv_iinc (pc := 200) X dX11_lookLoop_200 rfl (by decide) (v := z6 + 1) rfl (lv' := [(6, .int (z6 + 1)), (5, .int 1), (0, .ref (ad 75)), (1, .int z1), (2, .int z2), (3, .int z3), (4, .int z4)]) rfl ?_
          refine iv_goto (pc := 203) X dX11_lookLoop_203 (tgt := 163) rfl ?_
          refine iv_sub [2, 3, 4, 5, 6, 1, 0] (lv2 := [(0, .ref (ad 75)), (1, .int z1), (2, .int z2), (3, .int z3), (4, .int z4), (5, .int 1), (6, .int (z6 + 1))]) rfl ?_
          exact ih z1 z2 z3 z4 1 (z6 + 1) S _ _ hm
def f_X11_lookLoop_L112 (K : Nat → Int32 → Int32 → im_S → Option (Int32 × im_S)) (fu : Nat) : Nat → Int32 → Int32 → Int32 → im_S → Option (Int32 × im_S)
  | 0, _, _, _, _ => none
  | nf + 1, z1, z2, z3, S => gd (in_b z1 1200) (if ((S.1 92) z1.toNatClampNeg : Int32) ≤ z3 then (gd (in_b z1 1200) ((K 0 ((S.1 84) z1.toNatClampNeg) 0 S).bind (fun qS2 => some (qS2.1, (uI qS2.2 75 52 ((qS2.2.1 75 52) - z2)))))) else (gd (in_b z1 1200) (gd (in_b (((S.1 91) z1.toNatClampNeg) + z3) 1200) ((f_X11_partOf fu z1 ((S.2.1 93) ((((S.1 91) z1.toNatClampNeg) + z3).toNatClampNeg)) S).bind (fun qS5 => if (qS5.1 : Int32) = (-1) then (gd (in_b z1 1200) (f_X11_lookLoop_L163 K fu (f_X11_lookLoop_L112 K fu nf) fu z1 z2 z3 (((S.1 91) z1.toNatClampNeg) + z3) 0 ((qS5.2.1 91) z1.toNatClampNeg) qS5.2)) else (gd (in_b z1 1200) (f_X11_lookLoop_L163 K fu (f_X11_lookLoop_L112 K fu nf) fu z1 z2 z3 (((S.1 91) z1.toNatClampNeg) + z3) 1 ((qS5.2.1 91) z1.toNatClampNeg) qS5.2)))))))
set_option maxHeartbeats 4000000 in
set_option maxRecDepth 100000 in
theorem f_X11_lookLoop_L112_w {l : Launch} {g : im_G} {ad : Nat → Nat} (K : Nat → Int32 → Int32 → im_S → Option (Int32 × im_S)) {D dk : Nat} (hD1 : dk + 1 ≤ D) (hD2 : 3 ≤ D) (hK : kh_look l g ad K dk) {fu : Nat} (l0 : Launch) (g0 : im_G) (ad0 : Nat → Nat) {p : Program} {e : Env} {s : State} {m : MethodId} {below : List Frame} {meth : Method} {c : Code} {args : Array Value} (X : im_X p l s m args meth c g cX11_lookLoop 7 RX11 (some Jvm.ClassFile.FieldType.int)) : ∀ (nf : Nat) (z1 : Int32) (z2 : Int32) (z3 : Int32) (S : im_S) (r : Int32) (S' : im_S), f_X11_lookLoop_L112 K fu nf z1 z2 z3 S = some (r, S') → im_V p l e (im_R D 0 0) s m args below meth c g 7 (im_Z below g ad args s (some (.int r)) S') ad im_N (im_cn g ad S) 0 0 112 [(0, .ref (ad 75)), (1, .int z1), (2, .int z2), (3, .int z3)] [] := by
  intro nf
  induction nf with
  | zero =>
    intro z1 z2 z3 S r S' hm
    cases hm
  | succ nf ih =>
    intro z1 z2 z3 S r S' hm
    unfold f_X11_lookLoop_L112 at hm
    refine iv_iload_n (pc := 112) X dX11_lookLoop_112 rfl ?_
    refine iv_aload_n (pc := 113) X dX11_lookLoop_113 rfl ?_
    refine gF_X11_59_75 (pc := 114) X dX11_lookLoop_114 ?_
    refine iv_iload_n (pc := 117) X dX11_lookLoop_117 rfl ?_
    obtain ⟨hg, hm⟩ := gd_some hm
    refine aL_92 (pc := 118) X dX11_lookLoop_118 hg (x := (S.1 92) z1.toNatClampNeg) rfl ?_
    refine iv_icmp_ge (pc := 119) X dX11_lookLoop_119 (tgt := 250) rfl (fun hb1 => ?_) (fun hb1 => ?_)
    · rw [if_pos hb1] at hm
      refine iv_aload_n (pc := 250) X dX11_lookLoop_250 rfl ?_
      refine iv_aload_n (pc := 251) X dX11_lookLoop_251 rfl ?_
      refine gF_X11_35_75 (pc := 252) X dX11_lookLoop_252 ?_
      refine iv_iload_n (pc := 255) X dX11_lookLoop_255 rfl ?_
      obtain ⟨hg, hm⟩ := gd_some hm
      refine aL_84 (pc := 256) X dX11_lookLoop_256 hg (x := (S.1 84) z1.toNatClampNeg) rfl ?_
      obtain ⟨⟨r3, S2⟩, hc4, hm⟩ := bd_some hm
      refine cV_X11_338_75 (pc := 257) X [.int ((S.1 84) z1.toNatClampNeg)] [] 1 rfl (hK.1 ((S.1 84) z1.toNatClampNeg) 0 S _ _ hc4) (by show (_ : Nat) ≤ D; omega) (by show (_ : Nat) ≤ 40 * D; omega) (Nat.le_of_ble_eq_true rfl) rfl dX11_lookLoop_257 ?_
      refine iv_istore_n (pc := 260) X dX11_lookLoop_260 (by decide) (lv' := [(3, .int r3), (0, .ref (ad 75)), (1, .int z1), (2, .int z2)]) rfl ?_
      refine iv_aload_n (pc := 261) X dX11_lookLoop_261 rfl ?_
      refine iv_dup (pc := 262) X dX11_lookLoop_262 rfl ?_
      refine gF_X11_329_75 (pc := 263) X dX11_lookLoop_263 (x := S2.1 75 52) rfl ?_
      refine iv_iload_n (pc := 266) X dX11_lookLoop_266 rfl ?_
      refine iv_isub (pc := 267) X dX11_lookLoop_267 ?_
      refine pF_X11_329_75 (pc := 268) X dX11_lookLoop_268 ?_
      refine iv_iload_n (pc := 271) X dX11_lookLoop_271 rfl ?_
      cases hm
      exact is_iret (pc := 272) X dX11_lookLoop_272
    · rw [if_neg hb1] at hm
      refine iv_aload_n (pc := 122) X dX11_lookLoop_122 rfl ?_
      refine gF_X11_56_75 (pc := 123) X dX11_lookLoop_123 ?_
      refine iv_iload_n (pc := 126) X dX11_lookLoop_126 rfl ?_
      obtain ⟨hg, hm⟩ := gd_some hm
      refine aL_91 (pc := 127) X dX11_lookLoop_127 hg (x := (S.1 91) z1.toNatClampNeg) rfl ?_
      refine iv_iload_n (pc := 128) X dX11_lookLoop_128 rfl ?_
      refine iv_iadd (pc := 129) X dX11_lookLoop_129 ?_
      refine iv_istore (pc := 130) X dX11_lookLoop_130 (by decide) (lv' := [(4, .int (((S.1 91) z1.toNatClampNeg) + z3)), (0, .ref (ad 75)), (1, .int z1), (2, .int z2), (3, .int z3)]) rfl ?_
      refine iv_aload_n (pc := 132) X dX11_lookLoop_132 rfl ?_
      refine iv_iload_n (pc := 133) X dX11_lookLoop_133 rfl ?_
      refine iv_aload_n (pc := 134) X dX11_lookLoop_134 rfl ?_
      refine gF_X11_62_75 (pc := 135) X dX11_lookLoop_135 ?_
      refine iv_iload (pc := 138) X dX11_lookLoop_138 rfl ?_
      obtain ⟨hg, hm⟩ := gd_some hm
      refine aL_93 (pc := 140) X dX11_lookLoop_140 hg (x := (S.2.1 93) ((((S.1 91) z1.toNatClampNeg) + z3).toNatClampNeg)) rfl ?_
      obtain ⟨⟨r6, S5⟩, hc7, hm⟩ := bd_some hm
      refine cV_X11_372_75 (pc := 141) X [.int z1, .long ((S.2.1 93) ((((S.1 91) z1.toNatClampNeg) + z3).toNatClampNeg))] [] 2 rfl (f_X11_partOf_e l g ad fu z1 ((S.2.1 93) ((((S.1 91) z1.toNatClampNeg) + z3).toNatClampNeg)) S _ _ hc7) (by show (_ : Nat) ≤ D; omega) (by show (_ : Nat) ≤ 40 * D; omega) (Nat.le_of_ble_eq_true rfl) rfl dX11_lookLoop_141 ?_
      refine iv_iconst (pc := 144) X dX11_lookLoop_144 ic_m1 ?_
      refine iv_icmp_eq (pc := 145) X dX11_lookLoop_145 (tgt := 152) rfl (fun hb8 => ?_) (fun hb8 => ?_)
      · rw [if_pos hb8] at hm
        refine iv_iconst (pc := 152) X dX11_lookLoop_152 ic_0 ?_
        refine iv_istore (pc := 153) X dX11_lookLoop_153 (by decide) (lv' := [(5, .int 0), (4, .int (((S.1 91) z1.toNatClampNeg) + z3)), (0, .ref (ad 75)), (1, .int z1), (2, .int z2), (3, .int z3)]) rfl ?_
        refine iv_aload_n (pc := 155) X dX11_lookLoop_155 rfl ?_
        refine gF_X11_56_75 (pc := 156) X dX11_lookLoop_156 ?_
        refine iv_iload_n (pc := 159) X dX11_lookLoop_159 rfl ?_
        obtain ⟨hg, hm⟩ := gd_some hm
        refine aL_91 (pc := 160) X dX11_lookLoop_160 hg (x := (S5.1 91) z1.toNatClampNeg) rfl ?_
        refine iv_istore (pc := 161) X dX11_lookLoop_161 (by decide) (lv' := [(6, .int ((S5.1 91) z1.toNatClampNeg)), (5, .int 0), (4, .int (((S.1 91) z1.toNatClampNeg) + z3)), (0, .ref (ad 75)), (1, .int z1), (2, .int z2), (3, .int z3)]) rfl ?_
        refine iv_sub [3, 4, 5, 6, 2, 1, 0] (lv2 := [(0, .ref (ad 75)), (1, .int z1), (2, .int z2), (3, .int z3), (4, .int (((S.1 91) z1.toNatClampNeg) + z3)), (5, .int 0), (6, .int ((S5.1 91) z1.toNatClampNeg))]) rfl ?_
        exact f_X11_lookLoop_L163_w K hD1 hD2 hK (fu := fu) l g ad X (f_X11_lookLoop_L112 K fu nf) ih fu z1 z2 z3 (((S.1 91) z1.toNatClampNeg) + z3) 0 ((S5.1 91) z1.toNatClampNeg) S5 _ _ hm
      · rw [if_neg hb8] at hm
        refine iv_iconst (pc := 148) X dX11_lookLoop_148 ic_1 ?_
        refine iv_goto (pc := 149) X dX11_lookLoop_149 (tgt := 153) rfl ?_
        refine iv_istore (pc := 153) X dX11_lookLoop_153 (by decide) (lv' := [(5, .int 1), (4, .int (((S.1 91) z1.toNatClampNeg) + z3)), (0, .ref (ad 75)), (1, .int z1), (2, .int z2), (3, .int z3)]) rfl ?_
        refine iv_aload_n (pc := 155) X dX11_lookLoop_155 rfl ?_
        refine gF_X11_56_75 (pc := 156) X dX11_lookLoop_156 ?_
        refine iv_iload_n (pc := 159) X dX11_lookLoop_159 rfl ?_
        obtain ⟨hg, hm⟩ := gd_some hm
        refine aL_91 (pc := 160) X dX11_lookLoop_160 hg (x := (S5.1 91) z1.toNatClampNeg) rfl ?_
        refine iv_istore (pc := 161) X dX11_lookLoop_161 (by decide) (lv' := [(6, .int ((S5.1 91) z1.toNatClampNeg)), (5, .int 1), (4, .int (((S.1 91) z1.toNatClampNeg) + z3)), (0, .ref (ad 75)), (1, .int z1), (2, .int z2), (3, .int z3)]) rfl ?_
        refine iv_sub [3, 4, 5, 6, 2, 1, 0] (lv2 := [(0, .ref (ad 75)), (1, .int z1), (2, .int z2), (3, .int z3), (4, .int (((S.1 91) z1.toNatClampNeg) + z3)), (5, .int 1), (6, .int ((S5.1 91) z1.toNatClampNeg))]) rfl ?_
        exact f_X11_lookLoop_L163_w K hD1 hD2 hK (fu := fu) l g ad X (f_X11_lookLoop_L112 K fu nf) ih fu z1 z2 z3 (((S.1 91) z1.toNatClampNeg) + z3) 1 ((S5.1 91) z1.toNatClampNeg) S5 _ _ hm
def f_X11_lookLoop_L55 (K : Nat → Int32 → Int32 → im_S → Option (Int32 × im_S)) (fu : Nat) : Nat → Int32 → Int32 → Int32 → im_S → Option (Int32 × im_S)
  | 0, _, _, _, _ => none
  | nf + 1, z1, z2, z3, S => if (z2 : Int32) ≤ z3 then (gd (in_b z1 1200) ((K 2 ((S.1 83) z1.toNatClampNeg) 2 S).bind (fun qS2 => f_X11_lookLoop_L112 K fu fu z1 z2 0 qS2.2))) else (gd (in_b z1 1200) (gd (in_b (((S.1 89) z1.toNatClampNeg) + z3) 1200) (gd (in_b z1 1200) (gd (in_b (((S.1 89) z1.toNatClampNeg) + z3) 1200) ((f_X11_know fu ((S.2.1 93) ((((S.1 89) z1.toNatClampNeg) + z3).toNatClampNeg)) ((S.1 94) ((((S.1 89) z1.toNatClampNeg) + z3).toNatClampNeg)) 3 z1 z3 S).bind (fun qS5 => f_X11_lookLoop_L55 K fu nf z1 z2 (z3 + 1) qS5.2))))))
set_option maxHeartbeats 4000000 in
set_option maxRecDepth 100000 in
theorem f_X11_lookLoop_L55_w {l : Launch} {g : im_G} {ad : Nat → Nat} (K : Nat → Int32 → Int32 → im_S → Option (Int32 × im_S)) {D dk : Nat} (hD1 : dk + 1 ≤ D) (hD2 : 3 ≤ D) (hK : kh_look l g ad K dk) {fu : Nat} (l0 : Launch) (g0 : im_G) (ad0 : Nat → Nat) {p : Program} {e : Env} {s : State} {m : MethodId} {below : List Frame} {meth : Method} {c : Code} {args : Array Value} (X : im_X p l s m args meth c g cX11_lookLoop 7 RX11 (some Jvm.ClassFile.FieldType.int)) : ∀ (nf : Nat) (z1 : Int32) (z2 : Int32) (z3 : Int32) (S : im_S) (r : Int32) (S' : im_S), f_X11_lookLoop_L55 K fu nf z1 z2 z3 S = some (r, S') → im_V p l e (im_R D 0 0) s m args below meth c g 7 (im_Z below g ad args s (some (.int r)) S') ad im_N (im_cn g ad S) 0 0 55 [(0, .ref (ad 75)), (1, .int z1), (2, .int z2), (3, .int z3)] [] := by
  intro nf
  induction nf with
  | zero =>
    intro z1 z2 z3 S r S' hm
    cases hm
  | succ nf ih =>
    intro z1 z2 z3 S r S' hm
    unfold f_X11_lookLoop_L55 at hm
    refine iv_iload_n (pc := 55) X dX11_lookLoop_55 rfl ?_
    refine iv_iload_n (pc := 56) X dX11_lookLoop_56 rfl ?_
    refine iv_icmp_ge (pc := 57) X dX11_lookLoop_57 (tgt := 99) rfl (fun hb1 => ?_) (fun hb1 => ?_)
    · rw [if_pos hb1] at hm
      refine iv_aload_n (pc := 99) X dX11_lookLoop_99 rfl ?_
      refine iv_aload_n (pc := 100) X dX11_lookLoop_100 rfl ?_
      refine gF_X11_32_75 (pc := 101) X dX11_lookLoop_101 ?_
      refine iv_iload_n (pc := 104) X dX11_lookLoop_104 rfl ?_
      obtain ⟨hg, hm⟩ := gd_some hm
      refine aL_83 (pc := 105) X dX11_lookLoop_105 hg (x := (S.1 83) z1.toNatClampNeg) rfl ?_
      refine iv_iconst (pc := 106) X dX11_lookLoop_106 ic_2 ?_
      obtain ⟨⟨r3, S2⟩, hc4, hm⟩ := bd_some hm
      refine cV_X11_353_75 (pc := 107) X [.int ((S.1 83) z1.toNatClampNeg), .int 2] [] 2 rfl (hK.2.2.1 ((S.1 83) z1.toNatClampNeg) 2 S _ _ hc4) (by show (_ : Nat) ≤ D; omega) (by show (_ : Nat) ≤ 40 * D; omega) (Nat.le_of_ble_eq_true rfl) rfl dX11_lookLoop_107 ?_
      refine iv_iconst (pc := 110) X dX11_lookLoop_110 ic_0 ?_
      refine iv_istore_n (pc := 111) X dX11_lookLoop_111 (by decide) (lv' := [(3, .int 0), (0, .ref (ad 75)), (1, .int z1), (2, .int z2)]) rfl ?_
      refine iv_sub [1, 2, 3, 0] (lv2 := [(0, .ref (ad 75)), (1, .int z1), (2, .int z2), (3, .int 0)]) rfl ?_
      exact f_X11_lookLoop_L112_w K hD1 hD2 hK (fu := fu) l g ad X fu z1 z2 0 S2 _ _ hm
    · rw [if_neg hb1] at hm
      refine iv_aload_n (pc := 60) X dX11_lookLoop_60 rfl ?_
      refine iv_aload_n (pc := 61) X dX11_lookLoop_61 rfl ?_
      refine gF_X11_62_75 (pc := 62) X dX11_lookLoop_62 ?_
      refine iv_aload_n (pc := 65) X dX11_lookLoop_65 rfl ?_
      refine gF_X11_50_75 (pc := 66) X dX11_lookLoop_66 ?_
      refine iv_iload_n (pc := 69) X dX11_lookLoop_69 rfl ?_
      obtain ⟨hg, hm⟩ := gd_some hm
      refine aL_89 (pc := 70) X dX11_lookLoop_70 hg (x := (S.1 89) z1.toNatClampNeg) rfl ?_
      refine iv_iload_n (pc := 71) X dX11_lookLoop_71 rfl ?_
      refine iv_iadd (pc := 72) X dX11_lookLoop_72 ?_
      obtain ⟨hg, hm⟩ := gd_some hm
      refine aL_93 (pc := 73) X dX11_lookLoop_73 hg (x := (S.2.1 93) ((((S.1 89) z1.toNatClampNeg) + z3).toNatClampNeg)) rfl ?_
      refine iv_aload_n (pc := 74) X dX11_lookLoop_74 rfl ?_
      refine gF_X11_65_75 (pc := 75) X dX11_lookLoop_75 ?_
      refine iv_aload_n (pc := 78) X dX11_lookLoop_78 rfl ?_
      refine gF_X11_50_75 (pc := 79) X dX11_lookLoop_79 ?_
      refine iv_iload_n (pc := 82) X dX11_lookLoop_82 rfl ?_
      obtain ⟨hg, hm⟩ := gd_some hm
      refine aL_89 (pc := 83) X dX11_lookLoop_83 hg (x := (S.1 89) z1.toNatClampNeg) rfl ?_
      refine iv_iload_n (pc := 84) X dX11_lookLoop_84 rfl ?_
      refine iv_iadd (pc := 85) X dX11_lookLoop_85 ?_
      obtain ⟨hg, hm⟩ := gd_some hm
      refine aL_94 (pc := 86) X dX11_lookLoop_86 hg (x := (S.1 94) ((((S.1 89) z1.toNatClampNeg) + z3).toNatClampNeg)) rfl ?_
      refine iv_iconst (pc := 87) X dX11_lookLoop_87 ic_3 ?_
      refine iv_iload_n (pc := 88) X dX11_lookLoop_88 rfl ?_
      refine iv_iload_n (pc := 89) X dX11_lookLoop_89 rfl ?_
      obtain ⟨⟨r6, S5⟩, hc7, hm⟩ := bd_some hm
      refine cV_X11_368_75 (pc := 90) X [.long ((S.2.1 93) ((((S.1 89) z1.toNatClampNeg) + z3).toNatClampNeg)), .int ((S.1 94) ((((S.1 89) z1.toNatClampNeg) + z3).toNatClampNeg)), .int 3, .int z1, .int z3] [] 5 rfl (f_X11_know_e l g ad fu ((S.2.1 93) ((((S.1 89) z1.toNatClampNeg) + z3).toNatClampNeg)) ((S.1 94) ((((S.1 89) z1.toNatClampNeg) + z3).toNatClampNeg)) 3 z1 z3 S _ _ hc7) (by show (_ : Nat) ≤ D; omega) (by show (_ : Nat) ≤ 40 * D; omega) (Nat.le_of_ble_eq_true rfl) rfl dX11_lookLoop_90 ?_
      refine iv_iinc (pc := 93) X dX11_lookLoop_93 rfl (by decide) (v := z3 + 1) rfl (lv' := [(3, .int (z3 + 1)), (0, .ref (ad 75)), (1, .int z1), (2, .int z2)]) rfl ?_
      refine iv_goto (pc := 96) X dX11_lookLoop_96 (tgt := 55) rfl ?_
      refine iv_sub [1, 2, 3, 0] (lv2 := [(0, .ref (ad 75)), (1, .int z1), (2, .int z2), (3, .int (z3 + 1))]) rfl ?_
      exact ih z1 z2 (z3 + 1) S5 _ _ hm
def f_X11_lookLoop_L9 (K : Nat → Int32 → Int32 → im_S → Option (Int32 × im_S)) (fu : Nat) : Nat → Int32 → Int32 → Int32 → im_S → Option (Int32 × im_S)
  | 0, _, _, _, _ => none
  | nf + 1, z1, z2, z3, S => if (z2 : Int32) ≤ z3 then (f_X11_lookLoop_L55 K fu fu z1 z2 0 S) else (gd (in_b z1 1200) (gd (in_b (((S.1 89) z1.toNatClampNeg) + z3) 1200) (gd (in_b z1 1200) (gd (in_b (((S.1 89) z1.toNatClampNeg) + z3) 1200) ((f_X11_typeOf fu ((S.2.1 93) ((((S.1 89) z1.toNatClampNeg) + z3).toNatClampNeg)) S).bind (fun qS2 => (K 2 ((S.1 95) ((((S.1 89) z1.toNatClampNeg) + z3).toNatClampNeg)) qS2.1 qS2.2).bind (fun qS5 => f_X11_lookLoop_L9 K fu nf z1 z2 (z3 + 1) qS5.2)))))))
set_option maxHeartbeats 4000000 in
set_option maxRecDepth 100000 in
theorem f_X11_lookLoop_L9_w {l : Launch} {g : im_G} {ad : Nat → Nat} (K : Nat → Int32 → Int32 → im_S → Option (Int32 × im_S)) {D dk : Nat} (hD1 : dk + 1 ≤ D) (hD2 : 3 ≤ D) (hK : kh_look l g ad K dk) {fu : Nat} (l0 : Launch) (g0 : im_G) (ad0 : Nat → Nat) {p : Program} {e : Env} {s : State} {m : MethodId} {below : List Frame} {meth : Method} {c : Code} {args : Array Value} (X : im_X p l s m args meth c g cX11_lookLoop 7 RX11 (some Jvm.ClassFile.FieldType.int)) : ∀ (nf : Nat) (z1 : Int32) (z2 : Int32) (z3 : Int32) (S : im_S) (r : Int32) (S' : im_S), f_X11_lookLoop_L9 K fu nf z1 z2 z3 S = some (r, S') → im_V p l e (im_R D 0 0) s m args below meth c g 7 (im_Z below g ad args s (some (.int r)) S') ad im_N (im_cn g ad S) 0 0 9 [(0, .ref (ad 75)), (1, .int z1), (2, .int z2), (3, .int z3)] [] := by
  intro nf
  induction nf with
  | zero =>
    intro z1 z2 z3 S r S' hm
    cases hm
  | succ nf ih =>
    intro z1 z2 z3 S r S' hm
    unfold f_X11_lookLoop_L9 at hm
    refine iv_iload_n (pc := 9) X dX11_lookLoop_9 rfl ?_
    refine iv_iload_n (pc := 10) X dX11_lookLoop_10 rfl ?_
    refine iv_icmp_ge (pc := 11) X dX11_lookLoop_11 (tgt := 53) rfl (fun hb1 => ?_) (fun hb1 => ?_)
    · rw [if_pos hb1] at hm
      refine iv_iconst (pc := 53) X dX11_lookLoop_53 ic_0 ?_
      refine iv_istore_n (pc := 54) X dX11_lookLoop_54 (by decide) (lv' := [(3, .int 0), (0, .ref (ad 75)), (1, .int z1), (2, .int z2)]) rfl ?_
      refine iv_sub [1, 2, 3, 0] (lv2 := [(0, .ref (ad 75)), (1, .int z1), (2, .int z2), (3, .int 0)]) rfl ?_
      exact f_X11_lookLoop_L55_w K hD1 hD2 hK (fu := fu) l g ad X fu z1 z2 0 S _ _ hm
    · rw [if_neg hb1] at hm
      refine iv_aload_n (pc := 14) X dX11_lookLoop_14 rfl ?_
      refine iv_aload_n (pc := 15) X dX11_lookLoop_15 rfl ?_
      refine gF_X11_68_75 (pc := 16) X dX11_lookLoop_16 ?_
      refine iv_aload_n (pc := 19) X dX11_lookLoop_19 rfl ?_
      refine gF_X11_50_75 (pc := 20) X dX11_lookLoop_20 ?_
      refine iv_iload_n (pc := 23) X dX11_lookLoop_23 rfl ?_
      obtain ⟨hg, hm⟩ := gd_some hm
      refine aL_89 (pc := 24) X dX11_lookLoop_24 hg (x := (S.1 89) z1.toNatClampNeg) rfl ?_
      refine iv_iload_n (pc := 25) X dX11_lookLoop_25 rfl ?_
      refine iv_iadd (pc := 26) X dX11_lookLoop_26 ?_
      obtain ⟨hg, hm⟩ := gd_some hm
      refine aL_95 (pc := 27) X dX11_lookLoop_27 hg (x := (S.1 95) ((((S.1 89) z1.toNatClampNeg) + z3).toNatClampNeg)) rfl ?_
      refine iv_aload_n (pc := 28) X dX11_lookLoop_28 rfl ?_
      refine gF_X11_62_75 (pc := 29) X dX11_lookLoop_29 ?_
      refine iv_aload_n (pc := 32) X dX11_lookLoop_32 rfl ?_
      refine gF_X11_50_75 (pc := 33) X dX11_lookLoop_33 ?_
      refine iv_iload_n (pc := 36) X dX11_lookLoop_36 rfl ?_
      obtain ⟨hg, hm⟩ := gd_some hm
      refine aL_89 (pc := 37) X dX11_lookLoop_37 hg (x := (S.1 89) z1.toNatClampNeg) rfl ?_
      refine iv_iload_n (pc := 38) X dX11_lookLoop_38 rfl ?_
      refine iv_iadd (pc := 39) X dX11_lookLoop_39 ?_
      obtain ⟨hg, hm⟩ := gd_some hm
      refine aL_93 (pc := 40) X dX11_lookLoop_40 hg (x := (S.2.1 93) ((((S.1 89) z1.toNatClampNeg) + z3).toNatClampNeg)) rfl ?_
      obtain ⟨⟨r3, S2⟩, hc4, hm⟩ := bd_some hm
      refine cS_X11_362 (pc := 41) X [.long ((S.2.1 93) ((((S.1 89) z1.toNatClampNeg) + z3).toNatClampNeg))] [.int ((S.1 95) ((((S.1 89) z1.toNatClampNeg) + z3).toNatClampNeg)), .ref (ad 75)] 1 rfl (f_X11_typeOf_e l g ad fu ((S.2.1 93) ((((S.1 89) z1.toNatClampNeg) + z3).toNatClampNeg)) S _ _ hc4) (by show (_ : Nat) ≤ D; omega) (by show (_ : Nat) ≤ 40 * D; omega) (Nat.le_of_ble_eq_true rfl) rfl dX11_lookLoop_41 ?_
      obtain ⟨⟨r6, S5⟩, hc7, hm⟩ := bd_some hm
      refine cV_X11_353_75 (pc := 44) X [.int ((S.1 95) ((((S.1 89) z1.toNatClampNeg) + z3).toNatClampNeg)), .int r3] [] 2 rfl (hK.2.2.1 ((S.1 95) ((((S.1 89) z1.toNatClampNeg) + z3).toNatClampNeg)) r3 S2 _ _ hc7) (by show (_ : Nat) ≤ D; omega) (by show (_ : Nat) ≤ 40 * D; omega) (Nat.le_of_ble_eq_true rfl) rfl dX11_lookLoop_44 ?_
      refine iv_iinc (pc := 47) X dX11_lookLoop_47 rfl (by decide) (v := z3 + 1) rfl (lv' := [(3, .int (z3 + 1)), (0, .ref (ad 75)), (1, .int z1), (2, .int z2)]) rfl ?_
      refine iv_goto (pc := 50) X dX11_lookLoop_50 (tgt := 9) rfl ?_
      refine iv_sub [1, 2, 3, 0] (lv2 := [(0, .ref (ad 75)), (1, .int z1), (2, .int z2), (3, .int (z3 + 1))]) rfl ?_
      exact ih z1 z2 (z3 + 1) S5 _ _ hm
def f_X11_lookLoop (K : Nat → Int32 → Int32 → im_S → Option (Int32 × im_S)) (fu : Nat) (x1 : Int32) (S : im_S) : Option (Int32 × im_S) := gd (in_b x1 1200) (f_X11_lookLoop_L9 K fu fu x1 ((S.1 90) x1.toNatClampNeg) 0 S)
set_option maxHeartbeats 4000000 in
set_option maxRecDepth 100000 in
theorem f_X11_lookLoop_e (l : Launch) (g : im_G) (ad : Nat → Nat) (K : Nat → Int32 → Int32 → im_S → Option (Int32 × im_S)) {D dk : Nat} (hD1 : dk + 1 ≤ D) (hD2 : 3 ≤ D) (hK : kh_look l g ad K dk) (fu : Nat) (x1 : Int32) (S : im_S) (r : Int32) (S' : im_S) (hm : f_X11_lookLoop K fu x1 S = some (r, S')) : im_E l g ad D yX11_lookLoop cX11_lookLoop 7 (some Jvm.ClassFile.FieldType.int) [.ref (ad 75), .int x1] S (some (.int r)) S' := by
  unfold f_X11_lookLoop at hm
  refine is_met (own := RX11) (by decide +kernel) rfl (Nat.le_of_ble_eq_true rfl) (fun p e s m below meth c X => ?_)
  refine iv_aload_n (pc := 0) X dX11_lookLoop_0 rfl ?_
  refine gF_X11_53_75 (pc := 1) X dX11_lookLoop_1 ?_
  refine iv_iload_n (pc := 4) X dX11_lookLoop_4 rfl ?_
  obtain ⟨hg, hm⟩ := gd_some hm
  refine aL_90 (pc := 5) X dX11_lookLoop_5 hg (x := (S.1 90) x1.toNatClampNeg) rfl ?_
  refine iv_istore_n (pc := 6) X dX11_lookLoop_6 (by decide) (lv' := [(2, .int ((S.1 90) x1.toNatClampNeg)), (0, .ref (ad 75)), (1, .int x1)]) rfl ?_
  refine iv_iconst (pc := 7) X dX11_lookLoop_7 ic_0 ?_
  refine iv_istore_n (pc := 8) X dX11_lookLoop_8 (by decide) (lv' := [(3, .int 0), (2, .int ((S.1 90) x1.toNatClampNeg)), (0, .ref (ad 75)), (1, .int x1)]) rfl ?_
  refine iv_sub [2, 3, 1, 0] (lv2 := [(0, .ref (ad 75)), (1, .int x1), (2, .int ((S.1 90) x1.toNatClampNeg)), (3, .int 0)]) rfl ?_
  exact f_X11_lookLoop_L9_w K hD1 hD2 hK (fu := fu) l g ad X fu x1 ((S.1 90) x1.toNatClampNeg) 0 S _ _ hm
def f_X11_lookTable (K : Nat → Int32 → Int32 → im_S → Option (Int32 × im_S)) (fu : Nat) (x1 : Int32) (S : im_S) : Option (Int32 × im_S) := gd (in_b x1 1200) (gd (in_b ((S.1 89) x1.toNatClampNeg) 1200) ((f_X11_typeOf fu ((S.2.1 93) (((S.1 89) x1.toNatClampNeg).toNatClampNeg)) S).bind (fun qS1 => if (qS1.1 : Int32) = 3 then (gd (in_b (((S.1 89) x1.toNatClampNeg) + 1) 1200) ((f_X11_typeOf fu ((qS1.2.2.1 93) ((((S.1 89) x1.toNatClampNeg) + 1).toNatClampNeg)) qS1.2).bind (fun qS5 => if (qS5.1 : Int32) = 1 then (gd (in_b x1 1200) ((K 2 ((qS5.2.1 83) x1.toNatClampNeg) 1 qS5.2).bind (fun qS9 => gd (in_b ((S.1 89) x1.toNatClampNeg) 1200) (gd (in_b ((S.1 89) x1.toNatClampNeg) 1200) ((f_X11_know fu ((qS9.2.2.1 93) (((S.1 89) x1.toNatClampNeg).toNatClampNeg)) ((qS9.2.1 94) (((S.1 89) x1.toNatClampNeg).toNatClampNeg)) 5 x1 0 qS9.2).bind (fun qS12 => gd (in_b (((S.1 89) x1.toNatClampNeg) + 1) 1200) (gd (in_b (((S.1 89) x1.toNatClampNeg) + 1) 1200) ((f_X11_know fu ((qS12.2.2.1 93) ((((S.1 89) x1.toNatClampNeg) + 1).toNatClampNeg)) ((qS12.2.1 94) ((((S.1 89) x1.toNatClampNeg) + 1).toNatClampNeg)) 4 x1 0 qS12.2).bind (fun qS15 => gd (in_b x1 1200) ((K 2 ((qS15.2.1 84) x1.toNatClampNeg) 1 qS15.2).bind (fun qS18 => some (3, (uI qS18.2 75 52 ((qS18.2.1 75 52) - 2)))))))))))))) else (gd (in_b (((S.1 89) x1.toNatClampNeg) + 1) 1200) ((f_X11_note 3 ((qS5.2.1 94) ((((S.1 89) x1.toNatClampNeg) + 1).toNatClampNeg)) qS5.2).bind (fun qS21 => gd (in_b x1 1200) ((K 2 ((qS21.2.1 83) x1.toNatClampNeg) 1 qS21.2).bind (fun qS24 => gd (in_b ((S.1 89) x1.toNatClampNeg) 1200) (gd (in_b ((S.1 89) x1.toNatClampNeg) 1200) ((f_X11_know fu ((qS24.2.2.1 93) (((S.1 89) x1.toNatClampNeg).toNatClampNeg)) ((qS24.2.1 94) (((S.1 89) x1.toNatClampNeg).toNatClampNeg)) 5 x1 0 qS24.2).bind (fun qS27 => gd (in_b (((S.1 89) x1.toNatClampNeg) + 1) 1200) (gd (in_b (((S.1 89) x1.toNatClampNeg) + 1) 1200) ((f_X11_know fu ((qS27.2.2.1 93) ((((S.1 89) x1.toNatClampNeg) + 1).toNatClampNeg)) ((qS27.2.1 94) ((((S.1 89) x1.toNatClampNeg) + 1).toNatClampNeg)) 4 x1 0 qS27.2).bind (fun qS30 => gd (in_b x1 1200) ((K 2 ((qS30.2.1 84) x1.toNatClampNeg) 1 qS30.2).bind (fun qS33 => some (3, (uI qS33.2 75 52 ((qS33.2.1 75 52) - 2))))))))))))))))))) else (gd (in_b ((S.1 89) x1.toNatClampNeg) 1200) ((f_X11_note 3 ((qS1.2.1 94) (((S.1 89) x1.toNatClampNeg).toNatClampNeg)) qS1.2).bind (fun qS36 => gd (in_b (((S.1 89) x1.toNatClampNeg) + 1) 1200) ((f_X11_typeOf fu ((qS36.2.2.1 93) ((((S.1 89) x1.toNatClampNeg) + 1).toNatClampNeg)) qS36.2).bind (fun qS39 => if (qS39.1 : Int32) = 1 then (gd (in_b x1 1200) ((K 2 ((qS39.2.1 83) x1.toNatClampNeg) 1 qS39.2).bind (fun qS43 => gd (in_b ((S.1 89) x1.toNatClampNeg) 1200) (gd (in_b ((S.1 89) x1.toNatClampNeg) 1200) ((f_X11_know fu ((qS43.2.2.1 93) (((S.1 89) x1.toNatClampNeg).toNatClampNeg)) ((qS43.2.1 94) (((S.1 89) x1.toNatClampNeg).toNatClampNeg)) 5 x1 0 qS43.2).bind (fun qS46 => gd (in_b (((S.1 89) x1.toNatClampNeg) + 1) 1200) (gd (in_b (((S.1 89) x1.toNatClampNeg) + 1) 1200) ((f_X11_know fu ((qS46.2.2.1 93) ((((S.1 89) x1.toNatClampNeg) + 1).toNatClampNeg)) ((qS46.2.1 94) ((((S.1 89) x1.toNatClampNeg) + 1).toNatClampNeg)) 4 x1 0 qS46.2).bind (fun qS49 => gd (in_b x1 1200) ((K 2 ((qS49.2.1 84) x1.toNatClampNeg) 1 qS49.2).bind (fun qS52 => some (3, (uI qS52.2 75 52 ((qS52.2.1 75 52) - 2)))))))))))))) else (gd (in_b (((S.1 89) x1.toNatClampNeg) + 1) 1200) ((f_X11_note 3 ((qS39.2.1 94) ((((S.1 89) x1.toNatClampNeg) + 1).toNatClampNeg)) qS39.2).bind (fun qS55 => gd (in_b x1 1200) ((K 2 ((qS55.2.1 83) x1.toNatClampNeg) 1 qS55.2).bind (fun qS58 => gd (in_b ((S.1 89) x1.toNatClampNeg) 1200) (gd (in_b ((S.1 89) x1.toNatClampNeg) 1200) ((f_X11_know fu ((qS58.2.2.1 93) (((S.1 89) x1.toNatClampNeg).toNatClampNeg)) ((qS58.2.1 94) (((S.1 89) x1.toNatClampNeg).toNatClampNeg)) 5 x1 0 qS58.2).bind (fun qS61 => gd (in_b (((S.1 89) x1.toNatClampNeg) + 1) 1200) (gd (in_b (((S.1 89) x1.toNatClampNeg) + 1) 1200) ((f_X11_know fu ((qS61.2.2.1 93) ((((S.1 89) x1.toNatClampNeg) + 1).toNatClampNeg)) ((qS61.2.1 94) ((((S.1 89) x1.toNatClampNeg) + 1).toNatClampNeg)) 4 x1 0 qS61.2).bind (fun qS64 => gd (in_b x1 1200) ((K 2 ((qS64.2.1 84) x1.toNatClampNeg) 1 qS64.2).bind (fun qS67 => some (3, (uI qS67.2 75 52 ((qS67.2.1 75 52) - 2))))))))))))))))))))))))
set_option maxHeartbeats 4000000 in
set_option maxRecDepth 100000 in
theorem f_X11_lookTable_e (l : Launch) (g : im_G) (ad : Nat → Nat) (K : Nat → Int32 → Int32 → im_S → Option (Int32 × im_S)) {D dk : Nat} (hD1 : dk + 1 ≤ D) (hD2 : 3 ≤ D) (hK : kh_look l g ad K dk) (fu : Nat) (x1 : Int32) (S : im_S) (r : Int32) (S' : im_S) (hm : f_X11_lookTable K fu x1 S = some (r, S')) : im_E l g ad D yX11_lookTable cX11_lookTable 3 (some Jvm.ClassFile.FieldType.int) [.ref (ad 75), .int x1] S (some (.int r)) S' := by
  unfold f_X11_lookTable at hm
  refine is_met (own := RX11) (by decide +kernel) rfl (Nat.le_of_ble_eq_true rfl) (fun p e s m below meth c X => ?_)
  refine iv_aload_n (pc := 0) X dX11_lookTable_0 rfl ?_
  refine gF_X11_50_75 (pc := 1) X dX11_lookTable_1 ?_
  refine iv_iload_n (pc := 4) X dX11_lookTable_4 rfl ?_
  obtain ⟨hg, hm⟩ := gd_some hm
  refine aL_89 (pc := 5) X dX11_lookTable_5 hg (x := (S.1 89) x1.toNatClampNeg) rfl ?_
  refine iv_istore_n (pc := 6) X dX11_lookTable_6 (by decide) (lv' := [(2, .int ((S.1 89) x1.toNatClampNeg)), (0, .ref (ad 75)), (1, .int x1)]) rfl ?_
  refine iv_aload_n (pc := 7) X dX11_lookTable_7 rfl ?_
  refine gF_X11_62_75 (pc := 8) X dX11_lookTable_8 ?_
  refine iv_iload_n (pc := 11) X dX11_lookTable_11 rfl ?_
  obtain ⟨hg, hm⟩ := gd_some hm
  refine aL_93 (pc := 12) X dX11_lookTable_12 hg (x := (S.2.1 93) (((S.1 89) x1.toNatClampNeg).toNatClampNeg)) rfl ?_
  obtain ⟨⟨r2, S1⟩, hc3, hm⟩ := bd_some hm
  refine cS_X11_362 (pc := 13) X [.long ((S.2.1 93) (((S.1 89) x1.toNatClampNeg).toNatClampNeg))] [] 1 rfl (f_X11_typeOf_e l g ad fu ((S.2.1 93) (((S.1 89) x1.toNatClampNeg).toNatClampNeg)) S _ _ hc3) (by show (_ : Nat) ≤ D; omega) (by show (_ : Nat) ≤ 40 * D; omega) (Nat.le_of_ble_eq_true rfl) rfl dX11_lookTable_13 ?_
  refine iv_iconst (pc := 16) X dX11_lookTable_16 ic_3 ?_
  refine iv_icmp_eq (pc := 17) X dX11_lookTable_17 (tgt := 31) rfl (fun hb4 => ?_) (fun hb4 => ?_)
  · rw [if_pos hb4] at hm
    refine iv_aload_n (pc := 31) X dX11_lookTable_31 rfl ?_
    refine gF_X11_62_75 (pc := 32) X dX11_lookTable_32 ?_
    refine iv_iload_n (pc := 35) X dX11_lookTable_35 rfl ?_
    refine iv_iconst (pc := 36) X dX11_lookTable_36 ic_1 ?_
    refine iv_iadd (pc := 37) X dX11_lookTable_37 ?_
    obtain ⟨hg, hm⟩ := gd_some hm
    refine aL_93 (pc := 38) X dX11_lookTable_38 hg (x := (S1.2.1 93) ((((S.1 89) x1.toNatClampNeg) + 1).toNatClampNeg)) rfl ?_
    obtain ⟨⟨r6, S5⟩, hc7, hm⟩ := bd_some hm
    refine cS_X11_362 (pc := 39) X [.long ((S1.2.1 93) ((((S.1 89) x1.toNatClampNeg) + 1).toNatClampNeg))] [] 1 rfl (f_X11_typeOf_e l g ad fu ((S1.2.1 93) ((((S.1 89) x1.toNatClampNeg) + 1).toNatClampNeg)) S1 _ _ hc7) (by show (_ : Nat) ≤ D; omega) (by show (_ : Nat) ≤ 40 * D; omega) (Nat.le_of_ble_eq_true rfl) rfl dX11_lookTable_39 ?_
    refine iv_iconst (pc := 42) X dX11_lookTable_42 ic_1 ?_
    refine iv_icmp_eq (pc := 43) X dX11_lookTable_43 (tgt := 59) rfl (fun hb8 => ?_) (fun hb8 => ?_)
    · rw [if_pos hb8] at hm
      refine iv_aload_n (pc := 59) X dX11_lookTable_59 rfl ?_
      refine iv_aload_n (pc := 60) X dX11_lookTable_60 rfl ?_
      refine gF_X11_32_75 (pc := 61) X dX11_lookTable_61 ?_
      refine iv_iload_n (pc := 64) X dX11_lookTable_64 rfl ?_
      obtain ⟨hg, hm⟩ := gd_some hm
      refine aL_83 (pc := 65) X dX11_lookTable_65 hg (x := (S5.1 83) x1.toNatClampNeg) rfl ?_
      refine iv_iconst (pc := 66) X dX11_lookTable_66 ic_1 ?_
      obtain ⟨⟨r10, S9⟩, hc11, hm⟩ := bd_some hm
      refine cV_X11_353_75 (pc := 67) X [.int ((S5.1 83) x1.toNatClampNeg), .int 1] [] 2 rfl (hK.2.2.1 ((S5.1 83) x1.toNatClampNeg) 1 S5 _ _ hc11) (by show (_ : Nat) ≤ D; omega) (by show (_ : Nat) ≤ 40 * D; omega) (Nat.le_of_ble_eq_true rfl) rfl dX11_lookTable_67 ?_
      refine iv_aload_n (pc := 70) X dX11_lookTable_70 rfl ?_
      refine iv_aload_n (pc := 71) X dX11_lookTable_71 rfl ?_
      refine gF_X11_62_75 (pc := 72) X dX11_lookTable_72 ?_
      refine iv_iload_n (pc := 75) X dX11_lookTable_75 rfl ?_
      obtain ⟨hg, hm⟩ := gd_some hm
      refine aL_93 (pc := 76) X dX11_lookTable_76 hg (x := (S9.2.1 93) (((S.1 89) x1.toNatClampNeg).toNatClampNeg)) rfl ?_
      refine iv_aload_n (pc := 77) X dX11_lookTable_77 rfl ?_
      refine gF_X11_65_75 (pc := 78) X dX11_lookTable_78 ?_
      refine iv_iload_n (pc := 81) X dX11_lookTable_81 rfl ?_
      obtain ⟨hg, hm⟩ := gd_some hm
      refine aL_94 (pc := 82) X dX11_lookTable_82 hg (x := (S9.1 94) (((S.1 89) x1.toNatClampNeg).toNatClampNeg)) rfl ?_
      refine iv_iconst (pc := 83) X dX11_lookTable_83 ic_5 ?_
      refine iv_iload_n (pc := 84) X dX11_lookTable_84 rfl ?_
      refine iv_iconst (pc := 85) X dX11_lookTable_85 ic_0 ?_
      obtain ⟨⟨r13, S12⟩, hc14, hm⟩ := bd_some hm
      refine cV_X11_368_75 (pc := 86) X [.long ((S9.2.1 93) (((S.1 89) x1.toNatClampNeg).toNatClampNeg)), .int ((S9.1 94) (((S.1 89) x1.toNatClampNeg).toNatClampNeg)), .int 5, .int x1, .int 0] [] 5 rfl (f_X11_know_e l g ad fu ((S9.2.1 93) (((S.1 89) x1.toNatClampNeg).toNatClampNeg)) ((S9.1 94) (((S.1 89) x1.toNatClampNeg).toNatClampNeg)) 5 x1 0 S9 _ _ hc14) (by show (_ : Nat) ≤ D; omega) (by show (_ : Nat) ≤ 40 * D; omega) (Nat.le_of_ble_eq_true rfl) rfl dX11_lookTable_86 ?_
      refine iv_aload_n (pc := 89) X dX11_lookTable_89 rfl ?_
      refine iv_aload_n (pc := 90) X dX11_lookTable_90 rfl ?_
      refine gF_X11_62_75 (pc := 91) X dX11_lookTable_91 ?_
      refine iv_iload_n (pc := 94) X dX11_lookTable_94 rfl ?_
      refine iv_iconst (pc := 95) X dX11_lookTable_95 ic_1 ?_
      refine iv_iadd (pc := 96) X dX11_lookTable_96 ?_
      obtain ⟨hg, hm⟩ := gd_some hm
      refine aL_93 (pc := 97) X dX11_lookTable_97 hg (x := (S12.2.1 93) ((((S.1 89) x1.toNatClampNeg) + 1).toNatClampNeg)) rfl ?_
      refine iv_aload_n (pc := 98) X dX11_lookTable_98 rfl ?_
      refine gF_X11_65_75 (pc := 99) X dX11_lookTable_99 ?_
      refine iv_iload_n (pc := 102) X dX11_lookTable_102 rfl ?_
      refine iv_iconst (pc := 103) X dX11_lookTable_103 ic_1 ?_
      refine iv_iadd (pc := 104) X dX11_lookTable_104 ?_
      obtain ⟨hg, hm⟩ := gd_some hm
      refine aL_94 (pc := 105) X dX11_lookTable_105 hg (x := (S12.1 94) ((((S.1 89) x1.toNatClampNeg) + 1).toNatClampNeg)) rfl ?_
      refine iv_iconst (pc := 106) X dX11_lookTable_106 ic_4 ?_
      refine iv_iload_n (pc := 107) X dX11_lookTable_107 rfl ?_
      refine iv_iconst (pc := 108) X dX11_lookTable_108 ic_0 ?_
      obtain ⟨⟨r16, S15⟩, hc17, hm⟩ := bd_some hm
      refine cV_X11_368_75 (pc := 109) X [.long ((S12.2.1 93) ((((S.1 89) x1.toNatClampNeg) + 1).toNatClampNeg)), .int ((S12.1 94) ((((S.1 89) x1.toNatClampNeg) + 1).toNatClampNeg)), .int 4, .int x1, .int 0] [] 5 rfl (f_X11_know_e l g ad fu ((S12.2.1 93) ((((S.1 89) x1.toNatClampNeg) + 1).toNatClampNeg)) ((S12.1 94) ((((S.1 89) x1.toNatClampNeg) + 1).toNatClampNeg)) 4 x1 0 S12 _ _ hc17) (by show (_ : Nat) ≤ D; omega) (by show (_ : Nat) ≤ 40 * D; omega) (Nat.le_of_ble_eq_true rfl) rfl dX11_lookTable_109 ?_
      refine iv_aload_n (pc := 112) X dX11_lookTable_112 rfl ?_
      refine iv_aload_n (pc := 113) X dX11_lookTable_113 rfl ?_
      refine gF_X11_35_75 (pc := 114) X dX11_lookTable_114 ?_
      refine iv_iload_n (pc := 117) X dX11_lookTable_117 rfl ?_
      obtain ⟨hg, hm⟩ := gd_some hm
      refine aL_84 (pc := 118) X dX11_lookTable_118 hg (x := (S15.1 84) x1.toNatClampNeg) rfl ?_
      refine iv_iconst (pc := 119) X dX11_lookTable_119 ic_1 ?_
      obtain ⟨⟨r19, S18⟩, hc20, hm⟩ := bd_some hm
      refine cV_X11_353_75 (pc := 120) X [.int ((S15.1 84) x1.toNatClampNeg), .int 1] [] 2 rfl (hK.2.2.1 ((S15.1 84) x1.toNatClampNeg) 1 S15 _ _ hc20) (by show (_ : Nat) ≤ D; omega) (by show (_ : Nat) ≤ 40 * D; omega) (Nat.le_of_ble_eq_true rfl) rfl dX11_lookTable_120 ?_
      refine iv_aload_n (pc := 123) X dX11_lookTable_123 rfl ?_
      refine iv_dup (pc := 124) X dX11_lookTable_124 rfl ?_
      refine gF_X11_329_75 (pc := 125) X dX11_lookTable_125 (x := S18.1 75 52) rfl ?_
      refine iv_iconst (pc := 128) X dX11_lookTable_128 ic_2 ?_
      refine iv_isub (pc := 129) X dX11_lookTable_129 ?_
      refine pF_X11_329_75 (pc := 130) X dX11_lookTable_130 ?_
      refine iv_iconst (pc := 133) X dX11_lookTable_133 ic_3 ?_
      cases hm
      exact is_iret (pc := 134) X dX11_lookTable_134
    · rw [if_neg hb8] at hm
      refine iv_aload_n (pc := 46) X dX11_lookTable_46 rfl ?_
      refine iv_iconst (pc := 47) X dX11_lookTable_47 ic_3 ?_
      refine iv_aload_n (pc := 48) X dX11_lookTable_48 rfl ?_
      refine gF_X11_65_75 (pc := 49) X dX11_lookTable_49 ?_
      refine iv_iload_n (pc := 52) X dX11_lookTable_52 rfl ?_
      refine iv_iconst (pc := 53) X dX11_lookTable_53 ic_1 ?_
      refine iv_iadd (pc := 54) X dX11_lookTable_54 ?_
      obtain ⟨hg, hm⟩ := gd_some hm
      refine aL_94 (pc := 55) X dX11_lookTable_55 hg (x := (S5.1 94) ((((S.1 89) x1.toNatClampNeg) + 1).toNatClampNeg)) rfl ?_
      obtain ⟨⟨r22, S21⟩, hc23, hm⟩ := bd_some hm
      refine cV_X11_335_75 (pc := 56) X [.int 3, .int ((S5.1 94) ((((S.1 89) x1.toNatClampNeg) + 1).toNatClampNeg))] [] 2 rfl (f_X11_note_e l g ad 3 ((S5.1 94) ((((S.1 89) x1.toNatClampNeg) + 1).toNatClampNeg)) S5 _ _ hc23) (by show (_ : Nat) ≤ D; omega) (by show (_ : Nat) ≤ 40 * D; omega) (Nat.le_of_ble_eq_true rfl) rfl dX11_lookTable_56 ?_
      refine iv_aload_n (pc := 59) X dX11_lookTable_59 rfl ?_
      refine iv_aload_n (pc := 60) X dX11_lookTable_60 rfl ?_
      refine gF_X11_32_75 (pc := 61) X dX11_lookTable_61 ?_
      refine iv_iload_n (pc := 64) X dX11_lookTable_64 rfl ?_
      obtain ⟨hg, hm⟩ := gd_some hm
      refine aL_83 (pc := 65) X dX11_lookTable_65 hg (x := (S21.1 83) x1.toNatClampNeg) rfl ?_
      refine iv_iconst (pc := 66) X dX11_lookTable_66 ic_1 ?_
      obtain ⟨⟨r25, S24⟩, hc26, hm⟩ := bd_some hm
      refine cV_X11_353_75 (pc := 67) X [.int ((S21.1 83) x1.toNatClampNeg), .int 1] [] 2 rfl (hK.2.2.1 ((S21.1 83) x1.toNatClampNeg) 1 S21 _ _ hc26) (by show (_ : Nat) ≤ D; omega) (by show (_ : Nat) ≤ 40 * D; omega) (Nat.le_of_ble_eq_true rfl) rfl dX11_lookTable_67 ?_
      refine iv_aload_n (pc := 70) X dX11_lookTable_70 rfl ?_
      refine iv_aload_n (pc := 71) X dX11_lookTable_71 rfl ?_
      refine gF_X11_62_75 (pc := 72) X dX11_lookTable_72 ?_
      refine iv_iload_n (pc := 75) X dX11_lookTable_75 rfl ?_
      obtain ⟨hg, hm⟩ := gd_some hm
      refine aL_93 (pc := 76) X dX11_lookTable_76 hg (x := (S24.2.1 93) (((S.1 89) x1.toNatClampNeg).toNatClampNeg)) rfl ?_
      refine iv_aload_n (pc := 77) X dX11_lookTable_77 rfl ?_
      refine gF_X11_65_75 (pc := 78) X dX11_lookTable_78 ?_
      refine iv_iload_n (pc := 81) X dX11_lookTable_81 rfl ?_
      obtain ⟨hg, hm⟩ := gd_some hm
      refine aL_94 (pc := 82) X dX11_lookTable_82 hg (x := (S24.1 94) (((S.1 89) x1.toNatClampNeg).toNatClampNeg)) rfl ?_
      refine iv_iconst (pc := 83) X dX11_lookTable_83 ic_5 ?_
      refine iv_iload_n (pc := 84) X dX11_lookTable_84 rfl ?_
      refine iv_iconst (pc := 85) X dX11_lookTable_85 ic_0 ?_
      obtain ⟨⟨r28, S27⟩, hc29, hm⟩ := bd_some hm
      refine cV_X11_368_75 (pc := 86) X [.long ((S24.2.1 93) (((S.1 89) x1.toNatClampNeg).toNatClampNeg)), .int ((S24.1 94) (((S.1 89) x1.toNatClampNeg).toNatClampNeg)), .int 5, .int x1, .int 0] [] 5 rfl (f_X11_know_e l g ad fu ((S24.2.1 93) (((S.1 89) x1.toNatClampNeg).toNatClampNeg)) ((S24.1 94) (((S.1 89) x1.toNatClampNeg).toNatClampNeg)) 5 x1 0 S24 _ _ hc29) (by show (_ : Nat) ≤ D; omega) (by show (_ : Nat) ≤ 40 * D; omega) (Nat.le_of_ble_eq_true rfl) rfl dX11_lookTable_86 ?_
      refine iv_aload_n (pc := 89) X dX11_lookTable_89 rfl ?_
      refine iv_aload_n (pc := 90) X dX11_lookTable_90 rfl ?_
      refine gF_X11_62_75 (pc := 91) X dX11_lookTable_91 ?_
      refine iv_iload_n (pc := 94) X dX11_lookTable_94 rfl ?_
      refine iv_iconst (pc := 95) X dX11_lookTable_95 ic_1 ?_
      refine iv_iadd (pc := 96) X dX11_lookTable_96 ?_
      obtain ⟨hg, hm⟩ := gd_some hm
      refine aL_93 (pc := 97) X dX11_lookTable_97 hg (x := (S27.2.1 93) ((((S.1 89) x1.toNatClampNeg) + 1).toNatClampNeg)) rfl ?_
      refine iv_aload_n (pc := 98) X dX11_lookTable_98 rfl ?_
      refine gF_X11_65_75 (pc := 99) X dX11_lookTable_99 ?_
      refine iv_iload_n (pc := 102) X dX11_lookTable_102 rfl ?_
      refine iv_iconst (pc := 103) X dX11_lookTable_103 ic_1 ?_
      refine iv_iadd (pc := 104) X dX11_lookTable_104 ?_
      obtain ⟨hg, hm⟩ := gd_some hm
      refine aL_94 (pc := 105) X dX11_lookTable_105 hg (x := (S27.1 94) ((((S.1 89) x1.toNatClampNeg) + 1).toNatClampNeg)) rfl ?_
      refine iv_iconst (pc := 106) X dX11_lookTable_106 ic_4 ?_
      refine iv_iload_n (pc := 107) X dX11_lookTable_107 rfl ?_
      refine iv_iconst (pc := 108) X dX11_lookTable_108 ic_0 ?_
      obtain ⟨⟨r31, S30⟩, hc32, hm⟩ := bd_some hm
      refine cV_X11_368_75 (pc := 109) X [.long ((S27.2.1 93) ((((S.1 89) x1.toNatClampNeg) + 1).toNatClampNeg)), .int ((S27.1 94) ((((S.1 89) x1.toNatClampNeg) + 1).toNatClampNeg)), .int 4, .int x1, .int 0] [] 5 rfl (f_X11_know_e l g ad fu ((S27.2.1 93) ((((S.1 89) x1.toNatClampNeg) + 1).toNatClampNeg)) ((S27.1 94) ((((S.1 89) x1.toNatClampNeg) + 1).toNatClampNeg)) 4 x1 0 S27 _ _ hc32) (by show (_ : Nat) ≤ D; omega) (by show (_ : Nat) ≤ 40 * D; omega) (Nat.le_of_ble_eq_true rfl) rfl dX11_lookTable_109 ?_
      refine iv_aload_n (pc := 112) X dX11_lookTable_112 rfl ?_
      refine iv_aload_n (pc := 113) X dX11_lookTable_113 rfl ?_
      refine gF_X11_35_75 (pc := 114) X dX11_lookTable_114 ?_
      refine iv_iload_n (pc := 117) X dX11_lookTable_117 rfl ?_
      obtain ⟨hg, hm⟩ := gd_some hm
      refine aL_84 (pc := 118) X dX11_lookTable_118 hg (x := (S30.1 84) x1.toNatClampNeg) rfl ?_
      refine iv_iconst (pc := 119) X dX11_lookTable_119 ic_1 ?_
      obtain ⟨⟨r34, S33⟩, hc35, hm⟩ := bd_some hm
      refine cV_X11_353_75 (pc := 120) X [.int ((S30.1 84) x1.toNatClampNeg), .int 1] [] 2 rfl (hK.2.2.1 ((S30.1 84) x1.toNatClampNeg) 1 S30 _ _ hc35) (by show (_ : Nat) ≤ D; omega) (by show (_ : Nat) ≤ 40 * D; omega) (Nat.le_of_ble_eq_true rfl) rfl dX11_lookTable_120 ?_
      refine iv_aload_n (pc := 123) X dX11_lookTable_123 rfl ?_
      refine iv_dup (pc := 124) X dX11_lookTable_124 rfl ?_
      refine gF_X11_329_75 (pc := 125) X dX11_lookTable_125 (x := S33.1 75 52) rfl ?_
      refine iv_iconst (pc := 128) X dX11_lookTable_128 ic_2 ?_
      refine iv_isub (pc := 129) X dX11_lookTable_129 ?_
      refine pF_X11_329_75 (pc := 130) X dX11_lookTable_130 ?_
      refine iv_iconst (pc := 133) X dX11_lookTable_133 ic_3 ?_
      cases hm
      exact is_iret (pc := 134) X dX11_lookTable_134
  · rw [if_neg hb4] at hm
    refine iv_aload_n (pc := 20) X dX11_lookTable_20 rfl ?_
    refine iv_iconst (pc := 21) X dX11_lookTable_21 ic_3 ?_
    refine iv_aload_n (pc := 22) X dX11_lookTable_22 rfl ?_
    refine gF_X11_65_75 (pc := 23) X dX11_lookTable_23 ?_
    refine iv_iload_n (pc := 26) X dX11_lookTable_26 rfl ?_
    obtain ⟨hg, hm⟩ := gd_some hm
    refine aL_94 (pc := 27) X dX11_lookTable_27 hg (x := (S1.1 94) (((S.1 89) x1.toNatClampNeg).toNatClampNeg)) rfl ?_
    obtain ⟨⟨r37, S36⟩, hc38, hm⟩ := bd_some hm
    refine cV_X11_335_75 (pc := 28) X [.int 3, .int ((S1.1 94) (((S.1 89) x1.toNatClampNeg).toNatClampNeg))] [] 2 rfl (f_X11_note_e l g ad 3 ((S1.1 94) (((S.1 89) x1.toNatClampNeg).toNatClampNeg)) S1 _ _ hc38) (by show (_ : Nat) ≤ D; omega) (by show (_ : Nat) ≤ 40 * D; omega) (Nat.le_of_ble_eq_true rfl) rfl dX11_lookTable_28 ?_
    refine iv_aload_n (pc := 31) X dX11_lookTable_31 rfl ?_
    refine gF_X11_62_75 (pc := 32) X dX11_lookTable_32 ?_
    refine iv_iload_n (pc := 35) X dX11_lookTable_35 rfl ?_
    refine iv_iconst (pc := 36) X dX11_lookTable_36 ic_1 ?_
    refine iv_iadd (pc := 37) X dX11_lookTable_37 ?_
    obtain ⟨hg, hm⟩ := gd_some hm
    refine aL_93 (pc := 38) X dX11_lookTable_38 hg (x := (S36.2.1 93) ((((S.1 89) x1.toNatClampNeg) + 1).toNatClampNeg)) rfl ?_
    obtain ⟨⟨r40, S39⟩, hc41, hm⟩ := bd_some hm
    refine cS_X11_362 (pc := 39) X [.long ((S36.2.1 93) ((((S.1 89) x1.toNatClampNeg) + 1).toNatClampNeg))] [] 1 rfl (f_X11_typeOf_e l g ad fu ((S36.2.1 93) ((((S.1 89) x1.toNatClampNeg) + 1).toNatClampNeg)) S36 _ _ hc41) (by show (_ : Nat) ≤ D; omega) (by show (_ : Nat) ≤ 40 * D; omega) (Nat.le_of_ble_eq_true rfl) rfl dX11_lookTable_39 ?_
    refine iv_iconst (pc := 42) X dX11_lookTable_42 ic_1 ?_
    refine iv_icmp_eq (pc := 43) X dX11_lookTable_43 (tgt := 59) rfl (fun hb42 => ?_) (fun hb42 => ?_)
    · rw [if_pos hb42] at hm
      refine iv_aload_n (pc := 59) X dX11_lookTable_59 rfl ?_
      refine iv_aload_n (pc := 60) X dX11_lookTable_60 rfl ?_
      refine gF_X11_32_75 (pc := 61) X dX11_lookTable_61 ?_
      refine iv_iload_n (pc := 64) X dX11_lookTable_64 rfl ?_
      obtain ⟨hg, hm⟩ := gd_some hm
      refine aL_83 (pc := 65) X dX11_lookTable_65 hg (x := (S39.1 83) x1.toNatClampNeg) rfl ?_
      refine iv_iconst (pc := 66) X dX11_lookTable_66 ic_1 ?_
      obtain ⟨⟨r44, S43⟩, hc45, hm⟩ := bd_some hm
      refine cV_X11_353_75 (pc := 67) X [.int ((S39.1 83) x1.toNatClampNeg), .int 1] [] 2 rfl (hK.2.2.1 ((S39.1 83) x1.toNatClampNeg) 1 S39 _ _ hc45) (by show (_ : Nat) ≤ D; omega) (by show (_ : Nat) ≤ 40 * D; omega) (Nat.le_of_ble_eq_true rfl) rfl dX11_lookTable_67 ?_
      refine iv_aload_n (pc := 70) X dX11_lookTable_70 rfl ?_
      refine iv_aload_n (pc := 71) X dX11_lookTable_71 rfl ?_
      refine gF_X11_62_75 (pc := 72) X dX11_lookTable_72 ?_
      refine iv_iload_n (pc := 75) X dX11_lookTable_75 rfl ?_
      obtain ⟨hg, hm⟩ := gd_some hm
      refine aL_93 (pc := 76) X dX11_lookTable_76 hg (x := (S43.2.1 93) (((S.1 89) x1.toNatClampNeg).toNatClampNeg)) rfl ?_
      refine iv_aload_n (pc := 77) X dX11_lookTable_77 rfl ?_
      refine gF_X11_65_75 (pc := 78) X dX11_lookTable_78 ?_
      refine iv_iload_n (pc := 81) X dX11_lookTable_81 rfl ?_
      obtain ⟨hg, hm⟩ := gd_some hm
      refine aL_94 (pc := 82) X dX11_lookTable_82 hg (x := (S43.1 94) (((S.1 89) x1.toNatClampNeg).toNatClampNeg)) rfl ?_
      refine iv_iconst (pc := 83) X dX11_lookTable_83 ic_5 ?_
      refine iv_iload_n (pc := 84) X dX11_lookTable_84 rfl ?_
      refine iv_iconst (pc := 85) X dX11_lookTable_85 ic_0 ?_
      obtain ⟨⟨r47, S46⟩, hc48, hm⟩ := bd_some hm
      refine cV_X11_368_75 (pc := 86) X [.long ((S43.2.1 93) (((S.1 89) x1.toNatClampNeg).toNatClampNeg)), .int ((S43.1 94) (((S.1 89) x1.toNatClampNeg).toNatClampNeg)), .int 5, .int x1, .int 0] [] 5 rfl (f_X11_know_e l g ad fu ((S43.2.1 93) (((S.1 89) x1.toNatClampNeg).toNatClampNeg)) ((S43.1 94) (((S.1 89) x1.toNatClampNeg).toNatClampNeg)) 5 x1 0 S43 _ _ hc48) (by show (_ : Nat) ≤ D; omega) (by show (_ : Nat) ≤ 40 * D; omega) (Nat.le_of_ble_eq_true rfl) rfl dX11_lookTable_86 ?_
      refine iv_aload_n (pc := 89) X dX11_lookTable_89 rfl ?_
      refine iv_aload_n (pc := 90) X dX11_lookTable_90 rfl ?_
      refine gF_X11_62_75 (pc := 91) X dX11_lookTable_91 ?_
      refine iv_iload_n (pc := 94) X dX11_lookTable_94 rfl ?_
      refine iv_iconst (pc := 95) X dX11_lookTable_95 ic_1 ?_
      refine iv_iadd (pc := 96) X dX11_lookTable_96 ?_
      obtain ⟨hg, hm⟩ := gd_some hm
      refine aL_93 (pc := 97) X dX11_lookTable_97 hg (x := (S46.2.1 93) ((((S.1 89) x1.toNatClampNeg) + 1).toNatClampNeg)) rfl ?_
      refine iv_aload_n (pc := 98) X dX11_lookTable_98 rfl ?_
      refine gF_X11_65_75 (pc := 99) X dX11_lookTable_99 ?_
      refine iv_iload_n (pc := 102) X dX11_lookTable_102 rfl ?_
      refine iv_iconst (pc := 103) X dX11_lookTable_103 ic_1 ?_
      refine iv_iadd (pc := 104) X dX11_lookTable_104 ?_
      obtain ⟨hg, hm⟩ := gd_some hm
      refine aL_94 (pc := 105) X dX11_lookTable_105 hg (x := (S46.1 94) ((((S.1 89) x1.toNatClampNeg) + 1).toNatClampNeg)) rfl ?_
      refine iv_iconst (pc := 106) X dX11_lookTable_106 ic_4 ?_
      refine iv_iload_n (pc := 107) X dX11_lookTable_107 rfl ?_
      refine iv_iconst (pc := 108) X dX11_lookTable_108 ic_0 ?_
      obtain ⟨⟨r50, S49⟩, hc51, hm⟩ := bd_some hm
      refine cV_X11_368_75 (pc := 109) X [.long ((S46.2.1 93) ((((S.1 89) x1.toNatClampNeg) + 1).toNatClampNeg)), .int ((S46.1 94) ((((S.1 89) x1.toNatClampNeg) + 1).toNatClampNeg)), .int 4, .int x1, .int 0] [] 5 rfl (f_X11_know_e l g ad fu ((S46.2.1 93) ((((S.1 89) x1.toNatClampNeg) + 1).toNatClampNeg)) ((S46.1 94) ((((S.1 89) x1.toNatClampNeg) + 1).toNatClampNeg)) 4 x1 0 S46 _ _ hc51) (by show (_ : Nat) ≤ D; omega) (by show (_ : Nat) ≤ 40 * D; omega) (Nat.le_of_ble_eq_true rfl) rfl dX11_lookTable_109 ?_
      refine iv_aload_n (pc := 112) X dX11_lookTable_112 rfl ?_
      refine iv_aload_n (pc := 113) X dX11_lookTable_113 rfl ?_
      refine gF_X11_35_75 (pc := 114) X dX11_lookTable_114 ?_
      refine iv_iload_n (pc := 117) X dX11_lookTable_117 rfl ?_
      obtain ⟨hg, hm⟩ := gd_some hm
      refine aL_84 (pc := 118) X dX11_lookTable_118 hg (x := (S49.1 84) x1.toNatClampNeg) rfl ?_
      refine iv_iconst (pc := 119) X dX11_lookTable_119 ic_1 ?_
      obtain ⟨⟨r53, S52⟩, hc54, hm⟩ := bd_some hm
      refine cV_X11_353_75 (pc := 120) X [.int ((S49.1 84) x1.toNatClampNeg), .int 1] [] 2 rfl (hK.2.2.1 ((S49.1 84) x1.toNatClampNeg) 1 S49 _ _ hc54) (by show (_ : Nat) ≤ D; omega) (by show (_ : Nat) ≤ 40 * D; omega) (Nat.le_of_ble_eq_true rfl) rfl dX11_lookTable_120 ?_
      refine iv_aload_n (pc := 123) X dX11_lookTable_123 rfl ?_
      refine iv_dup (pc := 124) X dX11_lookTable_124 rfl ?_
      refine gF_X11_329_75 (pc := 125) X dX11_lookTable_125 (x := S52.1 75 52) rfl ?_
      refine iv_iconst (pc := 128) X dX11_lookTable_128 ic_2 ?_
      refine iv_isub (pc := 129) X dX11_lookTable_129 ?_
      refine pF_X11_329_75 (pc := 130) X dX11_lookTable_130 ?_
      refine iv_iconst (pc := 133) X dX11_lookTable_133 ic_3 ?_
      cases hm
      exact is_iret (pc := 134) X dX11_lookTable_134
    · rw [if_neg hb42] at hm
      refine iv_aload_n (pc := 46) X dX11_lookTable_46 rfl ?_
      refine iv_iconst (pc := 47) X dX11_lookTable_47 ic_3 ?_
      refine iv_aload_n (pc := 48) X dX11_lookTable_48 rfl ?_
      refine gF_X11_65_75 (pc := 49) X dX11_lookTable_49 ?_
      refine iv_iload_n (pc := 52) X dX11_lookTable_52 rfl ?_
      refine iv_iconst (pc := 53) X dX11_lookTable_53 ic_1 ?_
      refine iv_iadd (pc := 54) X dX11_lookTable_54 ?_
      obtain ⟨hg, hm⟩ := gd_some hm
      refine aL_94 (pc := 55) X dX11_lookTable_55 hg (x := (S39.1 94) ((((S.1 89) x1.toNatClampNeg) + 1).toNatClampNeg)) rfl ?_
      obtain ⟨⟨r56, S55⟩, hc57, hm⟩ := bd_some hm
      refine cV_X11_335_75 (pc := 56) X [.int 3, .int ((S39.1 94) ((((S.1 89) x1.toNatClampNeg) + 1).toNatClampNeg))] [] 2 rfl (f_X11_note_e l g ad 3 ((S39.1 94) ((((S.1 89) x1.toNatClampNeg) + 1).toNatClampNeg)) S39 _ _ hc57) (by show (_ : Nat) ≤ D; omega) (by show (_ : Nat) ≤ 40 * D; omega) (Nat.le_of_ble_eq_true rfl) rfl dX11_lookTable_56 ?_
      refine iv_aload_n (pc := 59) X dX11_lookTable_59 rfl ?_
      refine iv_aload_n (pc := 60) X dX11_lookTable_60 rfl ?_
      refine gF_X11_32_75 (pc := 61) X dX11_lookTable_61 ?_
      refine iv_iload_n (pc := 64) X dX11_lookTable_64 rfl ?_
      obtain ⟨hg, hm⟩ := gd_some hm
      refine aL_83 (pc := 65) X dX11_lookTable_65 hg (x := (S55.1 83) x1.toNatClampNeg) rfl ?_
      refine iv_iconst (pc := 66) X dX11_lookTable_66 ic_1 ?_
      obtain ⟨⟨r59, S58⟩, hc60, hm⟩ := bd_some hm
      refine cV_X11_353_75 (pc := 67) X [.int ((S55.1 83) x1.toNatClampNeg), .int 1] [] 2 rfl (hK.2.2.1 ((S55.1 83) x1.toNatClampNeg) 1 S55 _ _ hc60) (by show (_ : Nat) ≤ D; omega) (by show (_ : Nat) ≤ 40 * D; omega) (Nat.le_of_ble_eq_true rfl) rfl dX11_lookTable_67 ?_
      refine iv_aload_n (pc := 70) X dX11_lookTable_70 rfl ?_
      refine iv_aload_n (pc := 71) X dX11_lookTable_71 rfl ?_
      refine gF_X11_62_75 (pc := 72) X dX11_lookTable_72 ?_
      refine iv_iload_n (pc := 75) X dX11_lookTable_75 rfl ?_
      obtain ⟨hg, hm⟩ := gd_some hm
      refine aL_93 (pc := 76) X dX11_lookTable_76 hg (x := (S58.2.1 93) (((S.1 89) x1.toNatClampNeg).toNatClampNeg)) rfl ?_
      refine iv_aload_n (pc := 77) X dX11_lookTable_77 rfl ?_
      refine gF_X11_65_75 (pc := 78) X dX11_lookTable_78 ?_
      refine iv_iload_n (pc := 81) X dX11_lookTable_81 rfl ?_
      obtain ⟨hg, hm⟩ := gd_some hm
      refine aL_94 (pc := 82) X dX11_lookTable_82 hg (x := (S58.1 94) (((S.1 89) x1.toNatClampNeg).toNatClampNeg)) rfl ?_
      refine iv_iconst (pc := 83) X dX11_lookTable_83 ic_5 ?_
      refine iv_iload_n (pc := 84) X dX11_lookTable_84 rfl ?_
      refine iv_iconst (pc := 85) X dX11_lookTable_85 ic_0 ?_
      obtain ⟨⟨r62, S61⟩, hc63, hm⟩ := bd_some hm
      refine cV_X11_368_75 (pc := 86) X [.long ((S58.2.1 93) (((S.1 89) x1.toNatClampNeg).toNatClampNeg)), .int ((S58.1 94) (((S.1 89) x1.toNatClampNeg).toNatClampNeg)), .int 5, .int x1, .int 0] [] 5 rfl (f_X11_know_e l g ad fu ((S58.2.1 93) (((S.1 89) x1.toNatClampNeg).toNatClampNeg)) ((S58.1 94) (((S.1 89) x1.toNatClampNeg).toNatClampNeg)) 5 x1 0 S58 _ _ hc63) (by show (_ : Nat) ≤ D; omega) (by show (_ : Nat) ≤ 40 * D; omega) (Nat.le_of_ble_eq_true rfl) rfl dX11_lookTable_86 ?_
      refine iv_aload_n (pc := 89) X dX11_lookTable_89 rfl ?_
      refine iv_aload_n (pc := 90) X dX11_lookTable_90 rfl ?_
      refine gF_X11_62_75 (pc := 91) X dX11_lookTable_91 ?_
      refine iv_iload_n (pc := 94) X dX11_lookTable_94 rfl ?_
      refine iv_iconst (pc := 95) X dX11_lookTable_95 ic_1 ?_
      refine iv_iadd (pc := 96) X dX11_lookTable_96 ?_
      obtain ⟨hg, hm⟩ := gd_some hm
      refine aL_93 (pc := 97) X dX11_lookTable_97 hg (x := (S61.2.1 93) ((((S.1 89) x1.toNatClampNeg) + 1).toNatClampNeg)) rfl ?_
      refine iv_aload_n (pc := 98) X dX11_lookTable_98 rfl ?_
      refine gF_X11_65_75 (pc := 99) X dX11_lookTable_99 ?_
      refine iv_iload_n (pc := 102) X dX11_lookTable_102 rfl ?_
      refine iv_iconst (pc := 103) X dX11_lookTable_103 ic_1 ?_
      refine iv_iadd (pc := 104) X dX11_lookTable_104 ?_
      obtain ⟨hg, hm⟩ := gd_some hm
      refine aL_94 (pc := 105) X dX11_lookTable_105 hg (x := (S61.1 94) ((((S.1 89) x1.toNatClampNeg) + 1).toNatClampNeg)) rfl ?_
      refine iv_iconst (pc := 106) X dX11_lookTable_106 ic_4 ?_
      refine iv_iload_n (pc := 107) X dX11_lookTable_107 rfl ?_
      refine iv_iconst (pc := 108) X dX11_lookTable_108 ic_0 ?_
      obtain ⟨⟨r65, S64⟩, hc66, hm⟩ := bd_some hm
      refine cV_X11_368_75 (pc := 109) X [.long ((S61.2.1 93) ((((S.1 89) x1.toNatClampNeg) + 1).toNatClampNeg)), .int ((S61.1 94) ((((S.1 89) x1.toNatClampNeg) + 1).toNatClampNeg)), .int 4, .int x1, .int 0] [] 5 rfl (f_X11_know_e l g ad fu ((S61.2.1 93) ((((S.1 89) x1.toNatClampNeg) + 1).toNatClampNeg)) ((S61.1 94) ((((S.1 89) x1.toNatClampNeg) + 1).toNatClampNeg)) 4 x1 0 S61 _ _ hc66) (by show (_ : Nat) ≤ D; omega) (by show (_ : Nat) ≤ 40 * D; omega) (Nat.le_of_ble_eq_true rfl) rfl dX11_lookTable_109 ?_
      refine iv_aload_n (pc := 112) X dX11_lookTable_112 rfl ?_
      refine iv_aload_n (pc := 113) X dX11_lookTable_113 rfl ?_
      refine gF_X11_35_75 (pc := 114) X dX11_lookTable_114 ?_
      refine iv_iload_n (pc := 117) X dX11_lookTable_117 rfl ?_
      obtain ⟨hg, hm⟩ := gd_some hm
      refine aL_84 (pc := 118) X dX11_lookTable_118 hg (x := (S64.1 84) x1.toNatClampNeg) rfl ?_
      refine iv_iconst (pc := 119) X dX11_lookTable_119 ic_1 ?_
      obtain ⟨⟨r68, S67⟩, hc69, hm⟩ := bd_some hm
      refine cV_X11_353_75 (pc := 120) X [.int ((S64.1 84) x1.toNatClampNeg), .int 1] [] 2 rfl (hK.2.2.1 ((S64.1 84) x1.toNatClampNeg) 1 S64 _ _ hc69) (by show (_ : Nat) ≤ D; omega) (by show (_ : Nat) ≤ 40 * D; omega) (Nat.le_of_ble_eq_true rfl) rfl dX11_lookTable_120 ?_
      refine iv_aload_n (pc := 123) X dX11_lookTable_123 rfl ?_
      refine iv_dup (pc := 124) X dX11_lookTable_124 rfl ?_
      refine gF_X11_329_75 (pc := 125) X dX11_lookTable_125 (x := S67.1 75 52) rfl ?_
      refine iv_iconst (pc := 128) X dX11_lookTable_128 ic_2 ?_
      refine iv_isub (pc := 129) X dX11_lookTable_129 ?_
      refine pF_X11_329_75 (pc := 130) X dX11_lookTable_130 ?_
      refine iv_iconst (pc := 133) X dX11_lookTable_133 ic_3 ?_
      cases hm
      exact is_iret (pc := 134) X dX11_lookTable_134
def rc_look (fu : Nat) : Nat → Nat → Int32 → Int32 → im_S → Option (Int32 × im_S)
  | 0, _, _, _, _ => none
  | d + 1, lab, a, b, S => if lab = 0 then f_X11_look (rc_look fu d) fu a S else (if lab = 1 then f_X11_typed (rc_look fu d) fu a S else (if lab = 2 then (f_X11_wants (rc_look fu d) fu a b S).bind (fun q => some (0, q.2)) else (if lab = 3 then f_X11_lookCall (rc_look fu d) fu a S else (if lab = 4 then f_X11_lookLet (rc_look fu d) fu a S else (if lab = 5 then f_X11_lookLoop (rc_look fu d) fu a S else (if lab = 6 then f_X11_lookTable (rc_look fu d) fu a S else none))))))
theorem rc_look_h (l : Launch) (g : im_G) (ad : Nat → Nat) (fu : Nat) : ∀ d : Nat, kh_look l g ad (rc_look fu d) (d + 3) := by
  intro d
  induction d with
  | zero => exact ⟨(fun _ _ _ _ _ h => by cases h), (fun _ _ _ _ _ h => by cases h), (fun _ _ _ _ _ h => by cases h), (fun _ _ _ _ _ h => by cases h), (fun _ _ _ _ _ h => by cases h), (fun _ _ _ _ _ h => by cases h), (fun _ _ _ _ _ h => by cases h)⟩
  | succ d ih =>
    refine ⟨(fun a b S r S' hm => ?_), (fun a b S r S' hm => ?_), (fun a b S r S' hm => ?_), (fun a b S r S' hm => ?_), (fun a b S r S' hm => ?_), (fun a b S r S' hm => ?_), (fun a b S r S' hm => ?_)⟩
    · exact f_X11_look_e l g ad (rc_look fu d) (dk := d + 3) (by omega) (by omega) ih fu a S r S' hm
    · exact f_X11_typed_e l g ad (rc_look fu d) (dk := d + 3) (by omega) (by omega) ih fu a S r S' hm
    · obtain ⟨⟨u, S1⟩, h1, h2⟩ := bd_some (x := f_X11_wants (rc_look fu d) fu a b S) hm
      cases h2
      exact f_X11_wants_e l g ad (rc_look fu d) (dk := d + 3) (by omega) (by omega) ih fu a b S u _ h1
    · exact f_X11_lookCall_e l g ad (rc_look fu d) (dk := d + 3) (by omega) (by omega) ih fu a S r S' hm
    · exact f_X11_lookLet_e l g ad (rc_look fu d) (dk := d + 3) (by omega) (by omega) ih fu a S r S' hm
    · exact f_X11_lookLoop_e l g ad (rc_look fu d) (dk := d + 3) (by omega) (by omega) ih fu a S r S' hm
    · exact f_X11_lookTable_e l g ad (rc_look fu d) (dk := d + 3) (by omega) (by omega) ih fu a S r S' hm
def g_X11_look (fu : Nat) (a : Int32) (S : im_S) : Option (Int32 × im_S) := rc_look fu 1900 0 a 0 S
theorem g_X11_look_e (l : Launch) (g : im_G) (ad : Nat → Nat) (fu : Nat) (a : Int32) (S : im_S) (r : Int32) (S' : im_S) (hm : g_X11_look fu a S = some (r, S')) : im_E l g ad 1903 yX11_look cX11_look 2 (some Jvm.ClassFile.FieldType.int) [.ref (ad 75), .int a] S (some (.int r)) S' := (rc_look_h l g ad fu 1900).1 a 0 S r S' hm
def g_X11_typed (fu : Nat) (a : Int32) (S : im_S) : Option (Int32 × im_S) := rc_look fu 1900 1 a 0 S
theorem g_X11_typed_e (l : Launch) (g : im_G) (ad : Nat → Nat) (fu : Nat) (a : Int32) (S : im_S) (r : Int32) (S' : im_S) (hm : g_X11_typed fu a S = some (r, S')) : im_E l g ad 1903 yX11_typed cX11_typed 5 (some Jvm.ClassFile.FieldType.int) [.ref (ad 75), .int a] S (some (.int r)) S' := (rc_look_h l g ad fu 1900).2.1 a 0 S r S' hm
def g_X11_wants (fu : Nat) (a : Int32) (b : Int32) (S : im_S) : Option (Int32 × im_S) := rc_look fu 1900 2 a b S
theorem g_X11_wants_e (l : Launch) (g : im_G) (ad : Nat → Nat) (fu : Nat) (a : Int32) (b : Int32) (S : im_S) (r : Int32) (S' : im_S) (hm : g_X11_wants fu a b S = some (r, S')) : im_E l g ad 1903 yX11_wants cX11_wants 3 none [.ref (ad 75), .int a, .int b] S none S' := (rc_look_h l g ad fu 1900).2.2.1 a b S r S' hm
def g_X11_lookCall (fu : Nat) (a : Int32) (S : im_S) : Option (Int32 × im_S) := rc_look fu 1900 3 a 0 S
theorem g_X11_lookCall_e (l : Launch) (g : im_G) (ad : Nat → Nat) (fu : Nat) (a : Int32) (S : im_S) (r : Int32) (S' : im_S) (hm : g_X11_lookCall fu a S = some (r, S')) : im_E l g ad 1903 yX11_lookCall cX11_lookCall 5 (some Jvm.ClassFile.FieldType.int) [.ref (ad 75), .int a] S (some (.int r)) S' := (rc_look_h l g ad fu 1900).2.2.2.1 a 0 S r S' hm
def g_X11_lookLet (fu : Nat) (a : Int32) (S : im_S) : Option (Int32 × im_S) := rc_look fu 1900 4 a 0 S
theorem g_X11_lookLet_e (l : Launch) (g : im_G) (ad : Nat → Nat) (fu : Nat) (a : Int32) (S : im_S) (r : Int32) (S' : im_S) (hm : g_X11_lookLet fu a S = some (r, S')) : im_E l g ad 1903 yX11_lookLet cX11_lookLet 3 (some Jvm.ClassFile.FieldType.int) [.ref (ad 75), .int a] S (some (.int r)) S' := (rc_look_h l g ad fu 1900).2.2.2.2.1 a 0 S r S' hm
def g_X11_lookLoop (fu : Nat) (a : Int32) (S : im_S) : Option (Int32 × im_S) := rc_look fu 1900 5 a 0 S
theorem g_X11_lookLoop_e (l : Launch) (g : im_G) (ad : Nat → Nat) (fu : Nat) (a : Int32) (S : im_S) (r : Int32) (S' : im_S) (hm : g_X11_lookLoop fu a S = some (r, S')) : im_E l g ad 1903 yX11_lookLoop cX11_lookLoop 7 (some Jvm.ClassFile.FieldType.int) [.ref (ad 75), .int a] S (some (.int r)) S' := (rc_look_h l g ad fu 1900).2.2.2.2.2.1 a 0 S r S' hm
def g_X11_lookTable (fu : Nat) (a : Int32) (S : im_S) : Option (Int32 × im_S) := rc_look fu 1900 6 a 0 S
theorem g_X11_lookTable_e (l : Launch) (g : im_G) (ad : Nat → Nat) (fu : Nat) (a : Int32) (S : im_S) (r : Int32) (S' : im_S) (hm : g_X11_lookTable fu a S = some (r, S')) : im_E l g ad 1903 yX11_lookTable cX11_lookTable 3 (some Jvm.ClassFile.FieldType.int) [.ref (ad 75), .int a] S (some (.int r)) S' := (rc_look_h l g ad fu 1900).2.2.2.2.2.2 a 0 S r S' hm
