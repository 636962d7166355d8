/-! String.indexOf over the constant, the rest (written by wip/whole/mk58.py) -/
set_option maxHeartbeats 4000000 in
set_option maxRecDepth 100000 in
theorem sg_indexOfChar (l : Launch) (g : im_G) (ad : Nat → Nat) {q w : Nat} (hZu : ∀ V, g.2.2.2 V → im_Zu q w g V) (x r : Int32) (S : im_S) (h : sg_L 17 x.toInt8.toInt32 0 = some r) : im_E l g ad 0 yJ1_indexOfChar_4cfef cJ1_indexOfChar_4cfef 6 (some Jvm.ClassFile.FieldType.int) [.ref w, .int x, .int 0, .int 16] S (some (.int r)) S := by
  refine is_met (own := RJ1) (by decide +kernel) rfl (Nat.le_of_ble_eq_true rfl) (fun p e s m below meth c X => ?_)
  have hU := hZu s (X.2.2.2.2.2.2.2.2.1 s (State.WarmedH.refl s))
  refine iv_iload_n (pc := 0) X dJ1_indexOfChar_4cfef_0 rfl ?_
  refine iv_i2b (pc := 1) X dJ1_indexOfChar_4cfef_1 rfl ?_
  refine iv_istore (pc := 2) X dJ1_indexOfChar_4cfef_2 (by decide) (lv' := [(4, .int x.toInt8.toInt32), (0, .ref w), (1, .int x), (2, .int 0), (3, .int 16)]) rfl ?_
  refine iv_iload_n (pc := 4) X dJ1_indexOfChar_4cfef_4 rfl ?_
  refine iv_istore (pc := 5) X dJ1_indexOfChar_4cfef_5 (by decide) (lv' := [(5, .int 0), (4, .int x.toInt8.toInt32), (0, .ref w), (1, .int x), (2, .int 0), (3, .int 16)]) rfl ?_
  refine iv_sub [2, 5, 1, 0] (lv2 := [(0, .ref w), (3, .int 16), (4, .int x.toInt8.toInt32), (5, .int 0)]) rfl ?_
  exact sg_Lw l g ad X hU.2.2.2.2.1 x S 17 _ 0 r h
def sg_ix (x : Int32) : Option Int32 := if x < 0 then some (-1) else if (255 : Int32) < x then some (-1) else sg_L 17 x.toInt8.toInt32 0
set_option maxHeartbeats 4000000 in
set_option maxRecDepth 100000 in
theorem sg_indexOf1 (l : Launch) (g : im_G) (ad : Nat → Nat) {q w : Nat} (hZu : ∀ V, g.2.2.2 V → im_Zu q w g V) (x r : Int32) (S : im_S) (h : sg_ix x = some r) : im_E l g ad 1 yJ1_indexOf_4cfef cJ1_indexOf_4cfef 4 (some Jvm.ClassFile.FieldType.int) [.ref w, .int x, .int 0, .int 16] S (some (.int r)) S := by
  unfold sg_ix at h
  refine is_met (own := RJ1) (by decide +kernel) rfl (Nat.le_of_ble_eq_true rfl) (fun p e s m below meth c X => ?_)
  have hU := hZu s (X.2.2.2.2.2.2.2.2.1 s (State.WarmedH.refl s))
  refine iv_iload_n (pc := 0) X dJ1_indexOf_4cfef_0 rfl ?_
  refine is_callS (pc := 1) X [.int x] [] 1 rfl (sg_canEncode l g ad x S) wm_J1_88 ws_yJ1_canEncode_9a6ad wn_J1 wc_yJ1_canEncode_9a6ad (by decide) (by decide) (by decide) (Nat.le_of_ble_eq_true rfl) rfl dJ1_indexOf_4cfef_1 ?_
  refine iv_if_ne (pc := 4) X dJ1_indexOf_4cfef_4 (tgt := 9) rfl (fun hb => ?_) (fun hb => ?_)
  · have h1 : ¬ x < 0 := fun z => hb (if_pos z)
    have h2 : ¬ (255 : Int32) < x := fun z => hb (by rw [if_neg h1, if_pos z])
    rw [if_neg h1, if_neg h2] at h
    refine iv_iload_n (pc := 9) X dJ1_indexOf_4cfef_9 rfl ?_
    refine iv_iconst (pc := 10) X dJ1_indexOf_4cfef_10 ic_0 ?_
    refine iv_mmax (pc := 11) X wm_J1_92 (by decide) (Nat.le_of_ble_eq_true rfl) dJ1_indexOf_4cfef_11 ?_
    refine iv_istore_n (pc := 14) X dJ1_indexOf_4cfef_14 (by decide) (lv' := [(2, .int 0), (0, .ref w), (1, .int x), (3, .int 16)]) rfl ?_
    refine iv_iload_n (pc := 15) X dJ1_indexOf_4cfef_15 rfl ?_
    refine iv_aload_n (pc := 16) X dJ1_indexOf_4cfef_16 rfl ?_
    refine iv_sglen (pc := 17) X hU.2.2.2.2.1 (v := 16) rfl dJ1_indexOf_4cfef_17 ?_
    refine iv_mmin (pc := 18) X wm_J1_38 (by decide) (Nat.le_of_ble_eq_true rfl) dJ1_indexOf_4cfef_18 ?_
    refine iv_istore_n (pc := 21) X dJ1_indexOf_4cfef_21 (by decide) (lv' := [(3, .int 16), (2, .int 0), (0, .ref w), (1, .int x)]) rfl ?_
    refine iv_iload_n (pc := 22) X dJ1_indexOf_4cfef_22 rfl ?_
    refine iv_iload_n (pc := 23) X dJ1_indexOf_4cfef_23 rfl ?_
    refine iv_icmp_lt (pc := 24) X dJ1_indexOf_4cfef_24 (tgt := 29) rfl (fun hb2 => ?_) (fun hb2 => absurd (show (0 : Int32) < 16 by decide) hb2)
    refine iv_aload_n (pc := 29) X dJ1_indexOf_4cfef_29 rfl ?_
    refine iv_iload_n (pc := 30) X dJ1_indexOf_4cfef_30 rfl ?_
    refine iv_iload_n (pc := 31) X dJ1_indexOf_4cfef_31 rfl ?_
    refine iv_iload_n (pc := 32) X dJ1_indexOf_4cfef_32 rfl ?_
    refine is_callS (pc := 33) X [.ref w, .int x, .int 0, .int 16] [] 4 rfl (sg_indexOfChar l g ad hZu x r S h) wm_J1_95 ws_yJ1_indexOfChar_4cfef wn_J1 wc_yJ1_indexOfChar_4cfef (by decide) (by decide) (by decide) (Nat.le_of_ble_eq_true rfl) rfl dJ1_indexOf_4cfef_33 ?_
    exact is_iret (pc := 36) X dJ1_indexOf_4cfef_36
  · have hr : r = -1 := by
      by_cases h1 : x < 0
      · rw [if_pos h1] at h; cases h; rfl
      · by_cases h2 : (255 : Int32) < x
        · rw [if_neg h1, if_pos h2] at h; cases h; rfl
        · exact absurd (show (if x < 0 then (0 : Int32) else if (255 : Int32) < x then 0 else 1) ≠ 0 by rw [if_neg h1, if_neg h2]; decide) hb
    subst hr
    refine iv_iconst (pc := 7) X dJ1_indexOf_4cfef_7 (show Int32.ofInt (-1) = (-1 : Int32) by decide) ?_
    exact is_iret (pc := 8) X dJ1_indexOf_4cfef_8
set_option maxHeartbeats 4000000 in
set_option maxRecDepth 100000 in
theorem sg_isLatin1 (l : Launch) (g : im_G) (ad : Nat → Nat) {q w : Nat} (hZu : ∀ V, g.2.2.2 V → im_Zu q w g V) (S : im_S) : im_E l g ad 0 yJ0_isLatin1_aae02 cJ0_isLatin1_aae02 1 (some Jvm.ClassFile.FieldType.boolean) [.ref q] S (some (.int 1)) S := by
  refine is_met (own := RJ0) (by decide +kernel) rfl (Nat.le_of_ble_eq_true rfl) (fun p e s m below meth c X => ?_)
  have hU := hZu s (X.2.2.2.2.2.2.2.2.1 s (State.WarmedH.refl s))
  refine iv_sgst (pc := 0) X hU.2.2.2.2.2 wf_J0_38 dJ0_isLatin1_aae02_0 ?_
  refine iv_if_eq (pc := 3) X dJ0_isLatin1_aae02_3 (tgt := 17) rfl (fun hb => absurd hb (by decide)) (fun hb => ?_)
  refine iv_aload_n (pc := 6) X dJ0_isLatin1_aae02_6 rfl ?_
  refine iv_sgget (pc := 7) X hU.2.2.1 wf_J0_15 dJ0_isLatin1_aae02_7 ?_
  refine iv_if_ne (pc := 10) X dJ0_isLatin1_aae02_10 (tgt := 17) rfl (fun hb => absurd rfl hb) (fun hb => ?_)
  refine iv_iconst (pc := 13) X dJ0_isLatin1_aae02_13 ic_1 ?_
  refine iv_goto (pc := 14) X dJ0_isLatin1_aae02_14 (tgt := 18) rfl ?_
  exact is_zret (pc := 18) X dJ0_isLatin1_aae02_18 rfl
set_option maxHeartbeats 4000000 in
set_option maxRecDepth 100000 in
theorem sg_coder (l : Launch) (g : im_G) (ad : Nat → Nat) {q w : Nat} (hZu : ∀ V, g.2.2.2 V → im_Zu q w g V) (S : im_S) : im_E l g ad 0 yJ0_coder_7d493 cJ0_coder_7d493 1 (some Jvm.ClassFile.FieldType.byte) [.ref q] S (some (.int 0)) S := by
  refine is_met (own := RJ0) (by decide +kernel) rfl (Nat.le_of_ble_eq_true rfl) (fun p e s m below meth c X => ?_)
  have hU := hZu s (X.2.2.2.2.2.2.2.2.1 s (State.WarmedH.refl s))
  refine iv_sgst (pc := 0) X hU.2.2.2.2.2 wf_J0_38 dJ0_coder_7d493_0 ?_
  refine iv_if_eq (pc := 3) X dJ0_coder_7d493_3 (tgt := 13) rfl (fun hb => absurd hb (by decide)) (fun hb => ?_)
  refine iv_aload_n (pc := 6) X dJ0_coder_7d493_6 rfl ?_
  refine iv_sgget (pc := 7) X hU.2.2.1 wf_J0_15 dJ0_coder_7d493_7 ?_
  refine iv_goto (pc := 10) X dJ0_coder_7d493_10 (tgt := 14) rfl ?_
  exact fun M hM => ir_zret (R := im_R 0 0 0) X rfl rfl dJ0_coder_7d493_14 ⟨rfl, hM⟩
set_option maxHeartbeats 4000000 in
set_option maxRecDepth 100000 in
theorem sg_length (l : Launch) (g : im_G) (ad : Nat → Nat) {q w : Nat} (hZu : ∀ V, g.2.2.2 V → im_Zu q w g V) (S : im_S) : im_E l g ad 1 yJ0_length_8abf5 cJ0_length_8abf5 1 (some Jvm.ClassFile.FieldType.int) [.ref q] S (some (.int 16)) S := by
  refine is_met (own := RJ0) (by decide +kernel) rfl (Nat.le_of_ble_eq_true rfl) (fun p e s m below meth c X => ?_)
  have hU := hZu s (X.2.2.2.2.2.2.2.2.1 s (State.WarmedH.refl s))
  refine iv_aload_n (pc := 0) X dJ0_length_8abf5_0 rfl ?_
  refine iv_sgget (pc := 1) X hU.2.2.2.1 wf_J0_9 dJ0_length_8abf5_1 ?_
  refine iv_sglen (pc := 4) X hU.2.2.2.2.1 (v := 16) rfl dJ0_length_8abf5_4 ?_
  refine iv_aload_n (pc := 5) X dJ0_length_8abf5_5 rfl ?_
  refine is_callQ (pc := 6) X [] [.int 16] 0 rfl (sg_coder l g ad hZu S) hU.2.1 wm_J0_335 wi_yJ0_coder_7d493 we_yJ0_coder_7d493 wn_J0 wc_yJ0_coder_7d493 (by decide) (by decide) (by decide) (Nat.le_of_ble_eq_true rfl) rfl dJ0_length_8abf5_6 ?_
  refine iv_ishr (pc := 9) X dJ0_length_8abf5_9 ?_
  exact is_iret (pc := 10) X dJ0_length_8abf5_10
set_option maxHeartbeats 4000000 in
set_option maxRecDepth 100000 in
theorem sg_indexOf2 (l : Launch) (g : im_G) (ad : Nat → Nat) {q w : Nat} (hZu : ∀ V, g.2.2.2 V → im_Zu q w g V) (x r : Int32) (S : im_S) (h : sg_ix x = some r) : im_E l g ad 2 yJ0_indexOf_7cf53 cJ0_indexOf_7cf53 3 (some Jvm.ClassFile.FieldType.int) [.ref q, .int x, .int 0] S (some (.int r)) S := by
  refine is_met (own := RJ0) (by decide +kernel) rfl (Nat.le_of_ble_eq_true rfl) (fun p e s m below meth c X => ?_)
  have hU := hZu s (X.2.2.2.2.2.2.2.2.1 s (State.WarmedH.refl s))
  refine iv_aload_n (pc := 0) X dJ0_indexOf_7cf53_0 rfl ?_
  refine is_callQ (pc := 1) X [] [] 0 rfl (sg_isLatin1 l g ad hZu S) hU.2.1 wm_J0_492 wi_yJ0_isLatin1_aae02 we_yJ0_isLatin1_aae02 wn_J0 wc_yJ0_isLatin1_aae02 (by decide) (by decide) (by decide) (Nat.le_of_ble_eq_true rfl) rfl dJ0_indexOf_7cf53_1 ?_
  refine iv_if_eq (pc := 4) X dJ0_indexOf_7cf53_4 (tgt := 23) rfl (fun hb => absurd hb (by decide)) (fun hb => ?_)
  refine iv_aload_n (pc := 7) X dJ0_indexOf_7cf53_7 rfl ?_
  refine iv_sgget (pc := 8) X hU.2.2.2.1 wf_J0_9 dJ0_indexOf_7cf53_8 ?_
  refine iv_iload_n (pc := 11) X dJ0_indexOf_7cf53_11 rfl ?_
  refine iv_iload_n (pc := 12) X dJ0_indexOf_7cf53_12 rfl ?_
  refine iv_aload_n (pc := 13) X dJ0_indexOf_7cf53_13 rfl ?_
  refine is_callQ (pc := 14) X [] [.int 0, .int x, .ref w] 0 rfl (sg_length l g ad hZu S) hU.2.1 wm_J0_505 wi_yJ0_length_8abf5 we_yJ0_length_8abf5 wn_J0 wc_yJ0_length_8abf5 (by decide) (by decide) (by decide) (Nat.le_of_ble_eq_true rfl) rfl dJ0_indexOf_7cf53_14 ?_
  refine is_callS (pc := 17) X [.ref w, .int x, .int 0, .int 16] [] 4 rfl (sg_indexOf1 l g ad hZu x r S h) wm_J0_637 ws_yJ1_indexOf_4cfef wn_J1 wc_yJ1_indexOf_4cfef (by decide) (by decide) (by decide) (Nat.le_of_ble_eq_true rfl) rfl dJ0_indexOf_7cf53_17 ?_
  refine iv_goto (pc := 20) X dJ0_indexOf_7cf53_20 (tgt := 36) rfl ?_
  exact is_iret (pc := 36) X dJ0_indexOf_7cf53_36
def f_sg_indexOf (x : Int32) (S : im_S) : Option (Int32 × im_S) := (sg_ix x).bind (fun r => some (r, S))
set_option maxHeartbeats 4000000 in
set_option maxRecDepth 100000 in
theorem f_sg_indexOf_e (l : Launch) (g : im_G) (ad : Nat → Nat) {q w : Nat} (hZu : ∀ V, g.2.2.2 V → im_Zu q w g V) (x : Int32) (S : im_S) (r : Int32) (S' : im_S) (hm : f_sg_indexOf x S = some (r, S')) : im_E l g ad 3 yJ0_indexOf_0f7a4 cJ0_indexOf_0f7a4 2 (some Jvm.ClassFile.FieldType.int) [.ref q, .int x] S (some (.int r)) S' := by
  obtain ⟨k, h, hm⟩ := bd_some (x := sg_ix x) hm
  cases hm
  refine is_met (own := RJ0) (by decide +kernel) rfl (Nat.le_of_ble_eq_true rfl) (fun p e s m below meth c X => ?_)
  have hU := hZu s (X.2.2.2.2.2.2.2.2.1 s (State.WarmedH.refl s))
  refine iv_aload_n (pc := 0) X dJ0_indexOf_0f7a4_0 rfl ?_
  refine iv_iload_n (pc := 1) X dJ0_indexOf_0f7a4_1 rfl ?_
  refine iv_iconst (pc := 2) X dJ0_indexOf_0f7a4_2 ic_0 ?_
  refine is_callQ (pc := 3) X [.int x, .int 0] [] 2 rfl (sg_indexOf2 l g ad hZu x _ S h) hU.2.1 wm_J0_633 wi_yJ0_indexOf_7cf53 we_yJ0_indexOf_7cf53 wn_J0 wc_yJ0_indexOf_7cf53 (by decide) (by decide) (by decide) (Nat.le_of_ble_eq_true rfl) rfl dJ0_indexOf_0f7a4_3 ?_
  exact is_iret (pc := 6) X dJ0_indexOf_0f7a4_6
