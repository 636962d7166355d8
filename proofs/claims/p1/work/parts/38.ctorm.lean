def fs_X11 (q : Nat → Nat) : List Value := [.int 0, .ref (q 0), .int 0, .int 0, .int 0, .int 0, .ref (q 1), .ref (q 2), .ref (q 3), .ref (q 4), .int 0, .ref (q 5), .ref (q 6), .ref (q 7), .ref (q 8), .ref (q 9), .ref (q 10), .ref (q 11), .ref (q 12), .ref (q 13), .ref (q 14), .ref (q 15), .ref (q 16), .ref (q 17), .ref (q 18), .ref (q 19), .int 0, .int 0, .ref (q 20), .ref (q 21), .ref (q 22), .ref (q 23), .ref (q 24), .ref (q 25), .ref (q 26), .int 0, .int 0, .int 0, .ref (q 27), .ref (q 28), .int 0, .ref (q 29), .ref (q 30), .ref (q 31), .ref (q 32), .ref (q 33), .ref (q 34), .ref (q 35), .ref (q 36), .ref (q 37), .ref (q 38), .ref (q 39), .int 0, .ref (q 40), .ref (q 41), .ref (q 42), .ref (q 43), .int 0, .ref (q 44), .ref (q 45), .ref (q 46), .ref (q 47), .ref (q 48), .ref (q 49), .int 0, .ref (q 50), .ref (q 51), .ref (q 52), .int 0, .ref (q 53), .ref (q 54), .ref (q 55), .int 0, .int 0, .int 0, .int 0, .int 0, .int 0, .int 0, .ref (q 56), .ref (q 57), .int 0, .long 0]
def al_X11c (q : Nat → Nat) : List Nat := [q 0, q 1, q 2, q 3, q 4, q 5, q 6, q 7, q 8, q 9, q 10, q 11, q 12, q 13, q 14, q 15, q 16, q 17, q 18, q 19, q 20, q 21, q 22, q 23, q 24, q 25, q 26, q 27, q 28, q 29, q 30, q 31, q 32, q 33, q 34, q 35, q 36, q 37, q 38, q 39, q 40, q 41, q 42, q 43, q 44, q 45, q 46, q 47, q 48, q 49, q 50, q 51, q 52, q 53, q 54, q 55, q 56, q 57]
def ct_X11_0 (g : im_G) (q : Nat → Nat) : List va_E := [.inl (g.2.1 1, 500, .inl (fun _ => 0)), .inl (g.2.1 1, 502, .inl (fun _ => 0)), .inl (g.2.1 1, 502, .inl (fun _ => 0)), .inl (g.2.1 1, 502, .inl (fun _ => 0)), .inl (g.2.1 2, 502, .inr (.inl (fun _ => 0))), .inl (g.2.1 1, 1200, .inl (fun _ => 0)), .inl (g.2.1 1, 1200, .inl (fun _ => 0)), .inl (g.2.1 1, 1200, .inl (fun _ => 0)), .inl (g.2.1 1, 1200, .inl (fun _ => 0)), .inl (g.2.1 1, 1200, .inl (fun _ => 0)), .inl (g.2.1 1, 1200, .inl (fun _ => 0)), .inl (g.2.1 2, 1200, .inr (.inl (fun _ => 0))), .inl (g.2.1 1, 1200, .inl (fun _ => 0)), .inl (g.2.1 1, 1200, .inl (fun _ => 0)), .inl (g.2.1 1, 1200, .inl (fun _ => 0)), .inl (g.2.1 1, 1200, .inl (fun _ => 0)), .inl (g.2.1 1, 1200, .inl (fun _ => 0)), .inl (g.2.1 2, 1200, .inr (.inl (fun _ => 0))), .inl (g.2.1 1, 1200, .inl (fun _ => 0)), .inl (g.2.1 1, 1200, .inl (fun _ => 0)), .inl (g.2.1 1, 16, .inl (fun _ => 0)), .inl (g.2.1 2, 16, .inr (.inl (fun _ => 0))), .inl (g.2.1 1, 16, .inl (fun _ => 0)), .inl (g.2.1 1, 16, .inl (fun _ => 0)), .inl (g.2.1 2, 64, .inr (.inl (fun _ => 0))), .inl (g.2.1 1, 64, .inl (fun _ => 0)), .inl (g.2.1 1, 16, .inl (fun _ => 0)), .inl (g.2.1 1, 1200, .inl (fun _ => 0)), .inl (g.2.1 1, 1200, .inl (fun _ => 0)), .inl (g.2.1 1, 640, .inl (fun _ => 0)), .inl (g.2.1 1, 640, .inl (fun _ => 0)), .inl (g.2.1 1, 640, .inl (fun _ => 0)), .inl (g.2.1 1, 1200, .inl (fun _ => 0)), .inl (g.2.1 1, 640, .inl (fun _ => 0)), .inl (g.2.1 1, 1200, .inl (fun _ => 0)), .inl (g.2.1 1, 1200, .inl (fun _ => 0)), .inl (g.2.1 1, 1200, .inl (fun _ => 0)), .inl (g.2.1 1, 1200, .inl (fun _ => 0)), .inl (g.2.1 1, 1200, .inl (fun _ => 0)), .inl (g.2.1 1, 1200, .inl (fun _ => 0))]
def ct_X11_1 (g : im_G) (q : Nat → Nat) : List va_E := [.inl (g.2.1 2, 260, .inr (.inl (fun _ => 0))), .inl (g.2.1 1, 260, .inl (fun _ => 0)), .inl (g.2.1 1, 260, .inl (fun _ => 0)), .inl (g.2.1 1, 260, .inl (fun _ => 0)), .inl (g.2.1 1, 24000, .inl (fun _ => 0)), .inl (g.2.1 1, 24000, .inl (fun _ => 0)), .inl (g.2.1 1, 24000, .inl (fun _ => 0)), .inl (g.2.1 1, 24000, .inl (fun _ => 0)), .inl (g.2.1 1, 24000, .inl (fun _ => 0)), .inl (g.2.1 1, 24000, .inl (fun _ => 0)), .inl (g.2.1 1, 520000, .inl (fun _ => 0)), .inl (g.2.1 2, 520000, .inr (.inl (fun _ => 0))), .inl (g.2.1 1, 520000, .inl (fun _ => 0)), .inl (g.2.1 1, 1002, .inl (fun _ => 0)), .inl (g.2.1 1, 1002, .inl (fun _ => 0)), .inl (g.2.1 2, 4, .inr (.inl (fun _ => 0))), .inl (g.2.1 1, 502, .inl (fun _ => 0)), .inl (g.2.1 1, 502, .inl (fun _ => 0))]
def ct_X11 (g : im_G) (q : Nat → Nat) : List va_E := ct_X11_0 g q ++ ct_X11_1 g q
set_option maxHeartbeats 4000000 in
set_option maxRecDepth 100000 in
/-- X11() -/
theorem mk_X11 (l : Launch) (g : im_G) (hZ : ∀ V, g.2.2.2 V → im_nest V) : im_J l g 1 yX11_init cX11_init 58 1742128 13 [.int 0, .null, .int 0, .int 0, .int 0, .int 0, .null, .null, .null, .null, .int 0, .null, .null, .null, .null, .null, .null, .null, .null, .null, .null, .null, .null, .null, .null, .null, .int 0, .int 0, .null, .null, .null, .null, .null, .null, .null, .int 0, .int 0, .int 0, .null, .null, .int 0, .null, .null, .null, .null, .null, .null, .null, .null, .null, .null, .null, .int 0, .null, .null, .null, .null, .int 0, .null, .null, .null, .null, .null, .null, .int 0, .null, .null, .null, .int 0, .null, .null, .null, .int 0, .int 0, .int 0, .int 0, .int 0, .int 0, .int 0, .null, .null, .int 0, .long 0] fs_X11 al_X11c (ct_X11 g) := by
  intro al0 ct0 a M hlen hM
  refine im_met (own := RX11) (by decide +kernel) rfl (Nat.le_of_ble_eq_true rfl) (fun p e s m below meth c X hin => ?_)
  refine ik_go hM ?_
  refine ik_aload_n (pc := 0) X dX11_init_0 rfl ?_
  refine ik_objInit (pc := 1) X wo_X11 dX11_init_1 (by decide) (Nat.le_of_ble_eq_true rfl) ?_
  refine ik_aload_n (pc := 4) X dX11_init_4 rfl ?_
  refine ik_sipush (pc := 5) X dX11_init_5 sc_500 ?_
  refine ik_newI (pc := 8) X 500 (by decide) (by decide) (by decide) dX11_init_8 (bc' := 57) (bs' := 1741628) rfl rfl (fun q1 => ?_)
  refine ik_put (pc := 10) X 1 tyX11 tyX11_ok nmX11 rfl wx_X11 (by decide) wf_X11_7 (Or.inr ⟨rfl, hin, rfl⟩) rfl rfl dX11_init_10 hlen rfl (fun hf => ?_)
  refine ik_aload_n (pc := 13) X dX11_init_13 rfl ?_
  refine ik_sipush (pc := 14) X dX11_init_14 sc_502 ?_
  refine ik_newI (pc := 17) X 502 (by decide) (by decide) (by decide) dX11_init_17 (bc' := 56) (bs' := 1741126) rfl rfl (fun q2 => ?_)
  refine ik_put (pc := 19) X 6 tyX11 tyX11_ok nmX11 rfl wx_X11 (by decide) wf_X11_13 (Or.inr ⟨rfl, hin, rfl⟩) rfl rfl dX11_init_19 hlen hf (fun hf => ?_)
  refine ik_aload_n (pc := 22) X dX11_init_22 rfl ?_
  refine ik_sipush (pc := 23) X dX11_init_23 sc_502 ?_
  refine ik_newI (pc := 26) X 502 (by decide) (by decide) (by decide) dX11_init_26 (bc' := 55) (bs' := 1740624) rfl rfl (fun q3 => ?_)
  refine ik_put (pc := 28) X 7 tyX11 tyX11_ok nmX11 rfl wx_X11 (by decide) wf_X11_16 (Or.inr ⟨rfl, hin, rfl⟩) rfl rfl dX11_init_28 hlen hf (fun hf => ?_)
  refine ik_aload_n (pc := 31) X dX11_init_31 rfl ?_
  refine ik_sipush (pc := 32) X dX11_init_32 sc_502 ?_
  refine ik_newI (pc := 35) X 502 (by decide) (by decide) (by decide) dX11_init_35 (bc' := 54) (bs' := 1740122) rfl rfl (fun q4 => ?_)
  refine ik_put (pc := 37) X 8 tyX11 tyX11_ok nmX11 rfl wx_X11 (by decide) wf_X11_19 (Or.inr ⟨rfl, hin, rfl⟩) rfl rfl dX11_init_37 hlen hf (fun hf => ?_)
  refine ik_aload_n (pc := 40) X dX11_init_40 rfl ?_
  refine ik_sipush (pc := 41) X dX11_init_41 sc_502 ?_
  refine ik_newJ (pc := 44) X 502 (by decide) (by decide) (by decide) dX11_init_44 (bc' := 53) (bs' := 1739620) rfl rfl (fun q5 => ?_)
  refine ik_put (pc := 46) X 9 tyX11 tyX11_ok nmX11 rfl wx_X11 (by decide) wf_X11_22 (Or.inr ⟨rfl, hin, rfl⟩) rfl rfl dX11_init_46 hlen hf (fun hf => ?_)
  refine ik_aload_n (pc := 49) X dX11_init_49 rfl ?_
  refine ik_sipush (pc := 50) X dX11_init_50 sc_1200 ?_
  refine ik_newI (pc := 53) X 1200 (by decide) (by decide) (by decide) dX11_init_53 (bc' := 52) (bs' := 1738420) rfl rfl (fun q6 => ?_)
  refine ik_put (pc := 55) X 11 tyX11 tyX11_ok nmX11 rfl wx_X11 (by decide) wf_X11_26 (Or.inr ⟨rfl, hin, rfl⟩) rfl rfl dX11_init_55 hlen hf (fun hf => ?_)
  refine ik_aload_n (pc := 58) X dX11_init_58 rfl ?_
  refine ik_sipush (pc := 59) X dX11_init_59 sc_1200 ?_
  refine ik_newI (pc := 62) X 1200 (by decide) (by decide) (by decide) dX11_init_62 (bc' := 51) (bs' := 1737220) rfl rfl (fun q7 => ?_)
  refine ik_put (pc := 64) X 12 tyX11 tyX11_ok nmX11 rfl wx_X11 (by decide) wf_X11_29 (Or.inr ⟨rfl, hin, rfl⟩) rfl rfl dX11_init_64 hlen hf (fun hf => ?_)
  refine ik_aload_n (pc := 67) X dX11_init_67 rfl ?_
  refine ik_sipush (pc := 68) X dX11_init_68 sc_1200 ?_
  refine ik_newI (pc := 71) X 1200 (by decide) (by decide) (by decide) dX11_init_71 (bc' := 50) (bs' := 1736020) rfl rfl (fun q8 => ?_)
  refine ik_put (pc := 73) X 13 tyX11 tyX11_ok nmX11 rfl wx_X11 (by decide) wf_X11_32 (Or.inr ⟨rfl, hin, rfl⟩) rfl rfl dX11_init_73 hlen hf (fun hf => ?_)
  refine ik_aload_n (pc := 76) X dX11_init_76 rfl ?_
  refine ik_sipush (pc := 77) X dX11_init_77 sc_1200 ?_
  refine ik_newI (pc := 80) X 1200 (by decide) (by decide) (by decide) dX11_init_80 (bc' := 49) (bs' := 1734820) rfl rfl (fun q9 => ?_)
  refine ik_put (pc := 82) X 14 tyX11 tyX11_ok nmX11 rfl wx_X11 (by decide) wf_X11_35 (Or.inr ⟨rfl, hin, rfl⟩) rfl rfl dX11_init_82 hlen hf (fun hf => ?_)
  refine ik_aload_n (pc := 85) X dX11_init_85 rfl ?_
  refine ik_sipush (pc := 86) X dX11_init_86 sc_1200 ?_
  refine ik_newI (pc := 89) X 1200 (by decide) (by decide) (by decide) dX11_init_89 (bc' := 48) (bs' := 1733620) rfl rfl (fun q10 => ?_)
  refine ik_put (pc := 91) X 15 tyX11 tyX11_ok nmX11 rfl wx_X11 (by decide) wf_X11_38 (Or.inr ⟨rfl, hin, rfl⟩) rfl rfl dX11_init_91 hlen hf (fun hf => ?_)
  refine ik_aload_n (pc := 94) X dX11_init_94 rfl ?_
  refine ik_sipush (pc := 95) X dX11_init_95 sc_1200 ?_
  refine ik_newI (pc := 98) X 1200 (by decide) (by decide) (by decide) dX11_init_98 (bc' := 47) (bs' := 1732420) rfl rfl (fun q11 => ?_)
  refine ik_put (pc := 100) X 16 tyX11 tyX11_ok nmX11 rfl wx_X11 (by decide) wf_X11_41 (Or.inr ⟨rfl, hin, rfl⟩) rfl rfl dX11_init_100 hlen hf (fun hf => ?_)
  refine ik_aload_n (pc := 103) X dX11_init_103 rfl ?_
  refine ik_sipush (pc := 104) X dX11_init_104 sc_1200 ?_
  refine ik_newJ (pc := 107) X 1200 (by decide) (by decide) (by decide) dX11_init_107 (bc' := 46) (bs' := 1731220) rfl rfl (fun q12 => ?_)
  refine ik_put (pc := 109) X 17 tyX11 tyX11_ok nmX11 rfl wx_X11 (by decide) wf_X11_44 (Or.inr ⟨rfl, hin, rfl⟩) rfl rfl dX11_init_109 hlen hf (fun hf => ?_)
  refine ik_aload_n (pc := 112) X dX11_init_112 rfl ?_
  refine ik_sipush (pc := 113) X dX11_init_113 sc_1200 ?_
  refine ik_newI (pc := 116) X 1200 (by decide) (by decide) (by decide) dX11_init_116 (bc' := 45) (bs' := 1730020) rfl rfl (fun q13 => ?_)
  refine ik_put (pc := 118) X 18 tyX11 tyX11_ok nmX11 rfl wx_X11 (by decide) wf_X11_47 (Or.inr ⟨rfl, hin, rfl⟩) rfl rfl dX11_init_118 hlen hf (fun hf => ?_)
  refine ik_aload_n (pc := 121) X dX11_init_121 rfl ?_
  refine ik_sipush (pc := 122) X dX11_init_122 sc_1200 ?_
  refine ik_newI (pc := 125) X 1200 (by decide) (by decide) (by decide) dX11_init_125 (bc' := 44) (bs' := 1728820) rfl rfl (fun q14 => ?_)
  refine ik_put (pc := 127) X 19 tyX11 tyX11_ok nmX11 rfl wx_X11 (by decide) wf_X11_50 (Or.inr ⟨rfl, hin, rfl⟩) rfl rfl dX11_init_127 hlen hf (fun hf => ?_)
  refine ik_aload_n (pc := 130) X dX11_init_130 rfl ?_
  refine ik_sipush (pc := 131) X dX11_init_131 sc_1200 ?_
  refine ik_newI (pc := 134) X 1200 (by decide) (by decide) (by decide) dX11_init_134 (bc' := 43) (bs' := 1727620) rfl rfl (fun q15 => ?_)
  refine ik_put (pc := 136) X 20 tyX11 tyX11_ok nmX11 rfl wx_X11 (by decide) wf_X11_53 (Or.inr ⟨rfl, hin, rfl⟩) rfl rfl dX11_init_136 hlen hf (fun hf => ?_)
  refine ik_aload_n (pc := 139) X dX11_init_139 rfl ?_
  refine ik_sipush (pc := 140) X dX11_init_140 sc_1200 ?_
  refine ik_newI (pc := 143) X 1200 (by decide) (by decide) (by decide) dX11_init_143 (bc' := 42) (bs' := 1726420) rfl rfl (fun q16 => ?_)
  refine ik_put (pc := 145) X 21 tyX11 tyX11_ok nmX11 rfl wx_X11 (by decide) wf_X11_56 (Or.inr ⟨rfl, hin, rfl⟩) rfl rfl dX11_init_145 hlen hf (fun hf => ?_)
  refine ik_aload_n (pc := 148) X dX11_init_148 rfl ?_
  refine ik_sipush (pc := 149) X dX11_init_149 sc_1200 ?_
  refine ik_newI (pc := 152) X 1200 (by decide) (by decide) (by decide) dX11_init_152 (bc' := 41) (bs' := 1725220) rfl rfl (fun q17 => ?_)
  refine ik_put (pc := 154) X 22 tyX11 tyX11_ok nmX11 rfl wx_X11 (by decide) wf_X11_59 (Or.inr ⟨rfl, hin, rfl⟩) rfl rfl dX11_init_154 hlen hf (fun hf => ?_)
  refine ik_aload_n (pc := 157) X dX11_init_157 rfl ?_
  refine ik_sipush (pc := 158) X dX11_init_158 sc_1200 ?_
  refine ik_newJ (pc := 161) X 1200 (by decide) (by decide) (by decide) dX11_init_161 (bc' := 40) (bs' := 1724020) rfl rfl (fun q18 => ?_)
  refine ik_put (pc := 163) X 23 tyX11 tyX11_ok nmX11 rfl wx_X11 (by decide) wf_X11_62 (Or.inr ⟨rfl, hin, rfl⟩) rfl rfl dX11_init_163 hlen hf (fun hf => ?_)
  refine ik_aload_n (pc := 166) X dX11_init_166 rfl ?_
  refine ik_sipush (pc := 167) X dX11_init_167 sc_1200 ?_
  refine ik_newI (pc := 170) X 1200 (by decide) (by decide) (by decide) dX11_init_170 (bc' := 39) (bs' := 1722820) rfl rfl (fun q19 => ?_)
  refine ik_put (pc := 172) X 24 tyX11 tyX11_ok nmX11 rfl wx_X11 (by decide) wf_X11_65 (Or.inr ⟨rfl, hin, rfl⟩) rfl rfl dX11_init_172 hlen hf (fun hf => ?_)
  refine ik_aload_n (pc := 175) X dX11_init_175 rfl ?_
  refine ik_sipush (pc := 176) X dX11_init_176 sc_1200 ?_
  refine ik_newI (pc := 179) X 1200 (by decide) (by decide) (by decide) dX11_init_179 (bc' := 38) (bs' := 1721620) rfl rfl (fun q20 => ?_)
  refine ik_put (pc := 181) X 25 tyX11 tyX11_ok nmX11 rfl wx_X11 (by decide) wf_X11_68 (Or.inr ⟨rfl, hin, rfl⟩) rfl rfl dX11_init_181 hlen hf (fun hf => ?_)
  refine ik_aload_n (pc := 184) X dX11_init_184 rfl ?_
  refine ik_bipush (pc := 185) X dX11_init_185 bc_16 ?_
  refine ik_newI (pc := 187) X 16 (by decide) (by decide) (by decide) dX11_init_187 (bc' := 37) (bs' := 1721604) rfl rfl (fun q21 => ?_)
  refine ik_put (pc := 189) X 28 tyX11 tyX11_ok nmX11 rfl wx_X11 (by decide) wf_X11_71 (Or.inr ⟨rfl, hin, rfl⟩) rfl rfl dX11_init_189 hlen hf (fun hf => ?_)
  refine ik_aload_n (pc := 192) X dX11_init_192 rfl ?_
  refine ik_bipush (pc := 193) X dX11_init_193 bc_16 ?_
  refine ik_newJ (pc := 195) X 16 (by decide) (by decide) (by decide) dX11_init_195 (bc' := 36) (bs' := 1721588) rfl rfl (fun q22 => ?_)
  refine ik_put (pc := 197) X 29 tyX11 tyX11_ok nmX11 rfl wx_X11 (by decide) wf_X11_74 (Or.inr ⟨rfl, hin, rfl⟩) rfl rfl dX11_init_197 hlen hf (fun hf => ?_)
  refine ik_aload_n (pc := 200) X dX11_init_200 rfl ?_
  refine ik_bipush (pc := 201) X dX11_init_201 bc_16 ?_
  refine ik_newI (pc := 203) X 16 (by decide) (by decide) (by decide) dX11_init_203 (bc' := 35) (bs' := 1721572) rfl rfl (fun q23 => ?_)
  refine ik_put (pc := 205) X 30 tyX11 tyX11_ok nmX11 rfl wx_X11 (by decide) wf_X11_77 (Or.inr ⟨rfl, hin, rfl⟩) rfl rfl dX11_init_205 hlen hf (fun hf => ?_)
  refine ik_aload_n (pc := 208) X dX11_init_208 rfl ?_
  refine ik_bipush (pc := 209) X dX11_init_209 bc_16 ?_
  refine ik_newI (pc := 211) X 16 (by decide) (by decide) (by decide) dX11_init_211 (bc' := 34) (bs' := 1721556) rfl rfl (fun q24 => ?_)
  refine ik_put (pc := 213) X 31 tyX11 tyX11_ok nmX11 rfl wx_X11 (by decide) wf_X11_80 (Or.inr ⟨rfl, hin, rfl⟩) rfl rfl dX11_init_213 hlen hf (fun hf => ?_)
  refine ik_aload_n (pc := 216) X dX11_init_216 rfl ?_
  refine ik_bipush (pc := 217) X dX11_init_217 bc_64 ?_
  refine ik_newJ (pc := 219) X 64 (by decide) (by decide) (by decide) dX11_init_219 (bc' := 33) (bs' := 1721492) rfl rfl (fun q25 => ?_)
  refine ik_put (pc := 221) X 32 tyX11 tyX11_ok nmX11 rfl wx_X11 (by decide) wf_X11_83 (Or.inr ⟨rfl, hin, rfl⟩) rfl rfl dX11_init_221 hlen hf (fun hf => ?_)
  refine ik_aload_n (pc := 224) X dX11_init_224 rfl ?_
  refine ik_bipush (pc := 225) X dX11_init_225 bc_64 ?_
  refine ik_newI (pc := 227) X 64 (by decide) (by decide) (by decide) dX11_init_227 (bc' := 32) (bs' := 1721428) rfl rfl (fun q26 => ?_)
  refine ik_put (pc := 229) X 33 tyX11 tyX11_ok nmX11 rfl wx_X11 (by decide) wf_X11_86 (Or.inr ⟨rfl, hin, rfl⟩) rfl rfl dX11_init_229 hlen hf (fun hf => ?_)
  refine ik_aload_n (pc := 232) X dX11_init_232 rfl ?_
  refine ik_bipush (pc := 233) X dX11_init_233 bc_16 ?_
  refine ik_newI (pc := 235) X 16 (by decide) (by decide) (by decide) dX11_init_235 (bc' := 31) (bs' := 1721412) rfl rfl (fun q27 => ?_)
  refine ik_put (pc := 237) X 34 tyX11 tyX11_ok nmX11 rfl wx_X11 (by decide) wf_X11_89 (Or.inr ⟨rfl, hin, rfl⟩) rfl rfl dX11_init_237 hlen hf (fun hf => ?_)
  refine ik_aload_n (pc := 240) X dX11_init_240 rfl ?_
  refine ik_sipush (pc := 241) X dX11_init_241 sc_1200 ?_
  refine ik_newI (pc := 244) X 1200 (by decide) (by decide) (by decide) dX11_init_244 (bc' := 30) (bs' := 1720212) rfl rfl (fun q28 => ?_)
  refine ik_put (pc := 246) X 38 tyX11 tyX11_ok nmX11 rfl wx_X11 (by decide) wf_X11_92 (Or.inr ⟨rfl, hin, rfl⟩) rfl rfl dX11_init_246 hlen hf (fun hf => ?_)
  refine ik_aload_n (pc := 249) X dX11_init_249 rfl ?_
  refine ik_sipush (pc := 250) X dX11_init_250 sc_1200 ?_
  refine ik_newI (pc := 253) X 1200 (by decide) (by decide) (by decide) dX11_init_253 (bc' := 29) (bs' := 1719012) rfl rfl (fun q29 => ?_)
  refine ik_put (pc := 255) X 39 tyX11 tyX11_ok nmX11 rfl wx_X11 (by decide) wf_X11_95 (Or.inr ⟨rfl, hin, rfl⟩) rfl rfl dX11_init_255 hlen hf (fun hf => ?_)
  refine ik_aload_n (pc := 258) X dX11_init_258 rfl ?_
  refine ik_sipush (pc := 259) X dX11_init_259 sc_640 ?_
  refine ik_newI (pc := 262) X 640 (by decide) (by decide) (by decide) dX11_init_262 (bc' := 28) (bs' := 1718372) rfl rfl (fun q30 => ?_)
  refine ik_put (pc := 264) X 41 tyX11 tyX11_ok nmX11 rfl wx_X11 (by decide) wf_X11_98 (Or.inr ⟨rfl, hin, rfl⟩) rfl rfl dX11_init_264 hlen hf (fun hf => ?_)
  refine ik_aload_n (pc := 267) X dX11_init_267 rfl ?_
  refine ik_sipush (pc := 268) X dX11_init_268 sc_640 ?_
  refine ik_newI (pc := 271) X 640 (by decide) (by decide) (by decide) dX11_init_271 (bc' := 27) (bs' := 1717732) rfl rfl (fun q31 => ?_)
  refine ik_put (pc := 273) X 42 tyX11 tyX11_ok nmX11 rfl wx_X11 (by decide) wf_X11_101 (Or.inr ⟨rfl, hin, rfl⟩) rfl rfl dX11_init_273 hlen hf (fun hf => ?_)
  refine ik_aload_n (pc := 276) X dX11_init_276 rfl ?_
  refine ik_sipush (pc := 277) X dX11_init_277 sc_640 ?_
  refine ik_newI (pc := 280) X 640 (by decide) (by decide) (by decide) dX11_init_280 (bc' := 26) (bs' := 1717092) rfl rfl (fun q32 => ?_)
  refine ik_put (pc := 282) X 43 tyX11 tyX11_ok nmX11 rfl wx_X11 (by decide) wf_X11_104 (Or.inr ⟨rfl, hin, rfl⟩) rfl rfl dX11_init_282 hlen hf (fun hf => ?_)
  refine ik_aload_n (pc := 285) X dX11_init_285 rfl ?_
  refine ik_sipush (pc := 286) X dX11_init_286 sc_1200 ?_
  refine ik_newI (pc := 289) X 1200 (by decide) (by decide) (by decide) dX11_init_289 (bc' := 25) (bs' := 1715892) rfl rfl (fun q33 => ?_)
  refine ik_put (pc := 291) X 44 tyX11 tyX11_ok nmX11 rfl wx_X11 (by decide) wf_X11_107 (Or.inr ⟨rfl, hin, rfl⟩) rfl rfl dX11_init_291 hlen hf (fun hf => ?_)
  refine ik_aload_n (pc := 294) X dX11_init_294 rfl ?_
  refine ik_sipush (pc := 295) X dX11_init_295 sc_640 ?_
  refine ik_newI (pc := 298) X 640 (by decide) (by decide) (by decide) dX11_init_298 (bc' := 24) (bs' := 1715252) rfl rfl (fun q34 => ?_)
  refine ik_put (pc := 300) X 45 tyX11 tyX11_ok nmX11 rfl wx_X11 (by decide) wf_X11_110 (Or.inr ⟨rfl, hin, rfl⟩) rfl rfl dX11_init_300 hlen hf (fun hf => ?_)
  refine ik_aload_n (pc := 303) X dX11_init_303 rfl ?_
  refine ik_sipush (pc := 304) X dX11_init_304 sc_1200 ?_
  refine ik_newI (pc := 307) X 1200 (by decide) (by decide) (by decide) dX11_init_307 (bc' := 23) (bs' := 1714052) rfl rfl (fun q35 => ?_)
  refine ik_put (pc := 309) X 46 tyX11 tyX11_ok nmX11 rfl wx_X11 (by decide) wf_X11_113 (Or.inr ⟨rfl, hin, rfl⟩) rfl rfl dX11_init_309 hlen hf (fun hf => ?_)
  refine ik_aload_n (pc := 312) X dX11_init_312 rfl ?_
  refine ik_sipush (pc := 313) X dX11_init_313 sc_1200 ?_
  refine ik_newI (pc := 316) X 1200 (by decide) (by decide) (by decide) dX11_init_316 (bc' := 22) (bs' := 1712852) rfl rfl (fun q36 => ?_)
  refine ik_put (pc := 318) X 47 tyX11 tyX11_ok nmX11 rfl wx_X11 (by decide) wf_X11_116 (Or.inr ⟨rfl, hin, rfl⟩) rfl rfl dX11_init_318 hlen hf (fun hf => ?_)
  refine ik_aload_n (pc := 321) X dX11_init_321 rfl ?_
  refine ik_sipush (pc := 322) X dX11_init_322 sc_1200 ?_
  refine ik_newI (pc := 325) X 1200 (by decide) (by decide) (by decide) dX11_init_325 (bc' := 21) (bs' := 1711652) rfl rfl (fun q37 => ?_)
  refine ik_put (pc := 327) X 48 tyX11 tyX11_ok nmX11 rfl wx_X11 (by decide) wf_X11_119 (Or.inr ⟨rfl, hin, rfl⟩) rfl rfl dX11_init_327 hlen hf (fun hf => ?_)
  refine ik_aload_n (pc := 330) X dX11_init_330 rfl ?_
  refine ik_sipush (pc := 331) X dX11_init_331 sc_1200 ?_
  refine ik_newI (pc := 334) X 1200 (by decide) (by decide) (by decide) dX11_init_334 (bc' := 20) (bs' := 1710452) rfl rfl (fun q38 => ?_)
  refine ik_put (pc := 336) X 49 tyX11 tyX11_ok nmX11 rfl wx_X11 (by decide) wf_X11_122 (Or.inr ⟨rfl, hin, rfl⟩) rfl rfl dX11_init_336 hlen hf (fun hf => ?_)
  refine ik_aload_n (pc := 339) X dX11_init_339 rfl ?_
  refine ik_sipush (pc := 340) X dX11_init_340 sc_1200 ?_
  refine ik_newI (pc := 343) X 1200 (by decide) (by decide) (by decide) dX11_init_343 (bc' := 19) (bs' := 1709252) rfl rfl (fun q39 => ?_)
  refine ik_put (pc := 345) X 50 tyX11 tyX11_ok nmX11 rfl wx_X11 (by decide) wf_X11_125 (Or.inr ⟨rfl, hin, rfl⟩) rfl rfl dX11_init_345 hlen hf (fun hf => ?_)
  refine ik_aload_n (pc := 348) X dX11_init_348 rfl ?_
  refine ik_sipush (pc := 349) X dX11_init_349 sc_1200 ?_
  refine ik_newI (pc := 352) X 1200 (by decide) (by decide) (by decide) dX11_init_352 (bc' := 18) (bs' := 1708052) rfl rfl (fun q40 => ?_)
  refine ik_put (pc := 354) X 51 tyX11 tyX11_ok nmX11 rfl wx_X11 (by decide) wf_X11_128 (Or.inr ⟨rfl, hin, rfl⟩) rfl rfl dX11_init_354 hlen hf (fun hf => ?_)
  refine ik_aload_n (pc := 357) X dX11_init_357 rfl ?_
  refine ik_sipush (pc := 358) X dX11_init_358 sc_260 ?_
  refine ik_newJ (pc := 361) X 260 (by decide) (by decide) (by decide) dX11_init_361 (bc' := 17) (bs' := 1707792) rfl rfl (fun q41 => ?_)
  refine ik_put (pc := 363) X 53 tyX11 tyX11_ok nmX11 rfl wx_X11 (by decide) wf_X11_131 (Or.inr ⟨rfl, hin, rfl⟩) rfl rfl dX11_init_363 hlen hf (fun hf => ?_)
  refine ik_aload_n (pc := 366) X dX11_init_366 rfl ?_
  refine ik_sipush (pc := 367) X dX11_init_367 sc_260 ?_
  refine ik_newI (pc := 370) X 260 (by decide) (by decide) (by decide) dX11_init_370 (bc' := 16) (bs' := 1707532) rfl rfl (fun q42 => ?_)
  refine ik_put (pc := 372) X 54 tyX11 tyX11_ok nmX11 rfl wx_X11 (by decide) wf_X11_134 (Or.inr ⟨rfl, hin, rfl⟩) rfl rfl dX11_init_372 hlen hf (fun hf => ?_)
  refine ik_aload_n (pc := 375) X dX11_init_375 rfl ?_
  refine ik_sipush (pc := 376) X dX11_init_376 sc_260 ?_
  refine ik_newI (pc := 379) X 260 (by decide) (by decide) (by decide) dX11_init_379 (bc' := 15) (bs' := 1707272) rfl rfl (fun q43 => ?_)
  refine ik_put (pc := 381) X 55 tyX11 tyX11_ok nmX11 rfl wx_X11 (by decide) wf_X11_137 (Or.inr ⟨rfl, hin, rfl⟩) rfl rfl dX11_init_381 hlen hf (fun hf => ?_)
  refine ik_aload_n (pc := 384) X dX11_init_384 rfl ?_
  refine ik_sipush (pc := 385) X dX11_init_385 sc_260 ?_
  refine ik_newI (pc := 388) X 260 (by decide) (by decide) (by decide) dX11_init_388 (bc' := 14) (bs' := 1707012) rfl rfl (fun q44 => ?_)
  refine ik_put (pc := 390) X 56 tyX11 tyX11_ok nmX11 rfl wx_X11 (by decide) wf_X11_140 (Or.inr ⟨rfl, hin, rfl⟩) rfl rfl dX11_init_390 hlen hf (fun hf => ?_)
  refine ik_aload_n (pc := 393) X dX11_init_393 rfl ?_
  refine ik_sipush (pc := 394) X dX11_init_394 sc_24000 ?_
  refine ik_newI (pc := 397) X 24000 (by decide) (by decide) (by decide) dX11_init_397 (bc' := 13) (bs' := 1683012) rfl rfl (fun q45 => ?_)
  refine ik_put (pc := 399) X 58 tyX11 tyX11_ok nmX11 rfl wx_X11 (by decide) wf_X11_143 (Or.inr ⟨rfl, hin, rfl⟩) rfl rfl dX11_init_399 hlen hf (fun hf => ?_)
  refine ik_aload_n (pc := 402) X dX11_init_402 rfl ?_
  refine ik_sipush (pc := 403) X dX11_init_403 sc_24000 ?_
  refine ik_newI (pc := 406) X 24000 (by decide) (by decide) (by decide) dX11_init_406 (bc' := 12) (bs' := 1659012) rfl rfl (fun q46 => ?_)
  refine ik_put (pc := 408) X 59 tyX11 tyX11_ok nmX11 rfl wx_X11 (by decide) wf_X11_146 (Or.inr ⟨rfl, hin, rfl⟩) rfl rfl dX11_init_408 hlen hf (fun hf => ?_)
  refine ik_aload_n (pc := 411) X dX11_init_411 rfl ?_
  refine ik_sipush (pc := 412) X dX11_init_412 sc_24000 ?_
  refine ik_newI (pc := 415) X 24000 (by decide) (by decide) (by decide) dX11_init_415 (bc' := 11) (bs' := 1635012) rfl rfl (fun q47 => ?_)
  refine ik_put (pc := 417) X 60 tyX11 tyX11_ok nmX11 rfl wx_X11 (by decide) wf_X11_149 (Or.inr ⟨rfl, hin, rfl⟩) rfl rfl dX11_init_417 hlen hf (fun hf => ?_)
  refine ik_aload_n (pc := 420) X dX11_init_420 rfl ?_
  refine ik_sipush (pc := 421) X dX11_init_421 sc_24000 ?_
  refine ik_newI (pc := 424) X 24000 (by decide) (by decide) (by decide) dX11_init_424 (bc' := 10) (bs' := 1611012) rfl rfl (fun q48 => ?_)
  refine ik_put (pc := 426) X 61 tyX11 tyX11_ok nmX11 rfl wx_X11 (by decide) wf_X11_152 (Or.inr ⟨rfl, hin, rfl⟩) rfl rfl dX11_init_426 hlen hf (fun hf => ?_)
  refine ik_aload_n (pc := 429) X dX11_init_429 rfl ?_
  refine ik_sipush (pc := 430) X dX11_init_430 sc_24000 ?_
  refine ik_newI (pc := 433) X 24000 (by decide) (by decide) (by decide) dX11_init_433 (bc' := 9) (bs' := 1587012) rfl rfl (fun q49 => ?_)
  refine ik_put (pc := 435) X 62 tyX11 tyX11_ok nmX11 rfl wx_X11 (by decide) wf_X11_155 (Or.inr ⟨rfl, hin, rfl⟩) rfl rfl dX11_init_435 hlen hf (fun hf => ?_)
  refine ik_aload_n (pc := 438) X dX11_init_438 rfl ?_
  refine ik_sipush (pc := 439) X dX11_init_439 sc_24000 ?_
  refine ik_newI (pc := 442) X 24000 (by decide) (by decide) (by decide) dX11_init_442 (bc' := 8) (bs' := 1563012) rfl rfl (fun q50 => ?_)
  refine ik_put (pc := 444) X 63 tyX11 tyX11_ok nmX11 rfl wx_X11 (by decide) wf_X11_158 (Or.inr ⟨rfl, hin, rfl⟩) rfl rfl dX11_init_444 hlen hf (fun hf => ?_)
  refine ik_aload_n (pc := 447) X dX11_init_447 rfl ?_
  refine ik_ldc (pc := 448) X wk_X11_161 dX11_init_448 ?_
  refine ik_newI (pc := 450) X 520000 (by decide) (by decide) (by decide) dX11_init_450 (bc' := 7) (bs' := 1043012) rfl rfl (fun q51 => ?_)
  refine ik_put (pc := 452) X 65 tyX11 tyX11_ok nmX11 rfl wx_X11 (by decide) wf_X11_162 (Or.inr ⟨rfl, hin, rfl⟩) rfl rfl dX11_init_452 hlen hf (fun hf => ?_)
  refine ik_aload_n (pc := 455) X dX11_init_455 rfl ?_
  refine ik_ldc (pc := 456) X wk_X11_161 dX11_init_456 ?_
  refine ik_newJ (pc := 458) X 520000 (by decide) (by decide) (by decide) dX11_init_458 (bc' := 6) (bs' := 523012) rfl rfl (fun q52 => ?_)
  refine ik_put (pc := 460) X 66 tyX11 tyX11_ok nmX11 rfl wx_X11 (by decide) wf_X11_165 (Or.inr ⟨rfl, hin, rfl⟩) rfl rfl dX11_init_460 hlen hf (fun hf => ?_)
  refine ik_aload_n (pc := 463) X dX11_init_463 rfl ?_
  refine ik_ldc (pc := 464) X wk_X11_161 dX11_init_464 ?_
  refine ik_newI (pc := 466) X 520000 (by decide) (by decide) (by decide) dX11_init_466 (bc' := 5) (bs' := 3012) rfl rfl (fun q53 => ?_)
  refine ik_put (pc := 468) X 67 tyX11 tyX11_ok nmX11 rfl wx_X11 (by decide) wf_X11_168 (Or.inr ⟨rfl, hin, rfl⟩) rfl rfl dX11_init_468 hlen hf (fun hf => ?_)
  refine ik_aload_n (pc := 471) X dX11_init_471 rfl ?_
  refine ik_sipush (pc := 472) X dX11_init_472 sc_1002 ?_
  refine ik_newI (pc := 475) X 1002 (by decide) (by decide) (by decide) dX11_init_475 (bc' := 4) (bs' := 2010) rfl rfl (fun q54 => ?_)
  refine ik_put (pc := 477) X 69 tyX11 tyX11_ok nmX11 rfl wx_X11 (by decide) wf_X11_171 (Or.inr ⟨rfl, hin, rfl⟩) rfl rfl dX11_init_477 hlen hf (fun hf => ?_)
  refine ik_aload_n (pc := 480) X dX11_init_480 rfl ?_
  refine ik_sipush (pc := 481) X dX11_init_481 sc_1002 ?_
  refine ik_newI (pc := 484) X 1002 (by decide) (by decide) (by decide) dX11_init_484 (bc' := 3) (bs' := 1008) rfl rfl (fun q55 => ?_)
  refine ik_put (pc := 486) X 70 tyX11 tyX11_ok nmX11 rfl wx_X11 (by decide) wf_X11_174 (Or.inr ⟨rfl, hin, rfl⟩) rfl rfl dX11_init_486 hlen hf (fun hf => ?_)
  refine ik_aload_n (pc := 489) X dX11_init_489 rfl ?_
  refine ik_iconst (pc := 490) X dX11_init_490 ic_4 ?_
  refine ik_newJ (pc := 491) X 4 (by decide) (by decide) (by decide) dX11_init_491 (bc' := 2) (bs' := 1004) rfl rfl (fun q56 => ?_)
  refine ik_put (pc := 493) X 71 tyX11 tyX11_ok nmX11 rfl wx_X11 (by decide) wf_X11_177 (Or.inr ⟨rfl, hin, rfl⟩) rfl rfl dX11_init_493 hlen hf (fun hf => ?_)
  refine ik_aload_n (pc := 496) X dX11_init_496 rfl ?_
  refine ik_sipush (pc := 497) X dX11_init_497 sc_502 ?_
  refine ik_newI (pc := 500) X 502 (by decide) (by decide) (by decide) dX11_init_500 (bc' := 1) (bs' := 502) rfl rfl (fun q57 => ?_)
  refine ik_put (pc := 502) X 79 tyX11 tyX11_ok nmX11 rfl wx_X11 (by decide) wf_X11_180 (Or.inr ⟨rfl, hin, rfl⟩) rfl rfl dX11_init_502 hlen hf (fun hf => ?_)
  refine ik_aload_n (pc := 505) X dX11_init_505 rfl ?_
  refine ik_sipush (pc := 506) X dX11_init_506 sc_502 ?_
  refine ik_newI (pc := 509) X 502 (by decide) (by decide) (by decide) dX11_init_509 (bc' := 0) (bs' := 0) rfl rfl (fun q58 => ?_)
  refine ik_put (pc := 511) X 80 tyX11 tyX11_ok nmX11 rfl wx_X11 (by decide) wf_X11_183 (Or.inr ⟨rfl, hin, rfl⟩) rfl rfl dX11_init_511 hlen hf (fun hf => ?_)
  refine ik_vret (pc := 514) X dX11_init_514 (fun M' h => ⟨rfl, (fun i => List.getD [q1, q2, q3, q4, q5, q6, q7, q8, q9, q10, q11, q12, q13, q14, q15, q16, q17, q18, q19, q20, q21, q22, q23, q24, q25, q26, q27, q28, q29, q30, q31, q32, q33, q34, q35, q36, q37, q38, q39, q40, q41, q42, q43, q44, q45, q46, q47, q48, q49, q50, q51, q52, q53, q54, q55, q56, q57, q58] i 0), ?_⟩)
  generalize hq : (fun i => List.getD [q1, q2, q3, q4, q5, q6, q7, q8, q9, q10, q11, q12, q13, q14, q15, q16, q17, q18, q19, q20, q21, q22, q23, q24, q25, q26, q27, q28, q29, q30, q31, q32, q33, q34, q35, q36, q37, q38, q39, q40, q41, q42, q43, q44, q45, q46, q47, q48, q49, q50, q51, q52, q53, q54, q55, q56, q57, q58] i 0) = q
  have a0 : q 0 = q1 := by rw [← hq]; rfl
  have a1 : q 1 = q2 := by rw [← hq]; rfl
  have a2 : q 2 = q3 := by rw [← hq]; rfl
  have a3 : q 3 = q4 := by rw [← hq]; rfl
  have a4 : q 4 = q5 := by rw [← hq]; rfl
  have a5 : q 5 = q6 := by rw [← hq]; rfl
  have a6 : q 6 = q7 := by rw [← hq]; rfl
  have a7 : q 7 = q8 := by rw [← hq]; rfl
  have a8 : q 8 = q9 := by rw [← hq]; rfl
  have a9 : q 9 = q10 := by rw [← hq]; rfl
  have a10 : q 10 = q11 := by rw [← hq]; rfl
  have a11 : q 11 = q12 := by rw [← hq]; rfl
  have a12 : q 12 = q13 := by rw [← hq]; rfl
  have a13 : q 13 = q14 := by rw [← hq]; rfl
  have a14 : q 14 = q15 := by rw [← hq]; rfl
  have a15 : q 15 = q16 := by rw [← hq]; rfl
  have a16 : q 16 = q17 := by rw [← hq]; rfl
  have a17 : q 17 = q18 := by rw [← hq]; rfl
  have a18 : q 18 = q19 := by rw [← hq]; rfl
  have a19 : q 19 = q20 := by rw [← hq]; rfl
  have a20 : q 20 = q21 := by rw [← hq]; rfl
  have a21 : q 21 = q22 := by rw [← hq]; rfl
  have a22 : q 22 = q23 := by rw [← hq]; rfl
  have a23 : q 23 = q24 := by rw [← hq]; rfl
  have a24 : q 24 = q25 := by rw [← hq]; rfl
  have a25 : q 25 = q26 := by rw [← hq]; rfl
  have a26 : q 26 = q27 := by rw [← hq]; rfl
  have a27 : q 27 = q28 := by rw [← hq]; rfl
  have a28 : q 28 = q29 := by rw [← hq]; rfl
  have a29 : q 29 = q30 := by rw [← hq]; rfl
  have a30 : q 30 = q31 := by rw [← hq]; rfl
  have a31 : q 31 = q32 := by rw [← hq]; rfl
  have a32 : q 32 = q33 := by rw [← hq]; rfl
  have a33 : q 33 = q34 := by rw [← hq]; rfl
  have a34 : q 34 = q35 := by rw [← hq]; rfl
  have a35 : q 35 = q36 := by rw [← hq]; rfl
  have a36 : q 36 = q37 := by rw [← hq]; rfl
  have a37 : q 37 = q38 := by rw [← hq]; rfl
  have a38 : q 38 = q39 := by rw [← hq]; rfl
  have a39 : q 39 = q40 := by rw [← hq]; rfl
  have a40 : q 40 = q41 := by rw [← hq]; rfl
  have a41 : q 41 = q42 := by rw [← hq]; rfl
  have a42 : q 42 = q43 := by rw [← hq]; rfl
  have a43 : q 43 = q44 := by rw [← hq]; rfl
  have a44 : q 44 = q45 := by rw [← hq]; rfl
  have a45 : q 45 = q46 := by rw [← hq]; rfl
  have a46 : q 46 = q47 := by rw [← hq]; rfl
  have a47 : q 47 = q48 := by rw [← hq]; rfl
  have a48 : q 48 = q49 := by rw [← hq]; rfl
  have a49 : q 49 = q50 := by rw [← hq]; rfl
  have a50 : q 50 = q51 := by rw [← hq]; rfl
  have a51 : q 51 = q52 := by rw [← hq]; rfl
  have a52 : q 52 = q53 := by rw [← hq]; rfl
  have a53 : q 53 = q54 := by rw [← hq]; rfl
  have a54 : q 54 = q55 := by rw [← hq]; rfl
  have a55 : q 55 = q56 := by rw [← hq]; rfl
  have a56 : q 56 = q57 := by rw [← hq]; rfl
  have a57 : q 57 = q58 := by rw [← hq]; rfl
  simp only [al_X11c, fs_X11, ct_X11, ct_X11_0, ct_X11_1, a0, a1, a2, a3, a4, a5, a6, a7, a8, a9, a10, a11, a12, a13, a14, a15, a16, a17, a18, a19, a20, a21, a22, a23, a24, a25, a26, a27, a28, a29, a30, a31, a32, a33, a34, a35, a36, a37, a38, a39, a40, a41, a42, a43, a44, a45, a46, a47, a48, a49, a50, a51, a52, a53, a54, a55, a56, a57]
  simp only [List.nil_append, List.cons_append, List.set_cons_succ, List.set_cons_zero] at h ⊢
  exact h
