/-! written by program (wip/whole/walk.py): methods as functions, and their contracts -/
def f_X11_readFunction_L101 (fu : Nat) : Nat → Int32 → im_S → Option (Int32 × im_S)
  | 0, _, _ => none
  | nf + 1, z1, S => gd (in_b z1 16) (if ((S.1 99) z1.toNatClampNeg : Int32) ≠ 4 then (gd (in_b z1 16) (gd (in_b (S.1 75 10) 502) (gd (in_b ((4 * z1) + ((S.1 99) z1.toNatClampNeg)) 64) (gd (in_b z1 16) (gd (in_b (S.1 75 10) 502) (gd (in_b ((4 * z1) + ((S.1 99) z1.toNatClampNeg)) 64) ((f_X11_wantName (uI (uJ S 100 (((4 * z1) + ((S.1 99) z1.toNatClampNeg)).toNatClampNeg) ((S.2.1 80) ((S.1 75 10).toNatClampNeg))) 101 (((4 * z1) + ((S.1 99) z1.toNatClampNeg)).toNatClampNeg) ((S.1 79) ((S.1 75 10).toNatClampNeg)))).bind (fun qS2 => if (qS2.1 : Int32) ≠ 0 then (gd (in_b z1 16) (gd (in_b z1 16) ((f_X11_isSign 44 (uI qS2.2 99 z1.toNatClampNeg (((qS2.2.1 99) z1.toNatClampNeg) + 1))).bind (fun qS6 => (f_X11_takes qS6.1 qS6.2).bind (fun qS9 => if (qS9.1 : Int32) ≠ 0 then (f_X11_readFunction_L101 fu nf z1 qS9.2) else ((f_X11_isSign 41 qS9.2).bind (fun qS13 => (f_X11_want qS13.1 qS13.2).bind (fun qS16 => if (qS16.1 : Int32) ≠ 0 then ((f_X11_isSign 61 qS16.2).bind (fun qS20 => (f_X11_want qS20.1 qS20.2).bind (fun qS23 => if (qS23.1 : Int32) ≠ 0 then ((g_X11_readX fu qS23.2).bind (fun qS27 => gd (in_b z1 16) (gd (in_b z1 16) (if ((upd (qS27.2.1 102) z1.toNatClampNeg qS27.1) z1.toNatClampNeg : Int32) = (-1) then (some (0, (uI (uI qS27.2 102 z1.toNatClampNeg qS27.1) 75 36 ((qS27.2.1 75 36) + 1)))) else ((f_X11_isSign 59 (uI (uI qS27.2 102 z1.toNatClampNeg qS27.1) 75 36 ((qS27.2.1 75 36) + 1))).bind (fun qS31 => (f_X11_want qS31.1 qS31.2).bind (fun qS34 => if (qS34.1 : Int32) = 0 then (some (0, qS34.2)) else (some (1, qS34.2))))))))) else (some (0, qS23.2))))) else (some (0, qS16.2)))))))))) else (some (0, qS2.2)))))))))) else ((f_X11_refuse S).bind (fun qS38 => gd (z_b qS38.1) (some (qS38.1, qS38.2)))))
set_option maxHeartbeats 4000000 in
set_option maxRecDepth 100000 in
theorem f_X11_readFunction_L101_w {fu : Nat} (l : Launch) (g : im_G) (ad : Nat → Nat) {p : Program} {e : Env} {s : State} {m : MethodId} {below : List Frame} {meth : Method} {c : Code} {args : Array Value} (X : im_X p l s m args meth c g cX11_readFunction 2 RX11 (some Jvm.ClassFile.FieldType.boolean)) : ∀ (nf : Nat) (z1 : Int32) (S : im_S) (r : Int32) (S' : im_S), f_X11_readFunction_L101 fu nf z1 S = some (r, S') → im_V p l e (im_R 1804 0 0) s m args below meth c g 2 (im_Z below g ad args s (some (.int r)) S') ad im_N (im_cn g ad S) 0 0 101 [(0, .ref (ad 75)), (1, .int z1)] [] := by
  intro nf
  induction nf with
  | zero =>
    intro z1 S r S' hm
    cases hm
  | succ nf ih =>
    intro z1 S r S' hm
    unfold f_X11_readFunction_L101 at hm
    refine iv_aload_n (pc := 101) X dX11_readFunction_101 rfl ?_
    refine gF_X11_80_75 (pc := 102) X dX11_readFunction_102 ?_
    refine iv_iload_n (pc := 105) X dX11_readFunction_105 rfl ?_
    obtain ⟨hg, hm⟩ := gd_some hm
    refine aL_99 (pc := 106) X dX11_readFunction_106 hg (x := (S.1 99) z1.toNatClampNeg) rfl ?_
    refine iv_iconst (pc := 107) X dX11_readFunction_107 ic_4 ?_
    refine iv_icmp_ne (pc := 108) X dX11_readFunction_108 (tgt := 116) rfl (fun hb1 => ?_) (fun hb1 => ?_)
    · rw [if_pos hb1] at hm
      refine iv_aload_n (pc := 116) X dX11_readFunction_116 rfl ?_
      refine gF_X11_83_75 (pc := 117) X dX11_readFunction_117 ?_
      refine iv_iconst (pc := 120) X dX11_readFunction_120 ic_4 ?_
      refine iv_iload_n (pc := 121) X dX11_readFunction_121 rfl ?_
      refine iv_imul (pc := 122) X dX11_readFunction_122 ?_
      refine iv_aload_n (pc := 123) X dX11_readFunction_123 rfl ?_
      refine gF_X11_80_75 (pc := 124) X dX11_readFunction_124 ?_
      refine iv_iload_n (pc := 127) X dX11_readFunction_127 rfl ?_
      obtain ⟨hg, hm⟩ := gd_some hm
      refine aL_99 (pc := 128) X dX11_readFunction_128 hg (x := (S.1 99) z1.toNatClampNeg) rfl ?_
      refine iv_iadd (pc := 129) X dX11_readFunction_129 ?_
      refine iv_aload_n (pc := 130) X dX11_readFunction_130 rfl ?_
      refine gF_X11_22_75 (pc := 131) X dX11_readFunction_131 ?_
      refine iv_aload_n (pc := 134) X dX11_readFunction_134 rfl ?_
      refine gF_X11_231_75 (pc := 135) X dX11_readFunction_135 (x := S.1 75 10) rfl ?_
      obtain ⟨hg, hm⟩ := gd_some hm
      refine aL_80 (pc := 138) X dX11_readFunction_138 hg (x := (S.2.1 80) ((S.1 75 10).toNatClampNeg)) rfl ?_
      obtain ⟨hg, hm⟩ := gd_some hm
      refine aS_100 (pc := 139) X dX11_readFunction_139 hg ?_
      refine iv_aload_n (pc := 140) X dX11_readFunction_140 rfl ?_
      refine gF_X11_86_75 (pc := 141) X dX11_readFunction_141 ?_
      refine iv_iconst (pc := 144) X dX11_readFunction_144 ic_4 ?_
      refine iv_iload_n (pc := 145) X dX11_readFunction_145 rfl ?_
      refine iv_imul (pc := 146) X dX11_readFunction_146 ?_
      refine iv_aload_n (pc := 147) X dX11_readFunction_147 rfl ?_
      refine gF_X11_80_75 (pc := 148) X dX11_readFunction_148 ?_
      refine iv_iload_n (pc := 151) X dX11_readFunction_151 rfl ?_
      obtain ⟨hg, hm⟩ := gd_some hm
      refine aL_99 (pc := 152) X dX11_readFunction_152 hg (x := (S.1 99) z1.toNatClampNeg) rfl ?_
      refine iv_iadd (pc := 153) X dX11_readFunction_153 ?_
      refine iv_aload_n (pc := 154) X dX11_readFunction_154 rfl ?_
      refine gF_X11_19_75 (pc := 155) X dX11_readFunction_155 ?_
      refine iv_aload_n (pc := 158) X dX11_readFunction_158 rfl ?_
      refine gF_X11_231_75 (pc := 159) X dX11_readFunction_159 (x := S.1 75 10) rfl ?_
      obtain ⟨hg, hm⟩ := gd_some hm
      refine aL_79 (pc := 162) X dX11_readFunction_162 hg (x := (S.1 79) ((S.1 75 10).toNatClampNeg)) rfl ?_
      obtain ⟨hg, hm⟩ := gd_some hm
      refine aS_101 (pc := 163) X dX11_readFunction_163 hg ?_
      refine iv_aload_n (pc := 164) X dX11_readFunction_164 rfl ?_
      obtain ⟨⟨r3, S2⟩, hc4, hm⟩ := bd_some hm
      refine cV_X11_280_75 (pc := 165) X [] [] 0 rfl (f_X11_wantName_e l g ad  (uI (uJ S 100 (((4 * z1) + ((S.1 99) z1.toNatClampNeg)).toNatClampNeg) ((S.2.1 80) ((S.1 75 10).toNatClampNeg))) 101 (((4 * z1) + ((S.1 99) z1.toNatClampNeg)).toNatClampNeg) ((S.1 79) ((S.1 75 10).toNatClampNeg))) _ _ hc4) (by decide) (by decide) (Nat.le_of_ble_eq_true rfl) rfl dX11_readFunction_165 ?_
      refine iv_if_ne (pc := 168) X dX11_readFunction_168 (tgt := 173) rfl (fun hb5 => ?_) (fun hb5 => ?_)
      · rw [if_pos hb5] at hm
        refine iv_aload_n (pc := 173) X dX11_readFunction_173 rfl ?_
        refine gF_X11_80_75 (pc := 174) X dX11_readFunction_174 ?_
        refine iv_iload_n (pc := 177) X dX11_readFunction_177 rfl ?_
        refine iv_dup2_11 (pc := 178) X dX11_readFunction_178 rfl rfl ?_
        obtain ⟨hg, hm⟩ := gd_some hm
        refine aL_99 (pc := 179) X dX11_readFunction_179 hg (x := (S2.1 99) z1.toNatClampNeg) rfl ?_
        refine iv_iconst (pc := 180) X dX11_readFunction_180 ic_1 ?_
        refine iv_iadd (pc := 181) X dX11_readFunction_181 ?_
        obtain ⟨hg, hm⟩ := gd_some hm
        refine aS_99 (pc := 182) X dX11_readFunction_182 hg ?_
        refine iv_aload_n (pc := 183) X dX11_readFunction_183 rfl ?_
        refine iv_aload_n (pc := 184) X dX11_readFunction_184 rfl ?_
        refine iv_bipush (pc := 185) X dX11_readFunction_185 bc_44 ?_
        obtain ⟨⟨r7, S6⟩, hc8, hm⟩ := bd_some hm
        refine cV_X11_283_75 (pc := 187) X [.int 44] [.ref (ad 75)] 1 rfl (f_X11_isSign_e l g ad 44 (uI S2 99 z1.toNatClampNeg (((S2.1 99) z1.toNatClampNeg) + 1)) _ _ hc8) (by decide) (by decide) (Nat.le_of_ble_eq_true rfl) rfl dX11_readFunction_187 ?_
        obtain ⟨⟨r10, S9⟩, hc11, hm⟩ := bd_some hm
        refine cV_X11_237_75 (pc := 190) X [.int r7] [] 1 rfl (f_X11_takes_e l g ad r7 S6 _ _ hc11) (by decide) (by decide) (Nat.le_of_ble_eq_true rfl) rfl dX11_readFunction_190 ?_
        refine iv_if_ne (pc := 193) X dX11_readFunction_193 (tgt := 101) rfl (fun hb12 => ?_) (fun hb12 => ?_)
        · rw [if_pos hb12] at hm
          exact ih z1 S9 _ _ hm
        · rw [if_neg hb12] at hm
          refine iv_aload_n (pc := 196) X dX11_readFunction_196 rfl ?_
          refine iv_aload_n (pc := 197) X dX11_readFunction_197 rfl ?_
          refine iv_bipush (pc := 198) X dX11_readFunction_198 bc_41 ?_
          obtain ⟨⟨r14, S13⟩, hc15, hm⟩ := bd_some hm
          refine cV_X11_283_75 (pc := 200) X [.int 41] [.ref (ad 75)] 1 rfl (f_X11_isSign_e l g ad 41 S9 _ _ hc15) (by decide) (by decide) (Nat.le_of_ble_eq_true rfl) rfl dX11_readFunction_200 ?_
          obtain ⟨⟨r17, S16⟩, hc18, hm⟩ := bd_some hm
          refine cV_X11_245_75 (pc := 203) X [.int r14] [] 1 rfl (f_X11_want_e l g ad r14 S13 _ _ hc18) (by decide) (by decide) (Nat.le_of_ble_eq_true rfl) rfl dX11_readFunction_203 ?_
          refine iv_if_ne (pc := 206) X dX11_readFunction_206 (tgt := 211) rfl (fun hb19 => ?_) (fun hb19 => ?_)
          · rw [if_pos hb19] at hm
            refine iv_aload_n (pc := 211) X dX11_readFunction_211 rfl ?_
            refine iv_aload_n (pc := 212) X dX11_readFunction_212 rfl ?_
            refine iv_bipush (pc := 213) X dX11_readFunction_213 bc_61 ?_
            obtain ⟨⟨r21, S20⟩, hc22, hm⟩ := bd_some hm
            refine cV_X11_283_75 (pc := 215) X [.int 61] [.ref (ad 75)] 1 rfl (f_X11_isSign_e l g ad 61 S16 _ _ hc22) (by decide) (by decide) (Nat.le_of_ble_eq_true rfl) rfl dX11_readFunction_215 ?_
            obtain ⟨⟨r24, S23⟩, hc25, hm⟩ := bd_some hm
            refine cV_X11_245_75 (pc := 218) X [.int r21] [] 1 rfl (f_X11_want_e l g ad r21 S20 _ _ hc25) (by decide) (by decide) (Nat.le_of_ble_eq_true rfl) rfl dX11_readFunction_218 ?_
            refine iv_if_ne (pc := 221) X dX11_readFunction_221 (tgt := 226) rfl (fun hb26 => ?_) (fun hb26 => ?_)
            · rw [if_pos hb26] at hm
              refine iv_aload_n (pc := 226) X dX11_readFunction_226 rfl ?_
              refine gF_X11_89_75 (pc := 227) X dX11_readFunction_227 ?_
              refine iv_iload_n (pc := 230) X dX11_readFunction_230 rfl ?_
              refine iv_aload_n (pc := 231) X dX11_readFunction_231 rfl ?_
              obtain ⟨⟨r28, S27⟩, hc29, hm⟩ := bd_some hm
              refine cV_X11_257_75 (pc := 232) X [] [.int z1, .ref (ad 102)] 0 rfl (g_X11_readX_e l g ad fu  S23 _ _ hc29) (by decide) (by decide) (Nat.le_of_ble_eq_true rfl) rfl dX11_readFunction_232 ?_
              obtain ⟨hg, hm⟩ := gd_some hm
              refine aS_102 (pc := 235) X dX11_readFunction_235 hg ?_
              refine iv_aload_n (pc := 236) X dX11_readFunction_236 rfl ?_
              refine iv_dup (pc := 237) X dX11_readFunction_237 rfl ?_
              refine gF_X11_314_75 (pc := 238) X dX11_readFunction_238 (x := S27.1 75 36) rfl ?_
              refine iv_iconst (pc := 241) X dX11_readFunction_241 ic_1 ?_
              refine iv_iadd (pc := 242) X dX11_readFunction_242 ?_
              refine pF_X11_314_75 (pc := 243) X dX11_readFunction_243 ?_
              refine iv_aload_n (pc := 246) X dX11_readFunction_246 rfl ?_
              refine gF_X11_89_75 (pc := 247) X dX11_readFunction_247 ?_
              refine iv_iload_n (pc := 250) X dX11_readFunction_250 rfl ?_
              obtain ⟨hg, hm⟩ := gd_some hm
              refine aL_102 (pc := 251) X dX11_readFunction_251 hg (x := (upd (S27.1 102) z1.toNatClampNeg r28) z1.toNatClampNeg) rfl ?_
              refine iv_iconst (pc := 252) X dX11_readFunction_252 ic_m1 ?_
              refine iv_icmp_eq (pc := 253) X dX11_readFunction_253 (tgt := 273) rfl (fun hb30 => ?_) (fun hb30 => ?_)
              · rw [if_pos hb30] at hm
                refine iv_iconst (pc := 273) X dX11_readFunction_273 ic_0 ?_
                cases hm
                exact is_zret (pc := 274) X dX11_readFunction_274 rfl
              · rw [if_neg hb30] at hm
                refine iv_aload_n (pc := 256) X dX11_readFunction_256 rfl ?_
                refine iv_aload_n (pc := 257) X dX11_readFunction_257 rfl ?_
                refine iv_bipush (pc := 258) X dX11_readFunction_258 bc_59 ?_
                obtain ⟨⟨r32, S31⟩, hc33, hm⟩ := bd_some hm
                refine cV_X11_283_75 (pc := 260) X [.int 59] [.ref (ad 75)] 1 rfl (f_X11_isSign_e l g ad 59 (uI (uI S27 102 z1.toNatClampNeg r28) 75 36 ((S27.1 75 36) + 1)) _ _ hc33) (by decide) (by decide) (Nat.le_of_ble_eq_true rfl) rfl dX11_readFunction_260 ?_
                obtain ⟨⟨r35, S34⟩, hc36, hm⟩ := bd_some hm
                refine cV_X11_245_75 (pc := 263) X [.int r32] [] 1 rfl (f_X11_want_e l g ad r32 S31 _ _ hc36) (by decide) (by decide) (Nat.le_of_ble_eq_true rfl) rfl dX11_readFunction_263 ?_
                refine iv_if_eq (pc := 266) X dX11_readFunction_266 (tgt := 273) rfl (fun hb37 => ?_) (fun hb37 => ?_)
                · rw [if_pos hb37] at hm
                  refine iv_iconst (pc := 273) X dX11_readFunction_273 ic_0 ?_
                  cases hm
                  exact is_zret (pc := 274) X dX11_readFunction_274 rfl
                · rw [if_neg hb37] at hm
                  refine iv_iconst (pc := 269) X dX11_readFunction_269 ic_1 ?_
                  refine iv_goto (pc := 270) X dX11_readFunction_270 (tgt := 274) rfl ?_
                  cases hm
                  exact is_zret (pc := 274) X dX11_readFunction_274 rfl
            · rw [if_neg hb26] at hm
              refine iv_iconst (pc := 224) X dX11_readFunction_224 ic_0 ?_
              cases hm
              exact is_zret (pc := 225) X dX11_readFunction_225 rfl
          · rw [if_neg hb19] at hm
            refine iv_iconst (pc := 209) X dX11_readFunction_209 ic_0 ?_
            cases hm
            exact is_zret (pc := 210) X dX11_readFunction_210 rfl
      · rw [if_neg hb5] at hm
        refine iv_iconst (pc := 171) X dX11_readFunction_171 ic_0 ?_
        cases hm
        exact is_zret (pc := 172) X dX11_readFunction_172 rfl
    · rw [if_neg hb1] at hm
      refine iv_aload_n (pc := 111) X dX11_readFunction_111 rfl ?_
      obtain ⟨⟨r39, S38⟩, hc40, hm⟩ := bd_some hm
      refine cV_X11_241_75 (pc := 112) X [] [] 0 rfl (f_X11_refuse_e l g ad  S _ _ hc40) (by decide) (by decide) (Nat.le_of_ble_eq_true rfl) rfl dX11_readFunction_112 ?_
      obtain ⟨hg, hm⟩ := gd_some hm
      cases hm
      exact is_zret (pc := 115) X dX11_readFunction_115 (z_b_n hg)
def f_X11_readFunction (fu : Nat) (S : im_S) : Option (Int32 × im_S) := if (S.1 75 36 : Int32) ≠ 8 then (gd (in_b (S.1 75 10) 502) (gd (in_b ((8 * (1 - (S.1 75 37))) + (S.1 75 36)) 16) (gd (in_b (S.1 75 10) 502) (gd (in_b ((8 * (1 - (S.1 75 37))) + (S.1 75 36)) 16) (gd (in_b ((8 * (1 - (S.1 75 37))) + (S.1 75 36)) 16) ((f_X11_wantName (uI (uI (uJ S 97 (((8 * (1 - (S.1 75 37))) + (S.1 75 36)).toNatClampNeg) ((S.2.1 80) ((S.1 75 10).toNatClampNeg))) 98 (((8 * (1 - (S.1 75 37))) + (S.1 75 36)).toNatClampNeg) ((S.1 79) ((S.1 75 10).toNatClampNeg))) 99 (((8 * (1 - (S.1 75 37))) + (S.1 75 36)).toNatClampNeg) 0)).bind (fun qS2 => if (qS2.1 : Int32) = 0 then (some (0, qS2.2)) else ((f_X11_isSign 40 qS2.2).bind (fun qS6 => (f_X11_want qS6.1 qS6.2).bind (fun qS9 => if (qS9.1 : Int32) ≠ 0 then ((f_X11_isSign 41 qS9.2).bind (fun qS13 => (f_X11_takes qS13.1 qS13.2).bind (fun qS16 => if (qS16.1 : Int32) ≠ 0 then ((f_X11_isSign 61 qS16.2).bind (fun qS20 => (f_X11_want qS20.1 qS20.2).bind (fun qS23 => if (qS23.1 : Int32) ≠ 0 then ((g_X11_readX fu qS23.2).bind (fun qS27 => gd (in_b ((8 * (1 - (S.1 75 37))) + (S.1 75 36)) 16) (gd (in_b ((8 * (1 - (S.1 75 37))) + (S.1 75 36)) 16) (if ((upd (qS27.2.1 102) (((8 * (1 - (S.1 75 37))) + (S.1 75 36)).toNatClampNeg) qS27.1) (((8 * (1 - (S.1 75 37))) + (S.1 75 36)).toNatClampNeg) : Int32) = (-1) then (some (0, (uI (uI qS27.2 102 (((8 * (1 - (S.1 75 37))) + (S.1 75 36)).toNatClampNeg) qS27.1) 75 36 ((qS27.2.1 75 36) + 1)))) else ((f_X11_isSign 59 (uI (uI qS27.2 102 (((8 * (1 - (S.1 75 37))) + (S.1 75 36)).toNatClampNeg) qS27.1) 75 36 ((qS27.2.1 75 36) + 1))).bind (fun qS31 => (f_X11_want qS31.1 qS31.2).bind (fun qS34 => if (qS34.1 : Int32) = 0 then (some (0, qS34.2)) else (some (1, qS34.2))))))))) else (some (0, qS23.2))))) else (f_X11_readFunction_L101 fu fu ((8 * (1 - (S.1 75 37))) + (S.1 75 36)) qS16.2)))) else (some (0, qS9.2)))))))))))) else ((f_X11_refuse S).bind (fun qS38 => gd (z_b qS38.1) (some (qS38.1, qS38.2))))
set_option maxHeartbeats 4000000 in
set_option maxRecDepth 100000 in
theorem f_X11_readFunction_e (l : Launch) (g : im_G) (ad : Nat → Nat) (fu : Nat) (S : im_S) (r : Int32) (S' : im_S) (hm : f_X11_readFunction fu  S = some (r, S')) : im_E l g ad 1804 yX11_readFunction cX11_readFunction 2 (some Jvm.ClassFile.FieldType.boolean) [.ref (ad 75)] S (some (.int r)) S' := by
  unfold f_X11_readFunction at hm
  refine is_met (own := RX11) (by decide +kernel) rfl (Nat.le_of_ble_eq_true rfl) (fun p e s m below meth c X => ?_)
  refine iv_aload_n (pc := 0) X dX11_readFunction_0 rfl ?_
  refine gF_X11_314_75 (pc := 1) X dX11_readFunction_1 (x := S.1 75 36) rfl ?_
  refine iv_bipush (pc := 4) X dX11_readFunction_4 bc_8 ?_
  refine iv_icmp_ne (pc := 6) X dX11_readFunction_6 (tgt := 14) rfl (fun hb1 => ?_) (fun hb1 => ?_)
  · rw [if_pos hb1] at hm
    refine iv_bipush (pc := 14) X dX11_readFunction_14 bc_8 ?_
    refine iv_iconst (pc := 16) X dX11_readFunction_16 ic_1 ?_
    refine iv_aload_n (pc := 17) X dX11_readFunction_17 rfl ?_
    refine gF_X11_317_75 (pc := 18) X dX11_readFunction_18 (x := S.1 75 37) rfl ?_
    refine iv_isub (pc := 21) X dX11_readFunction_21 ?_
    refine iv_imul (pc := 22) X dX11_readFunction_22 ?_
    refine iv_aload_n (pc := 23) X dX11_readFunction_23 rfl ?_
    refine gF_X11_314_75 (pc := 24) X dX11_readFunction_24 (x := S.1 75 36) rfl ?_
    refine iv_iadd (pc := 27) X dX11_readFunction_27 ?_
    refine iv_istore_n (pc := 28) X dX11_readFunction_28 (by decide) (lv' := [(1, .int ((8 * (1 - (S.1 75 37))) + (S.1 75 36))), (0, .ref (ad 75))]) rfl ?_
    refine iv_aload_n (pc := 29) X dX11_readFunction_29 rfl ?_
    refine gF_X11_74_75 (pc := 30) X dX11_readFunction_30 ?_
    refine iv_iload_n (pc := 33) X dX11_readFunction_33 rfl ?_
    refine iv_aload_n (pc := 34) X dX11_readFunction_34 rfl ?_
    refine gF_X11_22_75 (pc := 35) X dX11_readFunction_35 ?_
    refine iv_aload_n (pc := 38) X dX11_readFunction_38 rfl ?_
    refine gF_X11_231_75 (pc := 39) X dX11_readFunction_39 (x := S.1 75 10) rfl ?_
    obtain ⟨hg, hm⟩ := gd_some hm
    refine aL_80 (pc := 42) X dX11_readFunction_42 hg (x := (S.2.1 80) ((S.1 75 10).toNatClampNeg)) rfl ?_
    obtain ⟨hg, hm⟩ := gd_some hm
    refine aS_97 (pc := 43) X dX11_readFunction_43 hg ?_
    refine iv_aload_n (pc := 44) X dX11_readFunction_44 rfl ?_
    refine gF_X11_77_75 (pc := 45) X dX11_readFunction_45 ?_
    refine iv_iload_n (pc := 48) X dX11_readFunction_48 rfl ?_
    refine iv_aload_n (pc := 49) X dX11_readFunction_49 rfl ?_
    refine gF_X11_19_75 (pc := 50) X dX11_readFunction_50 ?_
    refine iv_aload_n (pc := 53) X dX11_readFunction_53 rfl ?_
    refine gF_X11_231_75 (pc := 54) X dX11_readFunction_54 (x := S.1 75 10) rfl ?_
    obtain ⟨hg, hm⟩ := gd_some hm
    refine aL_79 (pc := 57) X dX11_readFunction_57 hg (x := (S.1 79) ((S.1 75 10).toNatClampNeg)) rfl ?_
    obtain ⟨hg, hm⟩ := gd_some hm
    refine aS_98 (pc := 58) X dX11_readFunction_58 hg ?_
    refine iv_aload_n (pc := 59) X dX11_readFunction_59 rfl ?_
    refine gF_X11_80_75 (pc := 60) X dX11_readFunction_60 ?_
    refine iv_iload_n (pc := 63) X dX11_readFunction_63 rfl ?_
    refine iv_iconst (pc := 64) X dX11_readFunction_64 ic_0 ?_
    obtain ⟨hg, hm⟩ := gd_some hm
    refine aS_99 (pc := 65) X dX11_readFunction_65 hg ?_
    refine iv_aload_n (pc := 66) X dX11_readFunction_66 rfl ?_
    obtain ⟨⟨r3, S2⟩, hc4, hm⟩ := bd_some hm
    refine cV_X11_280_75 (pc := 67) X [] [] 0 rfl (f_X11_wantName_e l g ad  (uI (uI (uJ S 97 (((8 * (1 - (S.1 75 37))) + (S.1 75 36)).toNatClampNeg) ((S.2.1 80) ((S.1 75 10).toNatClampNeg))) 98 (((8 * (1 - (S.1 75 37))) + (S.1 75 36)).toNatClampNeg) ((S.1 79) ((S.1 75 10).toNatClampNeg))) 99 (((8 * (1 - (S.1 75 37))) + (S.1 75 36)).toNatClampNeg) 0) _ _ hc4) (by decide) (by decide) (Nat.le_of_ble_eq_true rfl) rfl dX11_readFunction_67 ?_
    refine iv_if_eq (pc := 70) X dX11_readFunction_70 (tgt := 86) rfl (fun hb5 => ?_) (fun hb5 => ?_)
    · rw [if_pos hb5] at hm
      refine iv_iconst (pc := 86) X dX11_readFunction_86 ic_0 ?_
      cases hm
      exact is_zret (pc := 87) X dX11_readFunction_87 rfl
    · rw [if_neg hb5] at hm
      refine iv_aload_n (pc := 73) X dX11_readFunction_73 rfl ?_
      refine iv_aload_n (pc := 74) X dX11_readFunction_74 rfl ?_
      refine iv_bipush (pc := 75) X dX11_readFunction_75 bc_40 ?_
      obtain ⟨⟨r7, S6⟩, hc8, hm⟩ := bd_some hm
      refine cV_X11_283_75 (pc := 77) X [.int 40] [.ref (ad 75)] 1 rfl (f_X11_isSign_e l g ad 40 S2 _ _ hc8) (by decide) (by decide) (Nat.le_of_ble_eq_true rfl) rfl dX11_readFunction_77 ?_
      obtain ⟨⟨r10, S9⟩, hc11, hm⟩ := bd_some hm
      refine cV_X11_245_75 (pc := 80) X [.int r7] [] 1 rfl (f_X11_want_e l g ad r7 S6 _ _ hc11) (by decide) (by decide) (Nat.le_of_ble_eq_true rfl) rfl dX11_readFunction_80 ?_
      refine iv_if_ne (pc := 83) X dX11_readFunction_83 (tgt := 88) rfl (fun hb12 => ?_) (fun hb12 => ?_)
      · rw [if_pos hb12] at hm
        refine iv_aload_n (pc := 88) X dX11_readFunction_88 rfl ?_
        refine iv_aload_n (pc := 89) X dX11_readFunction_89 rfl ?_
        refine iv_bipush (pc := 90) X dX11_readFunction_90 bc_41 ?_
        obtain ⟨⟨r14, S13⟩, hc15, hm⟩ := bd_some hm
        refine cV_X11_283_75 (pc := 92) X [.int 41] [.ref (ad 75)] 1 rfl (f_X11_isSign_e l g ad 41 S9 _ _ hc15) (by decide) (by decide) (Nat.le_of_ble_eq_true rfl) rfl dX11_readFunction_92 ?_
        obtain ⟨⟨r17, S16⟩, hc18, hm⟩ := bd_some hm
        refine cV_X11_237_75 (pc := 95) X [.int r14] [] 1 rfl (f_X11_takes_e l g ad r14 S13 _ _ hc18) (by decide) (by decide) (Nat.le_of_ble_eq_true rfl) rfl dX11_readFunction_95 ?_
        refine iv_if_ne (pc := 98) X dX11_readFunction_98 (tgt := 211) rfl (fun hb19 => ?_) (fun hb19 => ?_)
        · rw [if_pos hb19] at hm
          refine iv_aload_n (pc := 211) X dX11_readFunction_211 rfl ?_
          refine iv_aload_n (pc := 212) X dX11_readFunction_212 rfl ?_
          refine iv_bipush (pc := 213) X dX11_readFunction_213 bc_61 ?_
          obtain ⟨⟨r21, S20⟩, hc22, hm⟩ := bd_some hm
          refine cV_X11_283_75 (pc := 215) X [.int 61] [.ref (ad 75)] 1 rfl (f_X11_isSign_e l g ad 61 S16 _ _ hc22) (by decide) (by decide) (Nat.le_of_ble_eq_true rfl) rfl dX11_readFunction_215 ?_
          obtain ⟨⟨r24, S23⟩, hc25, hm⟩ := bd_some hm
          refine cV_X11_245_75 (pc := 218) X [.int r21] [] 1 rfl (f_X11_want_e l g ad r21 S20 _ _ hc25) (by decide) (by decide) (Nat.le_of_ble_eq_true rfl) rfl dX11_readFunction_218 ?_
          refine iv_if_ne (pc := 221) X dX11_readFunction_221 (tgt := 226) rfl (fun hb26 => ?_) (fun hb26 => ?_)
          · rw [if_pos hb26] at hm
            refine iv_aload_n (pc := 226) X dX11_readFunction_226 rfl ?_
            refine gF_X11_89_75 (pc := 227) X dX11_readFunction_227 ?_
            refine iv_iload_n (pc := 230) X dX11_readFunction_230 rfl ?_
            refine iv_aload_n (pc := 231) X dX11_readFunction_231 rfl ?_
            obtain ⟨⟨r28, S27⟩, hc29, hm⟩ := bd_some hm
            refine cV_X11_257_75 (pc := 232) X [] [.int ((8 * (1 - (S.1 75 37))) + (S.1 75 36)), .ref (ad 102)] 0 rfl (g_X11_readX_e l g ad fu  S23 _ _ hc29) (by decide) (by decide) (Nat.le_of_ble_eq_true rfl) rfl dX11_readFunction_232 ?_
            obtain ⟨hg, hm⟩ := gd_some hm
            refine aS_102 (pc := 235) X dX11_readFunction_235 hg ?_
            refine iv_aload_n (pc := 236) X dX11_readFunction_236 rfl ?_
            refine iv_dup (pc := 237) X dX11_readFunction_237 rfl ?_
            refine gF_X11_314_75 (pc := 238) X dX11_readFunction_238 (x := S27.1 75 36) rfl ?_
            refine iv_iconst (pc := 241) X dX11_readFunction_241 ic_1 ?_
            refine iv_iadd (pc := 242) X dX11_readFunction_242 ?_
            refine pF_X11_314_75 (pc := 243) X dX11_readFunction_243 ?_
            refine iv_aload_n (pc := 246) X dX11_readFunction_246 rfl ?_
            refine gF_X11_89_75 (pc := 247) X dX11_readFunction_247 ?_
            refine iv_iload_n (pc := 250) X dX11_readFunction_250 rfl ?_
            obtain ⟨hg, hm⟩ := gd_some hm
            refine aL_102 (pc := 251) X dX11_readFunction_251 hg (x := (upd (S27.1 102) (((8 * (1 - (S.1 75 37))) + (S.1 75 36)).toNatClampNeg) r28) (((8 * (1 - (S.1 75 37))) + (S.1 75 36)).toNatClampNeg)) rfl ?_
            refine iv_iconst (pc := 252) X dX11_readFunction_252 ic_m1 ?_
            refine iv_icmp_eq (pc := 253) X dX11_readFunction_253 (tgt := 273) rfl (fun hb30 => ?_) (fun hb30 => ?_)
            · rw [if_pos hb30] at hm
              refine iv_iconst (pc := 273) X dX11_readFunction_273 ic_0 ?_
              cases hm
              exact is_zret (pc := 274) X dX11_readFunction_274 rfl
            · rw [if_neg hb30] at hm
              refine iv_aload_n (pc := 256) X dX11_readFunction_256 rfl ?_
              refine iv_aload_n (pc := 257) X dX11_readFunction_257 rfl ?_
              refine iv_bipush (pc := 258) X dX11_readFunction_258 bc_59 ?_
              obtain ⟨⟨r32, S31⟩, hc33, hm⟩ := bd_some hm
              refine cV_X11_283_75 (pc := 260) X [.int 59] [.ref (ad 75)] 1 rfl (f_X11_isSign_e l g ad 59 (uI (uI S27 102 (((8 * (1 - (S.1 75 37))) + (S.1 75 36)).toNatClampNeg) r28) 75 36 ((S27.1 75 36) + 1)) _ _ hc33) (by decide) (by decide) (Nat.le_of_ble_eq_true rfl) rfl dX11_readFunction_260 ?_
              obtain ⟨⟨r35, S34⟩, hc36, hm⟩ := bd_some hm
              refine cV_X11_245_75 (pc := 263) X [.int r32] [] 1 rfl (f_X11_want_e l g ad r32 S31 _ _ hc36) (by decide) (by decide) (Nat.le_of_ble_eq_true rfl) rfl dX11_readFunction_263 ?_
              refine iv_if_eq (pc := 266) X dX11_readFunction_266 (tgt := 273) rfl (fun hb37 => ?_) (fun hb37 => ?_)
              · rw [if_pos hb37] at hm
                refine iv_iconst (pc := 273) X dX11_readFunction_273 ic_0 ?_
                cases hm
                exact is_zret (pc := 274) X dX11_readFunction_274 rfl
              · rw [if_neg hb37] at hm
                refine iv_iconst (pc := 269) X dX11_readFunction_269 ic_1 ?_
                refine iv_goto (pc := 270) X dX11_readFunction_270 (tgt := 274) rfl ?_
                cases hm
                exact is_zret (pc := 274) X dX11_readFunction_274 rfl
          · rw [if_neg hb26] at hm
            refine iv_iconst (pc := 224) X dX11_readFunction_224 ic_0 ?_
            cases hm
            exact is_zret (pc := 225) X dX11_readFunction_225 rfl
        · rw [if_neg hb19] at hm
          refine iv_sub [1, 0] (lv2 := [(0, .ref (ad 75)), (1, .int ((8 * (1 - (S.1 75 37))) + (S.1 75 36)))]) rfl ?_
          exact f_X11_readFunction_L101_w (fu := fu) l g ad X fu ((8 * (1 - (S.1 75 37))) + (S.1 75 36)) S16 _ _ hm
      · rw [if_neg hb12] at hm
        refine iv_iconst (pc := 86) X dX11_readFunction_86 ic_0 ?_
        cases hm
        exact is_zret (pc := 87) X dX11_readFunction_87 rfl
  · rw [if_neg hb1] at hm
    refine iv_aload_n (pc := 9) X dX11_readFunction_9 rfl ?_
    obtain ⟨⟨r39, S38⟩, hc40, hm⟩ := bd_some hm
    refine cV_X11_241_75 (pc := 10) X [] [] 0 rfl (f_X11_refuse_e l g ad  S _ _ hc40) (by decide) (by decide) (Nat.le_of_ble_eq_true rfl) rfl dX11_readFunction_10 ?_
    obtain ⟨hg, hm⟩ := gd_some hm
    cases hm
    exact is_zret (pc := 13) X dX11_readFunction_13 (z_b_n hg)
def f_X11_readProgram_L52 (fu : Nat) : Nat → im_S → Option (Int32 × im_S)
  | 0, _ => none
  | nf + 1, S => (f_X11_readFunction fu S).bind (fun qS1 => if (qS1.1 : Int32) ≠ 0 then (gd (in_b (qS1.2.1 75 10) 502) (if ((qS1.2.1 77) ((qS1.2.1 75 10).toNatClampNeg) : Int32) ≠ 0 then (f_X11_readProgram_L52 fu nf qS1.2) else (some (1, qS1.2)))) else (some (0, qS1.2)))
set_option maxHeartbeats 4000000 in
set_option maxRecDepth 100000 in
theorem f_X11_readProgram_L52_w {fu : Nat} (l : Launch) (g : im_G) (ad : Nat → Nat) {p : Program} {e : Env} {s : State} {m : MethodId} {below : List Frame} {meth : Method} {c : Code} {args : Array Value} (X : im_X p l s m args meth c g cX11_readProgram 1 RX11 (some Jvm.ClassFile.FieldType.boolean)) : ∀ (nf : Nat) (S : im_S) (r : Int32) (S' : im_S), f_X11_readProgram_L52 fu nf  S = some (r, S') → im_V p l e (im_R 1805 0 0) s m args below meth c g 1 (im_Z below g ad args s (some (.int r)) S') ad im_N (im_cn g ad S) 0 0 52 [(0, .ref (ad 75))] [] := by
  intro nf
  induction nf with
  | zero =>
    intro  S r S' hm
    cases hm
  | succ nf ih =>
    intro  S r S' hm
    unfold f_X11_readProgram_L52 at hm
    refine iv_aload_n (pc := 52) X dX11_readProgram_52 rfl ?_
    obtain ⟨⟨r2, S1⟩, hc3, hm⟩ := bd_some hm
    refine cV_X11_323_75 (pc := 53) X [] [] 0 rfl (f_X11_readFunction_e l g ad fu  S _ _ hc3) (by decide) (by decide) (Nat.le_of_ble_eq_true rfl) rfl dX11_readProgram_53 ?_
    refine iv_if_ne (pc := 56) X dX11_readProgram_56 (tgt := 61) rfl (fun hb4 => ?_) (fun hb4 => ?_)
    · rw [if_pos hb4] at hm
      refine iv_aload_n (pc := 61) X dX11_readProgram_61 rfl ?_
      refine gF_X11_13_75 (pc := 62) X dX11_readProgram_62 ?_
      refine iv_aload_n (pc := 65) X dX11_readProgram_65 rfl ?_
      refine gF_X11_231_75 (pc := 66) X dX11_readProgram_66 (x := S1.1 75 10) rfl ?_
      obtain ⟨hg, hm⟩ := gd_some hm
      refine aL_77 (pc := 69) X dX11_readProgram_69 hg (x := (S1.1 77) ((S1.1 75 10).toNatClampNeg)) rfl ?_
      refine iv_if_ne (pc := 70) X dX11_readProgram_70 (tgt := 52) rfl (fun hb5 => ?_) (fun hb5 => ?_)
      · rw [if_pos hb5] at hm
        exact ih  S1 _ _ hm
      · rw [if_neg hb5] at hm
        refine iv_iconst (pc := 73) X dX11_readProgram_73 ic_1 ?_
        cases hm
        exact is_zret (pc := 74) X dX11_readProgram_74 rfl
    · rw [if_neg hb4] at hm
      refine iv_iconst (pc := 59) X dX11_readProgram_59 ic_0 ?_
      cases hm
      exact is_zret (pc := 60) X dX11_readProgram_60 rfl
def f_X11_readProgram (fu : Nat) (S : im_S) : Option (Int32 × im_S) := (f_X11_tokenize fu S).bind (fun qS1 => f_X11_readProgram_L52 fu fu (uI (uI (uI (uI (uI (uI qS1.2 75 10 0) 75 26 (600 * (1 - (qS1.2.1 75 37)))) 75 27 (600 * (1 - (qS1.2.1 75 37)))) 75 78 0) 75 77 0) 75 36 0))
set_option maxHeartbeats 4000000 in
set_option maxRecDepth 100000 in
theorem f_X11_readProgram_e (l : Launch) (g : im_G) (ad : Nat → Nat) (fu : Nat) (S : im_S) (r : Int32) (S' : im_S) (hm : f_X11_readProgram fu  S = some (r, S')) : im_E l g ad 1805 yX11_readProgram cX11_readProgram 1 (some Jvm.ClassFile.FieldType.boolean) [.ref (ad 75)] S (some (.int r)) S' := by
  unfold f_X11_readProgram at hm
  refine is_met (own := RX11) (by decide +kernel) rfl (Nat.le_of_ble_eq_true rfl) (fun p e s m below meth c X => ?_)
  refine iv_aload_n (pc := 0) X dX11_readProgram_0 rfl ?_
  obtain ⟨⟨r2, S1⟩, hc3, hm⟩ := bd_some hm
  refine cV_X11_320_75 (pc := 1) X [] [] 0 rfl (f_X11_tokenize_e l g ad fu  S _ _ hc3) (by decide) (by decide) (Nat.le_of_ble_eq_true rfl) rfl dX11_readProgram_1 ?_
  refine iv_aload_n (pc := 4) X dX11_readProgram_4 rfl ?_
  refine iv_iconst (pc := 5) X dX11_readProgram_5 ic_0 ?_
  refine pF_X11_231_75 (pc := 6) X dX11_readProgram_6 ?_
  refine iv_aload_n (pc := 9) X dX11_readProgram_9 rfl ?_
  refine iv_sipush (pc := 10) X dX11_readProgram_10 sc_600 ?_
  refine iv_iconst (pc := 13) X dX11_readProgram_13 ic_1 ?_
  refine iv_aload_n (pc := 14) X dX11_readProgram_14 rfl ?_
  refine gF_X11_317_75 (pc := 15) X dX11_readProgram_15 (x := S1.1 75 37) rfl ?_
  refine iv_isub (pc := 18) X dX11_readProgram_18 ?_
  refine iv_imul (pc := 19) X dX11_readProgram_19 ?_
  refine pF_X11_248_75 (pc := 20) X dX11_readProgram_20 ?_
  refine iv_aload_n (pc := 23) X dX11_readProgram_23 rfl ?_
  refine iv_sipush (pc := 24) X dX11_readProgram_24 sc_600 ?_
  refine iv_iconst (pc := 27) X dX11_readProgram_27 ic_1 ?_
  refine iv_aload_n (pc := 28) X dX11_readProgram_28 rfl ?_
  refine gF_X11_317_75 (pc := 29) X dX11_readProgram_29 (x := S1.1 75 37) rfl ?_
  refine iv_isub (pc := 32) X dX11_readProgram_32 ?_
  refine iv_imul (pc := 33) X dX11_readProgram_33 ?_
  refine pF_X11_251_75 (pc := 34) X dX11_readProgram_34 ?_
  refine iv_aload_n (pc := 37) X dX11_readProgram_37 rfl ?_
  refine iv_iconst (pc := 38) X dX11_readProgram_38 ic_0 ?_
  refine pF_X11_286_75 (pc := 39) X dX11_readProgram_39 ?_
  refine iv_aload_n (pc := 42) X dX11_readProgram_42 rfl ?_
  refine iv_iconst (pc := 43) X dX11_readProgram_43 ic_0 ?_
  refine pF_X11_254_75 (pc := 44) X dX11_readProgram_44 ?_
  refine iv_aload_n (pc := 47) X dX11_readProgram_47 rfl ?_
  refine iv_iconst (pc := 48) X dX11_readProgram_48 ic_0 ?_
  refine pF_X11_314_75 (pc := 49) X dX11_readProgram_49 ?_
  exact f_X11_readProgram_L52_w (fu := fu) l g ad X fu  (uI (uI (uI (uI (uI (uI S1 75 10 0) 75 26 (600 * (1 - (S1.1 75 37)))) 75 27 (600 * (1 - (S1.1 75 37)))) 75 78 0) 75 77 0) 75 36 0) _ _ hm
def f_X11_lookAll_L54 (fu : Nat) (K12 : Int32 → Int32 → im_S → Option (Unit × im_S)) : Nat → Int32 → Int32 → Int32 → im_S → Option (Unit × im_S)
  | 0, _, _, _, _ => none
  | nf + 1, z1, z2, z3, S => gd (in_b z2 16) (if ((S.1 99) z2.toNatClampNeg : Int32) ≤ z3 then (gd (in_b z2 16) (gd (in_b z2 16) ((f_X11_typeOf fu ((S.2.1 97) z2.toNatClampNeg) S).bind (fun qS2 => (g_X11_wants fu ((S.1 102) z2.toNatClampNeg) qS2.1 qS2.2).bind (fun qS5 => K12 z1 (z2 + 1) qS5.2))))) else (gd (in_b ((4 * z2) + z3) 64) (gd (in_b ((4 * z2) + z3) 64) ((f_X11_know fu ((S.2.1 100) (((4 * z2) + z3).toNatClampNeg)) ((S.1 101) (((4 * z2) + z3).toNatClampNeg)) 1 z2 z3 S).bind (fun qS8 => f_X11_lookAll_L54 fu K12 nf z1 z2 (z3 + 1) qS8.2)))))
set_option maxHeartbeats 4000000 in
set_option maxRecDepth 100000 in
theorem f_X11_lookAll_L54_w {fu : Nat} (l : Launch) (g : im_G) (ad : Nat → Nat) {p : Program} {e : Env} {s : State} {m : MethodId} {below : List Frame} {meth : Method} {c : Code} {args : Array Value} (X : im_X p l s m args meth c g cX11_lookAll 4 RX11 none) (K12 : Int32 → Int32 → im_S → Option (Unit × im_S)) (hK12 : ∀ (z1 : Int32) (z2 : Int32) (S : im_S) (r : Unit) (S' : im_S), K12 z1 z2 S = some (r, S') → im_V p l e (im_R 1904 0 0) s m args below meth c g 4 (im_Z below g ad args s none S') ad im_N (im_cn g ad S) 0 0 12 [(0, .ref (ad 75)), (1, .int z1), (2, .int z2)] []) : ∀ (nf : Nat) (z1 : Int32) (z2 : Int32) (z3 : Int32) (S : im_S) (r : Unit) (S' : im_S), f_X11_lookAll_L54 fu K12 nf z1 z2 z3 S = some (r, S') → im_V p l e (im_R 1904 0 0) s m args below meth c g 4 (im_Z below g ad args s none S') ad im_N (im_cn g ad S) 0 0 54 [(0, .ref (ad 75)), (1, .int z1), (2, .int z2), (3, .int z3)] [] := by
  intro nf
  induction nf with
  | zero =>
    intro z1 z2 z3 S r S' hm
    cases hm
  | succ nf ih =>
    intro z1 z2 z3 S r S' hm
    unfold f_X11_lookAll_L54 at hm
    refine iv_iload_n (pc := 54) X dX11_lookAll_54 rfl ?_
    refine iv_aload_n (pc := 55) X dX11_lookAll_55 rfl ?_
    refine gF_X11_80_75 (pc := 56) X dX11_lookAll_56 ?_
    refine iv_iload_n (pc := 59) X dX11_lookAll_59 rfl ?_
    obtain ⟨hg, hm⟩ := gd_some hm
    refine aL_99 (pc := 60) X dX11_lookAll_60 hg (x := (S.1 99) z2.toNatClampNeg) rfl ?_
    refine iv_icmp_ge (pc := 61) X dX11_lookAll_61 (tgt := 97) rfl (fun hb1 => ?_) (fun hb1 => ?_)
    · rw [if_pos hb1] at hm
      refine iv_aload_n (pc := 97) X dX11_lookAll_97 rfl ?_
      refine iv_aload_n (pc := 98) X dX11_lookAll_98 rfl ?_
      refine gF_X11_89_75 (pc := 99) X dX11_lookAll_99 ?_
      refine iv_iload_n (pc := 102) X dX11_lookAll_102 rfl ?_
      obtain ⟨hg, hm⟩ := gd_some hm
      refine aL_102 (pc := 103) X dX11_lookAll_103 hg (x := (S.1 102) z2.toNatClampNeg) rfl ?_
      refine iv_aload_n (pc := 104) X dX11_lookAll_104 rfl ?_
      refine gF_X11_74_75 (pc := 105) X dX11_lookAll_105 ?_
      refine iv_iload_n (pc := 108) X dX11_lookAll_108 rfl ?_
      obtain ⟨hg, hm⟩ := gd_some hm
      refine aL_97 (pc := 109) X dX11_lookAll_109 hg (x := (S.2.1 97) z2.toNatClampNeg) rfl ?_
      obtain ⟨⟨r3, S2⟩, hc4, hm⟩ := bd_some hm
      refine cS_X11_362 (pc := 110) X [.long ((S.2.1 97) z2.toNatClampNeg)] [.int ((S.1 102) z2.toNatClampNeg), .ref (ad 75)] 1 rfl (f_X11_typeOf_e l g ad fu ((S.2.1 97) z2.toNatClampNeg) S _ _ hc4) (by decide) (by decide) (Nat.le_of_ble_eq_true rfl) rfl dX11_lookAll_110 ?_
      obtain ⟨⟨r6, S5⟩, hc7, hm⟩ := bd_some hm
      refine cV_X11_353_75 (pc := 113) X [.int ((S.1 102) z2.toNatClampNeg), .int r3] [] 2 rfl (g_X11_wants_e l g ad fu ((S.1 102) z2.toNatClampNeg) r3 S2 _ _ hc7) (by decide) (by decide) (Nat.le_of_ble_eq_true rfl) rfl dX11_lookAll_113 ?_
      refine iv_iinc (pc := 116) X dX11_lookAll_116 rfl (by decide) (v := z2 + 1) rfl (lv' := [(2, .int (z2 + 1)), (0, .ref (ad 75)), (1, .int z1), (3, .int z3)]) rfl ?_
      refine iv_goto (pc := 119) X dX11_lookAll_119 (tgt := 12) rfl ?_
      refine iv_sub [1, 2, 0] (lv2 := [(0, .ref (ad 75)), (1, .int z1), (2, .int (z2 + 1))]) rfl ?_
      exact hK12 z1 (z2 + 1) S5 _ _ hm
    · rw [if_neg hb1] at hm
      refine iv_aload_n (pc := 64) X dX11_lookAll_64 rfl ?_
      refine iv_aload_n (pc := 65) X dX11_lookAll_65 rfl ?_
      refine gF_X11_83_75 (pc := 66) X dX11_lookAll_66 ?_
      refine iv_iconst (pc := 69) X dX11_lookAll_69 ic_4 ?_
      refine iv_iload_n (pc := 70) X dX11_lookAll_70 rfl ?_
      refine iv_imul (pc := 71) X dX11_lookAll_71 ?_
      refine iv_iload_n (pc := 72) X dX11_lookAll_72 rfl ?_
      refine iv_iadd (pc := 73) X dX11_lookAll_73 ?_
      obtain ⟨hg, hm⟩ := gd_some hm
      refine aL_100 (pc := 74) X dX11_lookAll_74 hg (x := (S.2.1 100) (((4 * z2) + z3).toNatClampNeg)) rfl ?_
      refine iv_aload_n (pc := 75) X dX11_lookAll_75 rfl ?_
      refine gF_X11_86_75 (pc := 76) X dX11_lookAll_76 ?_
      refine iv_iconst (pc := 79) X dX11_lookAll_79 ic_4 ?_
      refine iv_iload_n (pc := 80) X dX11_lookAll_80 rfl ?_
      refine iv_imul (pc := 81) X dX11_lookAll_81 ?_
      refine iv_iload_n (pc := 82) X dX11_lookAll_82 rfl ?_
      refine iv_iadd (pc := 83) X dX11_lookAll_83 ?_
      obtain ⟨hg, hm⟩ := gd_some hm
      refine aL_101 (pc := 84) X dX11_lookAll_84 hg (x := (S.1 101) (((4 * z2) + z3).toNatClampNeg)) rfl ?_
      refine iv_iconst (pc := 85) X dX11_lookAll_85 ic_1 ?_
      refine iv_iload_n (pc := 86) X dX11_lookAll_86 rfl ?_
      refine iv_iload_n (pc := 87) X dX11_lookAll_87 rfl ?_
      obtain ⟨⟨r9, S8⟩, hc10, hm⟩ := bd_some hm
      refine cV_X11_368_75 (pc := 88) X [.long ((S.2.1 100) (((4 * z2) + z3).toNatClampNeg)), .int ((S.1 101) (((4 * z2) + z3).toNatClampNeg)), .int 1, .int z2, .int z3] [] 5 rfl (f_X11_know_e l g ad fu ((S.2.1 100) (((4 * z2) + z3).toNatClampNeg)) ((S.1 101) (((4 * z2) + z3).toNatClampNeg)) 1 z2 z3 S _ _ hc10) (by decide) (by decide) (Nat.le_of_ble_eq_true rfl) rfl dX11_lookAll_88 ?_
      refine iv_iinc (pc := 91) X dX11_lookAll_91 rfl (by decide) (v := z3 + 1) rfl (lv' := [(3, .int (z3 + 1)), (0, .ref (ad 75)), (1, .int z1), (2, .int z2)]) rfl ?_
      refine iv_goto (pc := 94) X dX11_lookAll_94 (tgt := 54) rfl ?_
      refine iv_sub [1, 2, 3, 0] (lv2 := [(0, .ref (ad 75)), (1, .int z1), (2, .int z2), (3, .int (z3 + 1))]) rfl ?_
      exact ih z1 z2 (z3 + 1) S8 _ _ hm
def f_X11_lookAll_L12 (fu : Nat) : Nat → Int32 → Int32 → im_S → Option (Unit × im_S)
  | 0, _, _, _ => none
  | nf + 1, z1, z2, S => if (z1 + (S.1 75 36) : Int32) ≤ z2 then (some ((), S)) else (gd (in_b z2 16) ((f_X11_functionOf fu ((S.2.1 97) z2.toNatClampNeg) S).bind (fun qS2 => if (qS2.1 : Int32) = z2 then (f_X11_lookAll_L54 fu (f_X11_lookAll_L12 fu nf) fu z1 z2 0 (uI qS2.2 75 52 0)) else (gd (in_b z2 16) ((f_X11_note 2 ((qS2.2.1 98) z2.toNatClampNeg) qS2.2).bind (fun qS6 => f_X11_lookAll_L54 fu (f_X11_lookAll_L12 fu nf) fu z1 z2 0 (uI qS6.2 75 52 0)))))))
set_option maxHeartbeats 4000000 in
set_option maxRecDepth 100000 in
theorem f_X11_lookAll_L12_w {fu : Nat} (l : Launch) (g : im_G) (ad : Nat → Nat) {p : Program} {e : Env} {s : State} {m : MethodId} {below : List Frame} {meth : Method} {c : Code} {args : Array Value} (X : im_X p l s m args meth c g cX11_lookAll 4 RX11 none) : ∀ (nf : Nat) (z1 : Int32) (z2 : Int32) (S : im_S) (r : Unit) (S' : im_S), f_X11_lookAll_L12 fu nf z1 z2 S = some (r, S') → im_V p l e (im_R 1904 0 0) s m args below meth c g 4 (im_Z below g ad args s none S') ad im_N (im_cn g ad S) 0 0 12 [(0, .ref (ad 75)), (1, .int z1), (2, .int z2)] [] := by
  intro nf
  induction nf with
  | zero =>
    intro z1 z2 S r S' hm
    cases hm
  | succ nf ih =>
    intro z1 z2 S r S' hm
    unfold f_X11_lookAll_L12 at hm
    refine iv_iload_n (pc := 12) X dX11_lookAll_12 rfl ?_
    refine iv_iload_n (pc := 13) X dX11_lookAll_13 rfl ?_
    refine iv_aload_n (pc := 14) X dX11_lookAll_14 rfl ?_
    refine gF_X11_314_75 (pc := 15) X dX11_lookAll_15 (x := S.1 75 36) rfl ?_
    refine iv_iadd (pc := 18) X dX11_lookAll_18 ?_
    refine iv_icmp_ge (pc := 19) X dX11_lookAll_19 (tgt := 122) rfl (fun hb1 => ?_) (fun hb1 => ?_)
    · rw [if_pos hb1] at hm
      cases hm
      exact is_vret (pc := 122) X dX11_lookAll_122
    · rw [if_neg hb1] at hm
      refine iv_aload_n (pc := 22) X dX11_lookAll_22 rfl ?_
      refine iv_aload_n (pc := 23) X dX11_lookAll_23 rfl ?_
      refine gF_X11_74_75 (pc := 24) X dX11_lookAll_24 ?_
      refine iv_iload_n (pc := 27) X dX11_lookAll_27 rfl ?_
      obtain ⟨hg, hm⟩ := gd_some hm
      refine aL_97 (pc := 28) X dX11_lookAll_28 hg (x := (S.2.1 97) z2.toNatClampNeg) rfl ?_
      obtain ⟨⟨r3, S2⟩, hc4, hm⟩ := bd_some hm
      refine cV_X11_365_75 (pc := 29) X [.long ((S.2.1 97) z2.toNatClampNeg)] [] 1 rfl (f_X11_functionOf_e l g ad fu ((S.2.1 97) z2.toNatClampNeg) S _ _ hc4) (by decide) (by decide) (Nat.le_of_ble_eq_true rfl) rfl dX11_lookAll_29 ?_
      refine iv_iload_n (pc := 32) X dX11_lookAll_32 rfl ?_
      refine iv_icmp_eq (pc := 33) X dX11_lookAll_33 (tgt := 47) rfl (fun hb5 => ?_) (fun hb5 => ?_)
      · rw [if_pos hb5] at hm
        refine iv_aload_n (pc := 47) X dX11_lookAll_47 rfl ?_
        refine iv_iconst (pc := 48) X dX11_lookAll_48 ic_0 ?_
        refine pF_X11_329_75 (pc := 49) X dX11_lookAll_49 ?_
        refine iv_iconst (pc := 52) X dX11_lookAll_52 ic_0 ?_
        refine iv_istore_n (pc := 53) X dX11_lookAll_53 (by decide) (lv' := [(3, .int 0), (0, .ref (ad 75)), (1, .int z1), (2, .int z2)]) rfl ?_
        refine iv_sub [1, 2, 3, 0] (lv2 := [(0, .ref (ad 75)), (1, .int z1), (2, .int z2), (3, .int 0)]) rfl ?_
        exact f_X11_lookAll_L54_w (fu := fu) l g ad X (f_X11_lookAll_L12 fu nf) ih fu z1 z2 0 (uI S2 75 52 0) _ _ hm
      · rw [if_neg hb5] at hm
        refine iv_aload_n (pc := 36) X dX11_lookAll_36 rfl ?_
        refine iv_iconst (pc := 37) X dX11_lookAll_37 ic_2 ?_
        refine iv_aload_n (pc := 38) X dX11_lookAll_38 rfl ?_
        refine gF_X11_77_75 (pc := 39) X dX11_lookAll_39 ?_
        refine iv_iload_n (pc := 42) X dX11_lookAll_42 rfl ?_
        obtain ⟨hg, hm⟩ := gd_some hm
        refine aL_98 (pc := 43) X dX11_lookAll_43 hg (x := (S2.1 98) z2.toNatClampNeg) rfl ?_
        obtain ⟨⟨r7, S6⟩, hc8, hm⟩ := bd_some hm
        refine cV_X11_335_75 (pc := 44) X [.int 2, .int ((S2.1 98) z2.toNatClampNeg)] [] 2 rfl (f_X11_note_e l g ad 2 ((S2.1 98) z2.toNatClampNeg) S2 _ _ hc8) (by decide) (by decide) (Nat.le_of_ble_eq_true rfl) rfl dX11_lookAll_44 ?_
        refine iv_aload_n (pc := 47) X dX11_lookAll_47 rfl ?_
        refine iv_iconst (pc := 48) X dX11_lookAll_48 ic_0 ?_
        refine pF_X11_329_75 (pc := 49) X dX11_lookAll_49 ?_
        refine iv_iconst (pc := 52) X dX11_lookAll_52 ic_0 ?_
        refine iv_istore_n (pc := 53) X dX11_lookAll_53 (by decide) (lv' := [(3, .int 0), (0, .ref (ad 75)), (1, .int z1), (2, .int z2)]) rfl ?_
        refine iv_sub [1, 2, 3, 0] (lv2 := [(0, .ref (ad 75)), (1, .int z1), (2, .int z2), (3, .int 0)]) rfl ?_
        exact f_X11_lookAll_L54_w (fu := fu) l g ad X (f_X11_lookAll_L12 fu nf) ih fu z1 z2 0 (uI S6 75 52 0) _ _ hm
def f_X11_lookAll (fu : Nat) (S : im_S) : Option (Unit × im_S) := f_X11_lookAll_L12 fu fu (8 * (1 - (S.1 75 37))) (8 * (1 - (S.1 75 37))) S
set_option maxHeartbeats 4000000 in
set_option maxRecDepth 100000 in
theorem f_X11_lookAll_e (l : Launch) (g : im_G) (ad : Nat → Nat) (fu : Nat) (S : im_S) (r : Unit) (S' : im_S) (hm : f_X11_lookAll fu  S = some (r, S')) : im_E l g ad 1904 yX11_lookAll cX11_lookAll 4 none [.ref (ad 75)] S none S' := by
  unfold f_X11_lookAll at hm
  refine is_met (own := RX11) (by decide +kernel) rfl (Nat.le_of_ble_eq_true rfl) (fun p e s m below meth c X => ?_)
  refine iv_bipush (pc := 0) X dX11_lookAll_0 bc_8 ?_
  refine iv_iconst (pc := 2) X dX11_lookAll_2 ic_1 ?_
  refine iv_aload_n (pc := 3) X dX11_lookAll_3 rfl ?_
  refine gF_X11_317_75 (pc := 4) X dX11_lookAll_4 (x := S.1 75 37) rfl ?_
  refine iv_isub (pc := 7) X dX11_lookAll_7 ?_
  refine iv_imul (pc := 8) X dX11_lookAll_8 ?_
  refine iv_istore_n (pc := 9) X dX11_lookAll_9 (by decide) (lv' := [(1, .int (8 * (1 - (S.1 75 37)))), (0, .ref (ad 75))]) rfl ?_
  refine iv_iload_n (pc := 10) X dX11_lookAll_10 rfl ?_
  refine iv_istore_n (pc := 11) X dX11_lookAll_11 (by decide) (lv' := [(2, .int (8 * (1 - (S.1 75 37)))), (1, .int (8 * (1 - (S.1 75 37)))), (0, .ref (ad 75))]) rfl ?_
  refine iv_sub [2, 1, 0] (lv2 := [(0, .ref (ad 75)), (1, .int (8 * (1 - (S.1 75 37)))), (2, .int (8 * (1 - (S.1 75 37))))]) rfl ?_
  exact f_X11_lookAll_L12_w (fu := fu) l g ad X fu (8 * (1 - (S.1 75 37))) (8 * (1 - (S.1 75 37))) S _ _ hm
def f_X11_compile_L114 (fu : Nat) (K104 : Int32 → im_S → Option (Int32 × im_S)) : Nat → Int32 → Int32 → im_S → Option (Int32 × im_S)
  | 0, _, _, _ => none
  | nf + 1, z1, z2, S => if (S.1 75 35 : Int32) ≤ z2 then (K104 (z1 + 1) S) else (gd (in_b z1 640) (gd (in_b ((8 * (S.1 75 37)) + z2) 16) (if ((S.1 105) z1.toNatClampNeg : Int32) ≠ ((S.1 102) (((8 * (S.1 75 37)) + z2).toNatClampNeg)) then (gd (in_b z2 16) (gd (in_b z2 16) (f_X11_compile_L114 fu K104 nf z1 (z2 + 1) (uI S 96 z2.toNatClampNeg ((S.1 96) z2.toNatClampNeg))))) else (gd (in_b z2 16) (f_X11_compile_L114 fu K104 nf z1 (z2 + 1) (uI S 96 z2.toNatClampNeg z1))))))
set_option maxHeartbeats 4000000 in
set_option maxRecDepth 100000 in
theorem f_X11_compile_L114_w {fu : Nat} (l : Launch) (g : im_G) (ad : Nat → Nat) {p : Program} {e : Env} {s : State} {m : MethodId} {below : List Frame} {meth : Method} {c : Code} {args : Array Value} (X : im_X p l s m args meth c g cX11_compile 3 RX11 (some Jvm.ClassFile.FieldType.int)) (K104 : Int32 → im_S → Option (Int32 × im_S)) (hK104 : ∀ (z1 : Int32) (S : im_S) (r : Int32) (S' : im_S), K104 z1 S = some (r, S') → im_V p l e (im_R 1905 0 0) s m args below meth c g 3 (im_Z below g ad args s (some (.int r)) S') ad im_N (im_cn g ad S) 0 0 104 [(0, .ref (ad 75)), (1, .int z1)] []) : ∀ (nf : Nat) (z1 : Int32) (z2 : Int32) (S : im_S) (r : Int32) (S' : im_S), f_X11_compile_L114 fu K104 nf z1 z2 S = some (r, S') → im_V p l e (im_R 1905 0 0) s m args below meth c g 3 (im_Z below g ad args s (some (.int r)) S') ad im_N (im_cn g ad S) 0 0 114 [(0, .ref (ad 75)), (1, .int z1), (2, .int z2)] [] := by
  intro nf
  induction nf with
  | zero =>
    intro z1 z2 S r S' hm
    cases hm
  | succ nf ih =>
    intro z1 z2 S r S' hm
    unfold f_X11_compile_L114 at hm
    refine iv_iload_n (pc := 114) X dX11_compile_114 rfl ?_
    refine iv_aload_n (pc := 115) X dX11_compile_115 rfl ?_
    refine gF_X11_397_75 (pc := 116) X dX11_compile_116 (x := S.1 75 35) rfl ?_
    refine iv_icmp_ge (pc := 119) X dX11_compile_119 (tgt := 167) rfl (fun hb1 => ?_) (fun hb1 => ?_)
    · rw [if_pos hb1] at hm
      refine iv_iinc (pc := 167) X dX11_compile_167 rfl (by decide) (v := z1 + 1) rfl (lv' := [(1, .int (z1 + 1)), (0, .ref (ad 75)), (2, .int z2)]) rfl ?_
      refine iv_goto (pc := 170) X dX11_compile_170 (tgt := 104) rfl ?_
      refine iv_sub [1, 0] (lv2 := [(0, .ref (ad 75)), (1, .int (z1 + 1))]) rfl ?_
      exact hK104 (z1 + 1) S _ _ hm
    · rw [if_neg hb1] at hm
      refine iv_aload_n (pc := 122) X dX11_compile_122 rfl ?_
      refine gF_X11_71_75 (pc := 123) X dX11_compile_123 ?_
      refine iv_iload_n (pc := 126) X dX11_compile_126 rfl ?_
      refine iv_aload_n (pc := 127) X dX11_compile_127 rfl ?_
      refine gF_X11_98_75 (pc := 128) X dX11_compile_128 ?_
      refine iv_iload_n (pc := 131) X dX11_compile_131 rfl ?_
      obtain ⟨hg, hm⟩ := gd_some hm
      refine aL_105 (pc := 132) X dX11_compile_132 hg (x := (S.1 105) z1.toNatClampNeg) rfl ?_
      refine iv_aload_n (pc := 133) X dX11_compile_133 rfl ?_
      refine gF_X11_89_75 (pc := 134) X dX11_compile_134 ?_
      refine iv_bipush (pc := 137) X dX11_compile_137 bc_8 ?_
      refine iv_aload_n (pc := 139) X dX11_compile_139 rfl ?_
      refine gF_X11_317_75 (pc := 140) X dX11_compile_140 (x := S.1 75 37) rfl ?_
      refine iv_imul (pc := 143) X dX11_compile_143 ?_
      refine iv_iload_n (pc := 144) X dX11_compile_144 rfl ?_
      refine iv_iadd (pc := 145) X dX11_compile_145 ?_
      obtain ⟨hg, hm⟩ := gd_some hm
      refine aL_102 (pc := 146) X dX11_compile_146 hg (x := (S.1 102) (((8 * (S.1 75 37)) + z2).toNatClampNeg)) rfl ?_
      refine iv_icmp_ne (pc := 147) X dX11_compile_147 (tgt := 154) rfl (fun hb2 => ?_) (fun hb2 => ?_)
      · rw [if_pos hb2] at hm
        refine iv_aload_n (pc := 154) X dX11_compile_154 rfl ?_
        refine gF_X11_71_75 (pc := 155) X dX11_compile_155 ?_
        refine iv_iload_n (pc := 158) X dX11_compile_158 rfl ?_
        obtain ⟨hg, hm⟩ := gd_some hm
        refine aL_96 (pc := 159) X dX11_compile_159 hg (x := (S.1 96) z2.toNatClampNeg) rfl ?_
        obtain ⟨hg, hm⟩ := gd_some hm
        refine aS_96 (pc := 160) X dX11_compile_160 hg ?_
        refine iv_iinc (pc := 161) X dX11_compile_161 rfl (by decide) (v := z2 + 1) rfl (lv' := [(2, .int (z2 + 1)), (0, .ref (ad 75)), (1, .int z1)]) rfl ?_
        refine iv_goto (pc := 164) X dX11_compile_164 (tgt := 114) rfl ?_
        refine iv_sub [1, 2, 0] (lv2 := [(0, .ref (ad 75)), (1, .int z1), (2, .int (z2 + 1))]) rfl ?_
        exact ih z1 (z2 + 1) (uI S 96 z2.toNatClampNeg ((S.1 96) z2.toNatClampNeg)) _ _ hm
      · rw [if_neg hb2] at hm
        refine iv_iload_n (pc := 150) X dX11_compile_150 rfl ?_
        refine iv_goto (pc := 151) X dX11_compile_151 (tgt := 160) rfl ?_
        obtain ⟨hg, hm⟩ := gd_some hm
        refine aS_96 (pc := 160) X dX11_compile_160 hg ?_
        refine iv_iinc (pc := 161) X dX11_compile_161 rfl (by decide) (v := z2 + 1) rfl (lv' := [(2, .int (z2 + 1)), (0, .ref (ad 75)), (1, .int z1)]) rfl ?_
        refine iv_goto (pc := 164) X dX11_compile_164 (tgt := 114) rfl ?_
        refine iv_sub [1, 2, 0] (lv2 := [(0, .ref (ad 75)), (1, .int z1), (2, .int (z2 + 1))]) rfl ?_
        exact ih z1 (z2 + 1) (uI S 96 z2.toNatClampNeg z1) _ _ hm
def f_X11_compile_L104 (fu : Nat) : Nat → Int32 → im_S → Option (Int32 × im_S)
  | 0, _, _ => none
  | nf + 1, z1, S => if (S.1 75 40 : Int32) ≤ z1 then (some (S.1 75 35, (uI (uI (uI S 75 73 0) 75 72 0) 75 74 0))) else (f_X11_compile_L114 fu (f_X11_compile_L104 fu nf) fu z1 0 S)
set_option maxHeartbeats 4000000 in
set_option maxRecDepth 100000 in
theorem f_X11_compile_L104_w {fu : Nat} (l : Launch) (g : im_G) (ad : Nat → Nat) {p : Program} {e : Env} {s : State} {m : MethodId} {below : List Frame} {meth : Method} {c : Code} {args : Array Value} (X : im_X p l s m args meth c g cX11_compile 3 RX11 (some Jvm.ClassFile.FieldType.int)) : ∀ (nf : Nat) (z1 : Int32) (S : im_S) (r : Int32) (S' : im_S), f_X11_compile_L104 fu nf z1 S = some (r, S') → im_V p l e (im_R 1905 0 0) s m args below meth c g 3 (im_Z below g ad args s (some (.int r)) S') ad im_N (im_cn g ad S) 0 0 104 [(0, .ref (ad 75)), (1, .int z1)] [] := by
  intro nf
  induction nf with
  | zero =>
    intro z1 S r S' hm
    cases hm
  | succ nf ih =>
    intro z1 S r S' hm
    unfold f_X11_compile_L104 at hm
    refine iv_iload_n (pc := 104) X dX11_compile_104 rfl ?_
    refine iv_aload_n (pc := 105) X dX11_compile_105 rfl ?_
    refine gF_X11_376_75 (pc := 106) X dX11_compile_106 (x := S.1 75 40) rfl ?_
    refine iv_icmp_ge (pc := 109) X dX11_compile_109 (tgt := 173) rfl (fun hb1 => ?_) (fun hb1 => ?_)
    · rw [if_pos hb1] at hm
      refine iv_aload_n (pc := 173) X dX11_compile_173 rfl ?_
      refine iv_iconst (pc := 174) X dX11_compile_174 ic_0 ?_
      refine pF_X11_400_75 (pc := 175) X dX11_compile_175 rfl ?_
      refine iv_aload_n (pc := 178) X dX11_compile_178 rfl ?_
      refine iv_iconst (pc := 179) X dX11_compile_179 ic_0 ?_
      refine pF_X11_404_75 (pc := 180) X dX11_compile_180 ?_
      refine iv_aload_n (pc := 183) X dX11_compile_183 rfl ?_
      refine iv_iconst (pc := 184) X dX11_compile_184 ic_0 ?_
      refine pF_X11_407_75 (pc := 185) X dX11_compile_185 ?_
      refine iv_aload_n (pc := 188) X dX11_compile_188 rfl ?_
      refine gF_X11_397_75 (pc := 189) X dX11_compile_189 (x := S.1 75 35) rfl ?_
      cases hm
      exact is_iret (pc := 192) X dX11_compile_192
    · rw [if_neg hb1] at hm
      refine iv_iconst (pc := 112) X dX11_compile_112 ic_0 ?_
      refine iv_istore_n (pc := 113) X dX11_compile_113 (by decide) (lv' := [(2, .int 0), (0, .ref (ad 75)), (1, .int z1)]) rfl ?_
      refine iv_sub [1, 2, 0] (lv2 := [(0, .ref (ad 75)), (1, .int z1), (2, .int 0)]) rfl ?_
      exact f_X11_compile_L114_w (fu := fu) l g ad X (f_X11_compile_L104 fu nf) ih fu z1 0 S _ _ hm
def f_X11_compile_L69 (fu : Nat) : Nat → Int32 → im_S → Option (Int32 × im_S)
  | 0, _, _ => none
  | nf + 1, z1, S => if (S.1 75 35 : Int32) ≤ z1 then (f_X11_compile_L104 fu fu 0 S) else (gd (in_b ((8 * (S.1 75 37)) + z1) 16) ((g_X11_opened fu ((S.1 102) (((8 * (S.1 75 37)) + z1).toNatClampNeg)) S).bind (fun qS2 => f_X11_compile_L69 fu nf (z1 + 1) qS2.2)))
set_option maxHeartbeats 4000000 in
set_option maxRecDepth 100000 in
theorem f_X11_compile_L69_w {fu : Nat} (l : Launch) (g : im_G) (ad : Nat → Nat) {p : Program} {e : Env} {s : State} {m : MethodId} {below : List Frame} {meth : Method} {c : Code} {args : Array Value} (X : im_X p l s m args meth c g cX11_compile 3 RX11 (some Jvm.ClassFile.FieldType.int)) : ∀ (nf : Nat) (z1 : Int32) (S : im_S) (r : Int32) (S' : im_S), f_X11_compile_L69 fu nf z1 S = some (r, S') → im_V p l e (im_R 1905 0 0) s m args below meth c g 3 (im_Z below g ad args s (some (.int r)) S') ad im_N (im_cn g ad S) 0 0 69 [(0, .ref (ad 75)), (1, .int z1)] [] := by
  intro nf
  induction nf with
  | zero =>
    intro z1 S r S' hm
    cases hm
  | succ nf ih =>
    intro z1 S r S' hm
    unfold f_X11_compile_L69 at hm
    refine iv_iload_n (pc := 69) X dX11_compile_69 rfl ?_
    refine iv_aload_n (pc := 70) X dX11_compile_70 rfl ?_
    refine gF_X11_397_75 (pc := 71) X dX11_compile_71 (x := S.1 75 35) rfl ?_
    refine iv_icmp_ge (pc := 74) X dX11_compile_74 (tgt := 102) rfl (fun hb1 => ?_) (fun hb1 => ?_)
    · rw [if_pos hb1] at hm
      refine iv_iconst (pc := 102) X dX11_compile_102 ic_0 ?_
      refine iv_istore_n (pc := 103) X dX11_compile_103 (by decide) (lv' := [(1, .int 0), (0, .ref (ad 75))]) rfl ?_
      refine iv_sub [1, 0] (lv2 := [(0, .ref (ad 75)), (1, .int 0)]) rfl ?_
      exact f_X11_compile_L104_w (fu := fu) l g ad X fu 0 S _ _ hm
    · rw [if_neg hb1] at hm
      refine iv_aload_n (pc := 77) X dX11_compile_77 rfl ?_
      refine iv_aload_n (pc := 78) X dX11_compile_78 rfl ?_
      refine gF_X11_89_75 (pc := 79) X dX11_compile_79 ?_
      refine iv_bipush (pc := 82) X dX11_compile_82 bc_8 ?_
      refine iv_aload_n (pc := 84) X dX11_compile_84 rfl ?_
      refine gF_X11_317_75 (pc := 85) X dX11_compile_85 (x := S.1 75 37) rfl ?_
      refine iv_imul (pc := 88) X dX11_compile_88 ?_
      refine iv_iload_n (pc := 89) X dX11_compile_89 rfl ?_
      refine iv_iadd (pc := 90) X dX11_compile_90 ?_
      obtain ⟨hg, hm⟩ := gd_some hm
      refine aL_102 (pc := 91) X dX11_compile_91 hg (x := (S.1 102) (((8 * (S.1 75 37)) + z1).toNatClampNeg)) rfl ?_
      obtain ⟨⟨r3, S2⟩, hc4, hm⟩ := bd_some hm
      refine cV_X11_385_75 (pc := 92) X [.int ((S.1 102) (((8 * (S.1 75 37)) + z1).toNatClampNeg))] [] 1 rfl (g_X11_opened_e l g ad fu ((S.1 102) (((8 * (S.1 75 37)) + z1).toNatClampNeg)) S _ _ hc4) (by decide) (by decide) (Nat.le_of_ble_eq_true rfl) rfl dX11_compile_92 ?_
      refine iv_pop (pc := 95) X dX11_compile_95 rfl ?_
      refine iv_iinc (pc := 96) X dX11_compile_96 rfl (by decide) (v := z1 + 1) rfl (lv' := [(1, .int (z1 + 1)), (0, .ref (ad 75))]) rfl ?_
      refine iv_goto (pc := 99) X dX11_compile_99 (tgt := 69) rfl ?_
      refine iv_sub [1, 0] (lv2 := [(0, .ref (ad 75)), (1, .int (z1 + 1))]) rfl ?_
      exact ih (z1 + 1) S2 _ _ hm
def f_X11_compile (fu : Nat) (S : im_S) : Option (Int32 × im_S) := (f_X11_readProgram fu (uI (uI S 75 3 0) 75 4 0)).bind (fun qS1 => if (qS1.1 : Int32) = 0 then (if (qS1.2.1 75 3 : Int32) = 0 then (f_X11_compile_L69 fu fu 0 (uI (uI (uI (uI (uI qS1.2 75 2 0) 75 0 0) 75 37 (1 - (qS1.2.1 75 37))) 75 35 (qS1.2.1 75 36)) 75 40 0)) else ((f_X11_raise 1 (uI qS1.2 75 2 0)).bind (fun qS6 => some (qS6.1, qS6.2)))) else ((f_X11_lookAll fu qS1.2).bind (fun qS9 => if (qS9.2.1 75 3 : Int32) = 0 then (f_X11_compile_L69 fu fu 0 (uI (uI (uI (uI (uI qS9.2 75 2 0) 75 0 0) 75 37 (1 - (qS9.2.1 75 37))) 75 35 (qS9.2.1 75 36)) 75 40 0)) else ((f_X11_raise 1 (uI qS9.2 75 2 0)).bind (fun qS13 => some (qS13.1, qS13.2))))))
set_option maxHeartbeats 4000000 in
set_option maxRecDepth 100000 in
theorem f_X11_compile_e (l : Launch) (g : im_G) (ad : Nat → Nat) (fu : Nat) (S : im_S) (r : Int32) (S' : im_S) (hm : f_X11_compile fu  S = some (r, S')) : im_E l g ad 1905 yX11_compile cX11_compile 3 (some Jvm.ClassFile.FieldType.int) [.ref (ad 75)] S (some (.int r)) S' := by
  unfold f_X11_compile at hm
  refine is_met (own := RX11) (by decide +kernel) rfl (Nat.le_of_ble_eq_true rfl) (fun p e s m below meth c X => ?_)
  refine iv_aload_n (pc := 0) X dX11_compile_0 rfl ?_
  refine iv_iconst (pc := 1) X dX11_compile_1 ic_0 ?_
  refine pF_X11_228_75 (pc := 2) X dX11_compile_2 ?_
  refine iv_aload_n (pc := 5) X dX11_compile_5 rfl ?_
  refine iv_iconst (pc := 6) X dX11_compile_6 ic_0 ?_
  refine pF_X11_234_75 (pc := 7) X dX11_compile_7 ?_
  refine iv_aload_n (pc := 10) X dX11_compile_10 rfl ?_
  obtain ⟨⟨r2, S1⟩, hc3, hm⟩ := bd_some hm
  refine cV_X11_388_75 (pc := 11) X [] [] 0 rfl (f_X11_readProgram_e l g ad fu  (uI (uI S 75 3 0) 75 4 0) _ _ hc3) (by decide) (by decide) (Nat.le_of_ble_eq_true rfl) rfl dX11_compile_11 ?_
  refine iv_if_eq (pc := 14) X dX11_compile_14 (tgt := 21) rfl (fun hb4 => ?_) (fun hb4 => ?_)
  · rw [if_pos hb4] at hm
    refine iv_aload_n (pc := 21) X dX11_compile_21 rfl ?_
    refine iv_iconst (pc := 22) X dX11_compile_22 ic_0 ?_
    refine pF_X11_190_75 (pc := 23) X dX11_compile_23 ?_
    refine iv_aload_n (pc := 26) X dX11_compile_26 rfl ?_
    refine gF_X11_228_75 (pc := 27) X dX11_compile_27 (x := S1.1 75 3) rfl ?_
    refine iv_if_eq (pc := 30) X dX11_compile_30 (tgt := 39) rfl (fun hb5 => ?_) (fun hb5 => ?_)
    · rw [if_pos hb5] at hm
      refine iv_aload_n (pc := 39) X dX11_compile_39 rfl ?_
      refine iv_iconst (pc := 40) X dX11_compile_40 ic_0 ?_
      refine pF_X11_186_75 (pc := 41) X dX11_compile_41 ?_
      refine iv_aload_n (pc := 44) X dX11_compile_44 rfl ?_
      refine iv_iconst (pc := 45) X dX11_compile_45 ic_1 ?_
      refine iv_aload_n (pc := 46) X dX11_compile_46 rfl ?_
      refine gF_X11_317_75 (pc := 47) X dX11_compile_47 (x := S1.1 75 37) rfl ?_
      refine iv_isub (pc := 50) X dX11_compile_50 ?_
      refine pF_X11_317_75 (pc := 51) X dX11_compile_51 ?_
      refine iv_aload_n (pc := 54) X dX11_compile_54 rfl ?_
      refine iv_aload_n (pc := 55) X dX11_compile_55 rfl ?_
      refine gF_X11_314_75 (pc := 56) X dX11_compile_56 (x := S1.1 75 36) rfl ?_
      refine pF_X11_397_75 (pc := 59) X dX11_compile_59 ?_
      refine iv_aload_n (pc := 62) X dX11_compile_62 rfl ?_
      refine iv_iconst (pc := 63) X dX11_compile_63 ic_0 ?_
      refine pF_X11_376_75 (pc := 64) X dX11_compile_64 ?_
      refine iv_iconst (pc := 67) X dX11_compile_67 ic_0 ?_
      refine iv_istore_n (pc := 68) X dX11_compile_68 (by decide) (lv' := [(1, .int 0), (0, .ref (ad 75))]) rfl ?_
      refine iv_sub [1, 0] (lv2 := [(0, .ref (ad 75)), (1, .int 0)]) rfl ?_
      exact f_X11_compile_L69_w (fu := fu) l g ad X fu 0 (uI (uI (uI (uI (uI S1 75 2 0) 75 0 0) 75 37 (1 - (S1.1 75 37))) 75 35 (S1.1 75 36)) 75 40 0) _ _ hm
    · rw [if_neg hb5] at hm
      refine iv_aload_n (pc := 33) X dX11_compile_33 rfl ?_
      refine iv_iconst (pc := 34) X dX11_compile_34 ic_1 ?_
      obtain ⟨⟨r7, S6⟩, hc8, hm⟩ := bd_some hm
      refine cV_X11_394_75 (pc := 35) X [.int 1] [] 1 rfl (f_X11_raise_e l g ad 1 (uI S1 75 2 0) _ _ hc8) (by decide) (by decide) (Nat.le_of_ble_eq_true rfl) rfl dX11_compile_35 ?_
      cases hm
      exact is_iret (pc := 38) X dX11_compile_38
  · rw [if_neg hb4] at hm
    refine iv_aload_n (pc := 17) X dX11_compile_17 rfl ?_
    obtain ⟨⟨r10, S9⟩, hc11, hm⟩ := bd_some hm
    refine cV_X11_391_75 (pc := 18) X [] [] 0 rfl (f_X11_lookAll_e l g ad fu  S1 _ _ hc11) (by decide) (by decide) (Nat.le_of_ble_eq_true rfl) rfl dX11_compile_18 ?_
    refine iv_aload_n (pc := 21) X dX11_compile_21 rfl ?_
    refine iv_iconst (pc := 22) X dX11_compile_22 ic_0 ?_
    refine pF_X11_190_75 (pc := 23) X dX11_compile_23 ?_
    refine iv_aload_n (pc := 26) X dX11_compile_26 rfl ?_
    refine gF_X11_228_75 (pc := 27) X dX11_compile_27 (x := S9.1 75 3) rfl ?_
    refine iv_if_eq (pc := 30) X dX11_compile_30 (tgt := 39) rfl (fun hb12 => ?_) (fun hb12 => ?_)
    · rw [if_pos hb12] at hm
      refine iv_aload_n (pc := 39) X dX11_compile_39 rfl ?_
      refine iv_iconst (pc := 40) X dX11_compile_40 ic_0 ?_
      refine pF_X11_186_75 (pc := 41) X dX11_compile_41 ?_
      refine iv_aload_n (pc := 44) X dX11_compile_44 rfl ?_
      refine iv_iconst (pc := 45) X dX11_compile_45 ic_1 ?_
      refine iv_aload_n (pc := 46) X dX11_compile_46 rfl ?_
      refine gF_X11_317_75 (pc := 47) X dX11_compile_47 (x := S9.1 75 37) rfl ?_
      refine iv_isub (pc := 50) X dX11_compile_50 ?_
      refine pF_X11_317_75 (pc := 51) X dX11_compile_51 ?_
      refine iv_aload_n (pc := 54) X dX11_compile_54 rfl ?_
      refine iv_aload_n (pc := 55) X dX11_compile_55 rfl ?_
      refine gF_X11_314_75 (pc := 56) X dX11_compile_56 (x := S9.1 75 36) rfl ?_
      refine pF_X11_397_75 (pc := 59) X dX11_compile_59 ?_
      refine iv_aload_n (pc := 62) X dX11_compile_62 rfl ?_
      refine iv_iconst (pc := 63) X dX11_compile_63 ic_0 ?_
      refine pF_X11_376_75 (pc := 64) X dX11_compile_64 ?_
      refine iv_iconst (pc := 67) X dX11_compile_67 ic_0 ?_
      refine iv_istore_n (pc := 68) X dX11_compile_68 (by decide) (lv' := [(1, .int 0), (0, .ref (ad 75))]) rfl ?_
      refine iv_sub [1, 0] (lv2 := [(0, .ref (ad 75)), (1, .int 0)]) rfl ?_
      exact f_X11_compile_L69_w (fu := fu) l g ad X fu 0 (uI (uI (uI (uI (uI S9 75 2 0) 75 0 0) 75 37 (1 - (S9.1 75 37))) 75 35 (S9.1 75 36)) 75 40 0) _ _ hm
    · rw [if_neg hb12] at hm
      refine iv_aload_n (pc := 33) X dX11_compile_33 rfl ?_
      refine iv_iconst (pc := 34) X dX11_compile_34 ic_1 ?_
      obtain ⟨⟨r14, S13⟩, hc15, hm⟩ := bd_some hm
      refine cV_X11_394_75 (pc := 35) X [.int 1] [] 1 rfl (f_X11_raise_e l g ad 1 (uI S9 75 2 0) _ _ hc15) (by decide) (by decide) (Nat.le_of_ble_eq_true rfl) rfl dX11_compile_35 ?_
      cases hm
      exact is_iret (pc := 38) X dX11_compile_38
