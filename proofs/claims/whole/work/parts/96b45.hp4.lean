/-! an event happens, in the class: a function is entered -/
section HP4
variable {K pl : Nat → Nat} {V : Nat → Int64} {y : TR} {e : Nat} {N M L : Nat → Nat} {n ρ τ : Nat} {G : im_S} {sl tO sO kO crt : Nat → Nat} {f : Nat} {W : Nat → Int32 × Int32 × Int32} {ν : Nat → Nat} {q0 : Nat} {ar : Nat → Int64} {S S1 S' : im_S} {En : TPth → Prop} {cv vr vr' : TPth → Nat → Option TVal} {cc : TPth → Option TVal} {mv : Option (TPth × Nat × TVal)} {Aw : TPth → Nat → Prop} {WV WC : TPth → Nat → TPth → Nat → Prop} {WC2 : TPth → TPth → Nat → Prop} {R R' H : List TEv} {nS nF fu : Nat} {fb : Nat → Nat} {fp : Nat → TPth} {fi : TPth → Nat} {tf : TPth → Nat → Nat} {tb : TPth → Nat → Option Nat} {ow si fo : Nat → Int32} {lw : Nat → Int64} {P0 P1 F : TPth} {j r ii p cnt : Nat} {γ : List Nat} {ev : TEv} {as xf : TR}
theorem rts_tl : ∀ as : TR, LL as → (rts as).length = tln as := by
  refine LL_ind rfl (fun p x l hl ih => ?_)
  show (rtk x :: rts l).length = tln l + 1
  rw [List.length_cons, ih]
/-- what a call's arguments are -/
theorem cal_2 (X : XB K pl V y e N M L n ρ τ G sl tO sO kO crt f W ν) (hz : (.tag 4 (.tag j as), γ, r) ∈ scP y) (hi : idx V ((ftP y).map Prod.fst) j = some ii) (hf : (fuP y)[ii]? = some (p, cnt, xf)) : LL as ∧ tln as = cnt ∧ G.1 13 (N j) = nI ii ∧ ∀ z x, agX as z = some x → (x, γ, r) ∈ scP y ∧ z < cnt ∧ G.1 11 (N (rtk x)) = nI (N (p + 2 + 2 * z)) := by
  have C := X.1
  have hAs := X.2.2.1.2.2.2.2.2.2
  have hG := X.2.2.1.2.2.2.2.2.1
  have hLL := hAs _ _ _ _ hz
  obtain ⟨i', p', cnt', xf', v1, v2, v3, v4, v5⟩ := cal_at C hG hAs hz
  rw [hi] at v1
  cases v1
  rw [hf] at v2
  cases v2
  obtain ⟨lp, g1, g2, g3⟩ := hG _ hz
  obtain ⟨i2, p2, cnt2, xf2, u1, u2, u3, u4⟩ := pm_fu C.1 j lp g1
  rw [hi] at u1
  cases u1
  rw [hf] at u2
  cases u2
  have hlen : (rts as).length = cnt := by rw [← g2, u3, pms_len]
  refine ⟨hLL, (rts_tl as hLL).symm.trans hlen, v4, fun z x q => ?_⟩
  obtain ⟨q1, q2, -⟩ := v5 z x q
  obtain ⟨⟨p', e', wz⟩, -, htr⟩ := (tl_P C.1) _ hz
  obtain ⟨-, -, wz⟩ := wz
  have hw : ∃ p1 e1, as = .nil ∨ Wt K as p1 e1 101 := by
    rcases wz with wz | ⟨b, -, wz, -⟩
    · exact ⟨0, 0, .inl wz.1⟩
    · exact ⟨_, _, .inr wz⟩
  obtain ⟨p1, e1, hw⟩ := hw
  have hlt : z < lp.length := by rw [g2, hlen]; exact q1
  exact ⟨htr _ (mc _ ((ag_in as hLL p1 e1 lp z _ x hw g3 (List.getElem?_eq_getElem hlt) q).1 γ r)), q1, q2⟩
set_option maxHeartbeats 4000000 in
/-- the arguments are handed in -/
theorem x_args (hfu : 600000 ≤ fu) (X : XB K pl V y e N M L n ρ τ G sl tO sO kO crt f W ν) (hP : OP V y nF fp fi P0) (hz : (.tag 4 (.tag j as), γ, r) ∈ scP y) (hr : r = hdR P0) (hi : idx V ((ftP y).map Prod.fst) j = some ii) (hf : (fuP y)[ii]? = some (p, cnt, xf)) (hFe : F = (4 * p, j) :: P0) (hF : fi F < nF) (hF2 : fp (fi F) = F) (hW : ∀ b P t, ¬ WV F b P t) (hPk : POk V y F) (hif : ifr y (hdR F)) {z2 z3 : Int32} : ∀ l : TR, LL l → ∀ (u nf : Nat) (S : im_S) (vr0 : TPth → Nat → Option TVal), u + tln l ≤ 4 → tln l < nf → (∀ z x, agX l z = some x → agX as (u + z) = some x) → GA G N j l → CAg G S → MX V y e N L sl tO sO kO S nS nF fb fp fi tf tb ow si fo lw cv vr0 cc Aw WV WC2 → (∀ z, u ≤ z → vr0 F (p + 2 + 2 * z) = none) → ∃ (S' : im_S) (vr1 : TPth → Nat → Option TVal), f_X5_enterFunction_L63 fu nf (nI (fi (fpt y P0))) z2 z3 (nI (fi F)) (hdT N l) (nI u) S = (f_X5_enter fu (nI (fi F)) z3 S').bind (fun q => some ((), q.2)) ∧ MX V y e N L sl tO sO kO S' nS nF fb fp fi tf tb ow si fo lw cv vr1 cc Aw WV WC2 ∧ MK S S' ∧ ∀ F' b' v, vr1 F' b' = some v ↔ vr0 F' b' = some v ∨ (F' = F ∧ ∃ z x, agX l z = some x ∧ b' = p + 2 + 2 * (u + z) ∧ cv P0 (rtk x) = some v) := by
  have C := X.1
  have hS := X.2.1
  have hL := X.2.2.1.2.2.2.2.1
  obtain ⟨hLL, hcnt, h13, hag⟩ := cal_2 X hz hi hf
  refine LL_ind (fun u nf S vr0 hu hnf hsub hG hA hX hv => ?_) (fun t0 x l hl ih u nf S vr0 hu hnf hsub hG hA hX hv => ?_)
  · obtain ⟨nf, rfl⟩ : ∃ q, nf = q + 1 := ⟨nf - 1, by omega⟩
    refine ⟨S, vr0, ?_, hX, MK_r, fun F' b' v => ⟨.inl, fun q => q.elim id (fun ⟨_, z, x, q, _⟩ => by
      have q : none = some x := by cases z <;> exact q
      cases q)⟩⟩
    rw [f_X5_enterFunction_L63]
    by_cases c4 : (4 : Int32) ≤ nI u
    · rw [if_pos c4]
    · rw [if_neg c4, if_pos (show hdT N .nil = -1 from rfl)]
  · obtain ⟨nf, rfl⟩ : ∃ q, nf = q + 1 := ⟨nf - 1, by omega⟩
    have hu : u + (tln l + 1) ≤ 4 := hu
    have hnf : tln l + 1 < nf + 1 := hnf
    obtain ⟨v1, v2, hG2⟩ := hG
    have hx0 : agX as u = some x := hsub 0 x rfl
    obtain ⟨hxs, huc, h11⟩ := hag u x hx0
    have hkx := (x_rx C hS hX hP hxs hr).1
    have hNx := (tk_sl C hS hkx).2.1
    have n4 : ¬ (4 : Int32) ≤ nI u := fun q => by
      have := (mI_le (a := 4) (b := u) (by omega) (by omega)).mp q
      omega
    have hvt : VT V y F (p + 2 + 2 * u) := .inl ⟨p, cnt, xf, u, List.mem_of_getElem? hf, huc, rfl, by rw [hFe]; rfl⟩
    have hkp := (tk_v C hS hL hvt hPk hif).1
    have e48 : ∀ S' : im_S, CAg G S' → S'.1 48 (N (rtk x)) = hdT N l := fun S' q => (q 14 (N (rtk x)) (by omega) (by omega)).1.trans v2
    have hin : in_b (nI (N (rtk x))) 512 = true := mI_in (a := N (rtk x)) (n := 512) (by omega) (by omega)
    have hcl : (nI (N (rtk x))).toNatClampNeg = N (rtk x) := nI_clamp (by omega)
    have hni : nI u + 1 = nI (u + 1) := nI_add u 1
    obtain ⟨hi1, hi2⟩ := k_hin (fu := fu) C hS hA hX hP hxs hr hF (by rw [hF2]; exact hkp) h11
    have step : f_X5_enterFunction_L63 fu (nf + 1) (nI (fi (fpt y P0))) z2 z3 (nI (fi F)) (hdT N (.append (.tag t0 x) l)) (nI u) S = (f_X5_handIn fu (nI (fi (fpt y P0))) (nI (N (rtk x))) (nI (fi F)) S).bind (fun qS9 => f_X5_enterFunction_L63 fu nf (nI (fi (fpt y P0))) z2 z3 (nI (fi F)) ((qS9.2.1 48) (N (rtk x))) (nI (u + 1)) qS9.2) := by
      show f_X5_enterFunction_L63 fu (nf + 1) (nI (fi (fpt y P0))) z2 z3 (nI (fi F)) (nI (N (rtk x))) (nI u) S = _
      rw [f_X5_enterFunction_L63, if_neg n4, if_neg (nI_m1 (show N (rtk x) < 2 ^ 31 by omega)), hin, hcl, hni]
      simp only [gd_t]
    have hsub' : ∀ z x', agX l z = some x' → agX as (u + 1 + z) = some x' := fun z x' q => by
      have := hsub (z + 1) x' q
      rw [show u + 1 + z = u + (z + 1) by omega]
      exact this
    have rest : ∀ b' v, (∃ z x1, agX (.append (.tag t0 x) l) z = some x1 ∧ b' = p + 2 + 2 * (u + z) ∧ cv P0 (rtk x1) = some v) ↔ (b' = p + 2 + 2 * u ∧ cv P0 (rtk x) = some v) ∨ ∃ z x1, agX l z = some x1 ∧ b' = p + 2 + 2 * (u + 1 + z) ∧ cv P0 (rtk x1) = some v := fun b' v => by
      refine ⟨fun ⟨z, x1, q1, q2, q3⟩ => ?_, fun q => ?_⟩
      · cases z with
        | zero =>
          have q1 : some x = some x1 := q1
          cases q1
          exact .inl ⟨q2, q3⟩
        | succ z => exact .inr ⟨z, x1, q1, by rw [q2]; omega, q3⟩
      · rcases q with ⟨q1, q2⟩ | ⟨z, x1, q1, q2, q3⟩
        · exact ⟨0, x, rfl, q1, q2⟩
        · exact ⟨z + 1, x1, q1, by rw [q2]; omega, q3⟩
    cases hcx : cv P0 (rtk x) with
    | none =>
      obtain ⟨S', vr1, k1, k2, k3, k4⟩ := ih (u + 1) nf S vr0 (by omega) (by omega) hsub' hG2 hA hX (fun z q => hv z (by omega))
      refine ⟨S', vr1, ?_, k2, k3, fun F' b' v => ?_⟩
      · rw [step, hi1 hcx]
        simp only [Option.bind_some]
        rw [e48 S hA]
        exact k1
      · rw [k4 F' b' v, rest b' v]
        refine ⟨fun q => q.imp id (fun q => ⟨q.1, .inr q.2⟩), fun q => q.imp id (fun q => ⟨q.1, q.2.elim (fun q => ?_) id⟩)⟩
        rw [hcx] at q
        cases q.2
    | some a =>
      obtain ⟨-, -, r3, r4⟩ := x_rx C hS hX hP hxs hr
      rw [hcx] at r3
      have h0 : vr0 F (p + 2 + 2 * u) = none := hv u (Nat.le_refl _)
      obtain ⟨S1, g1, g2, g3⟩ := x_setv (vr' := fun F1 b => if F1 = F ∧ b = p + 2 + 2 * u then some a else vr0 F1 b) hfu C hS hL hX hF (by rw [hF2]; exact hvt) (by rw [hF2]; exact h0) r3.2.1 r3.2.2 (r4 a hcx) (fun F1 b => by rw [hF2])
      rw [hF2] at g2
      have g2' := MX_cg (Aw' := Aw) (WV' := WV) (WC' := WC2) g2 (fun P t => ⟨.inl, fun q => q.elim id (fun q => absurd q (hW (p + 2 + 2 * u) P t))⟩) (fun F1 b P t => ⟨fun q => ⟨q, fun q' => hW b P t (by rw [← q'.1]; exact q)⟩, fun q => q.1⟩) (fun _ _ _ => Iff.rfl)
      have hA1 := cag_mk hA g3
      obtain ⟨S', vr1, k1, k2, k3, k4⟩ := ih (u + 1) nf S1 _ (by omega) (by omega) hsub' hG2 hA1 g2' (fun z q => (if_neg (fun q' => by have := q'.2; omega)).trans (hv z (by omega)))
      refine ⟨S', vr1, ?_, k2, MK_t g3 k3, fun F' b' v => ?_⟩
      · rw [step, hi2 a hcx, g1]
        simp only [Option.bind_some]
        rw [e48 S1 hA1]
        exact k1
      · rw [k4 F' b' v, rest b' v]
        show (if F' = F ∧ b' = p + 2 + 2 * u then some a else vr0 F' b') = some v ∨ _ ↔ _
        by_cases cb : F' = F ∧ b' = p + 2 + 2 * u
        · rw [if_pos cb]
          refine ⟨fun q => ?_, fun q => ?_⟩
          · rcases q with q | q
            · exact .inr ⟨cb.1, .inl ⟨cb.2, by rw [hcx]; exact q⟩⟩
            · exact .inr ⟨q.1, .inr q.2⟩
          · rcases q with q | ⟨q1, q2 | q2⟩
            · rw [cb.1, cb.2, h0] at q
              cases q
            · exact .inl (by rw [← hcx]; exact q2.2)
            · exact .inr ⟨q1, q2⟩
        · rw [if_neg cb]
          refine ⟨fun q => q.imp id (fun q => ⟨q.1, .inr q.2⟩), fun q => q.imp id (fun q => ⟨q.1, q.2.elim (fun q' => absurd ⟨q.1, q'.1⟩ cb) id⟩)⟩
set_option maxHeartbeats 4000000 in
theorem fh_call (hfu : 600000 ≤ fu) (X : XB K pl V y e N M L n ρ τ G sl tO sO kO crt f W ν) (h20 : nlP y ≤ 20) (hq0 : q0 ∈ (ftP y).map Prod.fst) (h8 : (fuP y).length ≤ 8) (Z : HPz K V y e N L G sl tO sO kO crt q0 ar S S1 En cv vr Aw WV WC R R' H nS nF fb fp fi tf tb ow si fo lw (P1, j, 0)) (hz : (.tag 4 (.tag j as), γ, r) ∈ scP y) (hr : r = hdR P1) : FHo K V y e N L G sl tO sO kO crt q0 ar (f_X5_enterFunction fu (nI (fi (fpt y P1))) (nI (N j)) S1) En cv H (P1, j, 0) tb := by
  obtain ⟨h, hS1, hG1, hRn, hRm, hev, hle, hcv, htb, her⟩ := id Z
  have C := X.1
  have hS := X.2.1
  have hL := X.2.2.1.2.2.2.2.1
  have hE1 : En P1 := (h.1.2.1.2.2.2.1 P1 j 0 (.inl hev)).1
  have hOP1 := h.2.2.2.2.1 P1 hE1
  have hqa := h.1.2.2.2.2.1 P1 _ hE1 hz hr
  have hnH := rh_no h.1.2.1.2.2.1 hev
  obtain ⟨ii, p, cnt, xf, hi, hf, -⟩ := cal_at C X.2.2.1.2.2.2.2.2.1 X.2.2.1.2.2.2.2.2.2 hz
  obtain ⟨hLL, hcnt, h13, hag⟩ := cal_2 X hz hi hf
  obtain ⟨y1, y2, y3, y4, y5, y6, y7, y8, y9, y10, y11, y12⟩ := cf_P C hf
  have hfm := List.mem_of_getElem? hf
  have hpft : p ∈ (ftP y).map Prod.fst := fu_ft C.1 hfm
  have hii : ii < 8 := by
    have : ii < (fuP y).length := by
      rcases Nat.lt_or_ge ii (fuP y).length with q | q
      · exact q
      · rw [List.getElem?_eq_none q] at hf
        cases hf
    omega
  obtain ⟨⟨nj1, f1, f2, f3, -⟩, f4, f5⟩ := cn_P C _ hz
  have hA1 := rm_ca hS1 h.2.2.1
  have hX1 := rm_mx hS1 h.2.1
  have hkj := (op_tk C hS hOP1 hz hr rfl).1
  have hkj : TkF N L e tO (fp (fi (fpt y P1))) j := hkj
  have hNj := (tk_sl C hS hkj).2.1
  have hP1 := pk_ne hOP1.1
  have e44 : 4 * p / 4 = p := by omega
  have hnlp : ¬ p ∈ lpP y := fun q => by
    obtain ⟨z, q1, q2⟩ := List.mem_map.mp q
    exact (ft_fu C.1).2.2 p hpft z (List.mem_filter.mp q1).1 q2
  have hntb : ¬ p ∈ tbP y := fun q => by
    obtain ⟨z, q1, q2⟩ := List.mem_map.mp q
    exact (ft_fu C.1).2.2 p hpft z (List.mem_filter.mp q1).1 q2
  have n0 : ¬ En ((4 * p, j) :: P1) := fun q => hnH ((hqa.2 ii p cnt xf hi hf).1 q)
  have hn : ∀ f, f < nF → fp f ≠ (4 * p, j) :: P1 := frm_n h hP1 (by show ¬ 4 * p / 4 ∈ tbP y; rw [e44]; exact hntb) n0
  have hif : ifr y (4 * p) := ifr_fn C.1 hfm
  have hFk : POk V y ((4 * p, j) :: P1) := pk_call hOP1.1 hz hr hi hf
  have hFz : Z0 y ((4 * p, j) :: P1) := z0_cn hOP1.2.1 (.inl hif)
  have hfF : fpt y ((4 * p, j) :: P1) = (4 * p, j) :: P1 := fpt_y hif
  have hj4 : hdR ((4 * p, j) :: P1) / 4 = p := e44
  obtain ⟨hb, hnF⟩ := ev_room X h20 hq0 Z (F := (4 * p, j) :: P1) ⟨hFk, hFz, hif⟩ (fun ev' q => by
    rw [cs_f (c := (4 * p, j)) (Q := P1) (by show 4 * p / 4 ∈ _; rw [e44]; exact hpft) hP1] at q
    have e1 : (P1, j, 0) = ev' := Option.some.inj q
    rw [← e1]
    exact List.mem_append.mpr (.inl hev)) hP1 hn
  rw [hj4] at hb
  have hLτ : L p < τ := by
    have := (dp_P C _ hFk).2.2
    rw [hfF, hj4] at this
    exact this
  have hpe : p < e := ((ft_fu C.1).2.1 p hpft).2
  have hMp := M_512 C (k := 1) hpe y3
  obtain ⟨g0a, g0b, g0c⟩ := frm_c h hn
  obtain ⟨S3, g1, g2, g3⟩ := x_frm (fu := fu) (F := (4 * p, j) :: P1) (R := M p) (o := nI (fi (fpt y P1))) (x := nI (N j)) (by omega) C hS hX1 ⟨hFk, hFz, hif⟩ hn (by omega) (by rw [hj4]; exact (hA1 27 (M p) (by omega) (by omega)).1.trans y5) (by rw [hj4]; exact (hA1 28 (L p) (by have := C.2.2.2.2.2.2.1; omega) (by omega)).1.trans (hS.1 (L p) hLτ)) (by rw [hj4]; exact hb) hnF g0a (fun b _ => g0b b) g0c hL
  rw [hj4] at g2
  have hOP3 := fn_op hn hOP1
  have hOPF : OP V y (nF + 1) (upN fp nF ((4 * p, j) :: P1)) (fun Q => if Q = (4 * p, j) :: P1 then nF else fi Q) ((4 * p, j) :: P1) := fn_opF hFk hFz hfF
  obtain ⟨fi3, hfi3⟩ : ∃ fi3 : TPth → Nat, fi3 = fun Q => if Q = (4 * p, j) :: P1 then nF else fi Q := ⟨_, rfl⟩
  obtain ⟨fp3, hfp3⟩ : ∃ fp3 : Nat → TPth, fp3 = upN fp nF ((4 * p, j) :: P1) := ⟨_, rfl⟩
  obtain ⟨fb3, hfb3⟩ : ∃ fb3 : Nat → Nat, fb3 = upN fb nF nS := ⟨_, rfl⟩
  obtain ⟨lw3, hlw3⟩ : ∃ lw3 : Nat → Int64, lw3 = fun s => if s < nS then lw s else 0 := ⟨_, rfl⟩
  rw [← hfi3, ← hfp3] at hOP3 hOPF
  rw [← hfi3, ← hfp3, ← hfb3, ← hlw3] at g2
  have eo : ∀ {Q : TPth}, fi Q < nF → fp (fi Q) = Q → fi3 Q = fi Q ∧ fp3 (fi Q) = Q ∧ fb3 (fi Q) = fb (fi Q) := fun {Q} q1 q2 => by
    rw [hfi3, hfp3, hfb3]
    exact fn_fi hn q1 q2
  obtain ⟨e0, -, e0b⟩ := eo hOP1.2.2.1 hOP1.2.2.2
  have eF : fi3 ((4 * p, j) :: P1) = nF := by rw [hfi3]; exact if_pos rfl
  have eFp : fp3 nF = (4 * p, j) :: P1 := by rw [hfp3]; exact upN_eq
  have hA3 := cag_mk hA1 g3
  have hkj3 : TkF N L e tO (fp3 (fi3 (fpt y P1))) j := by rw [hOP3.2.2.2, ← hOP1.2.2.2]; exact hkj
  have hsl := x_slot C hS hA3 g2 hOP3.2.2.1 hkj3
  rw [e0, e0b] at hsl
  obtain ⟨g4, g5⟩ := x_sec (w := (nI nF).toInt64) C hS g2 hOP3 hz hr rfl (.inl rfl)
  obtain ⟨sx, hsx⟩ : ∃ sx, sx = fb (fi (fpt y P1)) + sO (N j) + 1 := ⟨_, rfl⟩
  have esx : fb3 (fi3 (fpt y P1)) + sO (N j) + 1 = sx := by rw [e0, e0b, hsx]
  have g4 : MX V y e N L sl tO sO kO (uJ S3 66 (fb3 (fi3 (fpt y P1)) + sO (N j) + 1) (nI nF).toInt64) (nS + sl (L p)) (nF + 1) fb3 fp3 fi3 tf tb (upN ow nF (nI (fi (fpt y P1)))) (upN si nF (nI (N j))) (upN fo nF 0) (upN lw3 (fb3 (fi3 (fpt y P1)) + sO (N j) + 1) (nI nF).toInt64) cv vr (fun D => cv D (crt (hdR D / 4))) Aw WV (fun D P t => ∃ t', WC D t' P t) := g4
  have g5 : MK S3 (uJ S3 66 (fb3 (fi3 (fpt y P1)) + sO (N j) + 1) (nI nF).toInt64) := g5
  rw [esx] at g4 g5
  have hA4 := cag_mk hA3 g5
  have hFlt : fi3 ((4 * p, j) :: P1) < nF + 1 := by rw [eF]; omega
  have hFp : fp3 (fi3 ((4 * p, j) :: P1)) = (4 * p, j) :: P1 := by rw [eF]; exact eFp
  obtain ⟨S5, vr1, k1, k2, k3, k4⟩ := x_args (fu := fu) (z2 := nI (N j)) (z3 := nI (M p)) hfu X hOP3 hz hr hi hf rfl hFlt hFp g0c hFk hif as hLL 0 fu _ vr (by omega) (by omega) (fun z x q => by rw [Nat.zero_add]; exact q) f5 hA4 g4 (fun z _ => g0b _)
  have hA5 := cag_mk hA4 k3
  have hnw : ∀ t, ¬ (Aw ((4 * p, j) :: P1) t ∨ (∃ F b, WV F b ((4 * p, j) :: P1) t) ∨ ∃ D, (fun D P t => ∃ t', WC D t' P t) D ((4 * p, j) :: P1) t) := fun t q => n0 (h.1.2.1.2.2.2.2.1 _ t (q.imp id (Or.imp id (fun ⟨D, t', q⟩ => ⟨D, t', q⟩)))).1
  obtain ⟨bx, ex, wx, hlt⟩ := fu_wt C.1 p cnt xf hfm
  obtain ⟨S6, m1, m2, m3⟩ := h_ent (fu := fu) (by omega) X hA5 k2 hOPF hnw (R0 := M p) (by omega) (fun t => lv_fn C.1 hfm t) (lv_nd wx).1 y11
  rw [hfF, eF] at m1
  rw [e0, eF] at k1
  have hk6 := MK_t g3 (MK_t g5 (MK_t k3 m3))
  have hxl := x_len g2
  have hsxl := x_rl C hS g2 hOP3 hz hr rfl (.inl rfl)
  have hsxl : fb3 (fi3 (fpt y P1)) + sO (N j) + 1 < nS + sl (L p) := hsxl.1
  rw [esx] at hsxl
  have hrun : f_X5_enterFunction fu (nI (fi (fpt y P1))) (nI (N j)) S1 = some ((), S6) := by
    unfold f_X5_enterFunction
    rw [mI_in (a := N j) (n := 512) (by omega) (by omega), nI_clamp (show N j < 2 ^ 31 by omega), (hA1 13 (N j) (by omega) (by omega)).1.trans h13, mI_in (a := ii) (n := 8) (by omega) hii, nI_clamp (show ii < 2 ^ 31 by omega), (hA1 24 ii (by omega) (by omega)).1.trans y2, g1]
    simp only [gd_t, Option.bind_some]
    rw [hsl]
    simp only [Option.bind_some]
    rw [show nI (fb (fi (fpt y P1)) + sO (N j)) + 1 = nI sx by rw [hsx]; exact nI_add _ 1, mI_in (a := sx) (n := S3.2.2 66) (by omega) (by omega), nI_clamp (show sx < 2 ^ 31 by omega), (hA3 12 (N j) (by omega) (by omega)).1.trans f4, show (0 : Int32) = nI 0 from rfl, k1]
    simp only [gd_t]
    rw [m1]
    rfl
  have hwv : ∀ F b P t, WV F b P t → vr1 F b = none := fun F b P t q => by
    have v0 := (h.1.2.1.2.2.2.2.2.1 F b P t q).1
    cases hc : vr1 F b with
    | none => rfl
    | some v =>
      rcases (k4 F b v).mp hc with u | u
      · rw [v0] at u
        cases u
      · rw [u.1] at q
        exact absurd q (g0c b P t)
  have hwc : ∀ D t' P t, WC D t' P t → cv D t' = none := fun D t' P t q => (h.1.2.1.2.2.2.2.2.2.1 D t' P t q).1
  obtain ⟨w1', w2', w3'⟩ := aw_en (y := y) (Aw := Aw) (Sl := fun _ _ => False) (NE := fun P => P = (4 * p, j) :: P1) hwv hwc
  obtain ⟨sow, hly⟩ := x_ly hX1
  have hsub : ∀ e, e ∈ R' → e ∈ R := fun e q => ((hRm e).mp q).1
  have htg : TgF V y (.tag 4 (.tag j as), γ, r) (4 * p, j) := .inl ⟨j, as, ii, p, cnt, xf, rfl, hi, hf, rfl⟩
  have hvr : ∀ F b v, vr1 F b = some v ↔ vr F b = some v ∨ (F = (4 * p, j) :: P1 ∧ ∃ z xz, z < cnt ∧ agX as z = some xz ∧ b = p + 2 + 2 * z ∧ cv P1 (rtk xz) = some v) := fun F b v => by
    rw [k4 F b v]
    refine ⟨fun q => q.imp id (fun ⟨q1, z, x, q2, q3, q4⟩ => ⟨q1, z, x, (hag z x q2).2.1, q2, by rw [q3, Nat.zero_add], q4⟩), fun q => q.imp id (fun ⟨q1, z, x, q2, q3, q4, q5⟩ => ⟨q1, z, x, q3, by rw [q4, Nat.zero_add], q5⟩)⟩
  refine ⟨S6, fun P => En P ∨ P = (4 * p, j) :: P1, vr1, none, _, _, _, R', nS + sl (L p), nF + 1, fb3, fp3, fi3, tf, tb, upN ow nF (nI (fi (fpt y P1))), upN si nF (nI (N j)), upN fo nF 0, upN lw3 sx (nI nF).toInt64, hrun, ⟨AB_fl (H_call X.2.2.1 h.1 hz hr hev hRn hRm hi hf hvr) (fun q => by omega), MX_cg m2 (fun P t => ?_) w2' w3', cag_mk hA5 m3, mg_fr hG1 hk6 (fun ev q => ?_), fun P q => ?_, ?_, ?_, MW_iff.mpr ⟨?_, fun P j' fs' c' ns' g' γ' r' i q1 q2 => ?_⟩, mrs_k h.2.2.2.2.2.2.2.2.1 ((hk6.1 38 3 (by omega) (by omega)).trans (hS1.1 38 3 (by omega))) ((hk6.2.1 38 4 (by omega)).trans (by rw [hS1.2])), ⟨fun F b a q => ?_, fun F b P t q => ?_⟩⟩, ?_, htb, fun P t q => her P t (hsub _ q), fun P q => .inl q, [], Nat.zero_le _, fun P t m i q _ => .inl q⟩
  · rw [w1' P t]
    exact ⟨fun q => q.imp (fun q => q.1) id, fun q => q.imp (fun q => ⟨q, id⟩) id⟩
  · obtain ⟨Q, u1, u2, u3⟩ := ev_fr X h (hsub _ q)
    exact ⟨Q, u1, (eo u2 u3).1⟩
  · rcases q with q | q
    · rw [hfp3, hfi3]
      exact fn_op hn (h.2.2.2.2.1 P q)
    · rw [q]
      exact hOPF
  · rw [hfp3, hfi3]
    refine fn_MO (c := (4 * p, j)) (Q := P1) h.2.2.2.2.2.1 h.2.2.2.2.1 hn (fun P q => .inl q) rfl hP1 hE1 rfl (fun _ => rfl) (fun _ => .inr rfl) (fun q => absurd (show p ∈ _ by rw [← e44]; exact q) hntb) (fun d D q1 q2 => ?_) (fun q => absurd (show p ∈ _ by rw [← e44]; exact q) hnlp)
    have hE2 : En ((d.1, d.2 + 1) :: D) := by
      rcases q2 with q2 | q2
      · exact q2
      · have : d.1 = 4 * p := congrArg Prod.fst (List.cons.inj q2).1
        rw [this, e44] at q1
        exact absurd q1 hnlp
    refine ⟨hE2, fpt_y (Classical.byContradiction (fun q => ?_))⟩
    have := (h.1.1.2.1 _ hE2).2 _ List.mem_cons_self q
    have : d.2 + 1 = 0 := this
    omega
  · rw [hfp3, hfi3]
    exact fn_MT (mt_ev h.2.2.2.2.2.2.1 hev hsub) hn
  · have ht7 := (MW_iff.mp h.2.2.2.2.2.2.2.1).1
    rw [hfp3, hfi3, hfb3, hlw3, hsx]
    refine fn_MW (lw := lw) ht7 h.2.2.2.2.1 hn h.1.1.2.2.1 (fun P c q => q.imp id .inl) (fun P q => .inl q) (fun P z d q1 q2 q3 q4 q5 => ⟨.inr rfl, ?_⟩) (fun P z d q1 q2 q3 q4 q5 => fn_lw C hS hly (z0 := (.tag 4 (.tag j as), γ, r)) hOP1 hz hr htg P z d q1 q2 q3 q4 q5) (fun s q => ?_)
    · obtain ⟨q5, q6⟩ := List.cons.inj q5
      have ez : otk z.1 = j := by
        rcases q4 with ⟨j', as', i, p', cnt', xf', v1, v2, v3, v4⟩ | ⟨j', fs', d', ns', g', v1, v2⟩
        · rw [q5] at v4
          have : j = j' := congrArg Prod.snd v4
          rw [v1]
          exact this.symm
        · rw [q5] at v2
          have : 4 * p = 4 * j' := congrArg Prod.fst v2
          have e1 : otk z.1 = p := by
            rw [v1]
            show j' = p
            omega
          exact absurd e1 ((ft_fu C.1).2.2 p hpft z q2)
      rw [q6, ez]
      exact upN_eq
    · rw [upN_ne (fun q' => ?_)]
      · exact if_neg (by omega)
      · have := tg_lt C hS hly hOP1 hz hr htg
        have : fb (fi (fpt y P1)) + sO (N j) + 1 < nS := this
        omega
  · rcases q2 with q2 | q2
    · exact .inl (h.2.2.2.2.2.2.2.1.2.1 P j' fs' c' ns' g' γ' r' i q1 q2)
    · have : 4 * j' + 1 = 4 * p := congrArg Prod.fst (List.cons.inj q2).1
      omega
  · rcases (k4 F b a).mp q with q | q
    · rw [hfp3, hfi3]
      exact (fn_MV h.2.2.2.2.2.2.2.2.2 hn).1 F b a q
    · rw [q.1]
      exact ⟨hFlt, hFp⟩
  · rw [hfp3, hfi3]
    exact (fn_MV h.2.2.2.2.2.2.2.2.2 hn).2 F b P t q.1
  · have hcf := cvs_fn (F := (4 * p, j) :: P1) hcv
    rw [hj4] at hcf
    rw [hfp3, hfb3]
    exact hcf
end HP4
