/-! the class begins a loop -/
section LOP
variable {K pl : Nat → Nat} {V : Nat → Int64} {y : TR} {e : Nat} {N M L : Nat → Nat} {n ρ τ : Nat} {G : im_S} {sl tO sO kO crt : Nat → Nat} {f : Nat} {W : Nat → Int32 × Int32 × Int32} {ν : Nat → Nat} {q0 : Nat} {ar : Nat → Int64} {S S2 : im_S} {En : TPth → Prop} {cv vr : TPth → Nat → Option TVal} {mv : Option (TPth × Nat × TVal)} {Aw : TPth → Nat → Prop} {WV WC : TPth → Nat → TPth → Nat → Prop} {R H : List TEv} {nS nF fu : Nat} {fb : Nat → Nat} {fp : Nat → TPth} {fi : TPth → Nat} {tf : TPth → Nat → Nat} {tb : TPth → Nat → Option Nat} {ow si fo : Nat → Int32} {lw : Nat → Int64} {P0 : TPth} {j r : Nat} {γ : List Nat} {fs c ns g : TR}
/-- what is ready has a frame -/
theorem ev_fr (X : XB K pl V y e N M L n ρ τ G sl tO sO kO crt f W ν) (h : MI K V y e N L G sl tO sO kO crt q0 ar S En cv vr mv Aw WV WC R H nS nF fb fp fi tf tb ow si fo lw) {ev : TEv} (hv : ev ∈ R) : ∃ Q, evFr y ev Q ∧ fi Q < nF ∧ fp (fi Q) = Q := by
  obtain ⟨P, t, i⟩ := ev
  obtain ⟨hE, z, z1, z2, z3, z4⟩ := h.1.2.1.2.2.2.1 P t i (.inl hv)
  have hOP := h.2.2.2.2.1 P hE
  have hs := ((tl_P X.1.1) z z1).2.1
  have hqa := h.1.2.2.2.2.1 P z hE z1 z2
  by_cases c1 : t ∈ lpP y
  · refine ⟨_, .inl ⟨c1, rfl⟩, ?_⟩
    have hlk : lpK z.1 = true := by
      cases hl : lpK z.1 with
      | true => rfl
      | false => exact absurd (by rw [z3]; exact c1) (lp_no X.1.1 z1 hl)
    have hEn : En ((4 * t, i) :: P) := by
      obtain ⟨x, γ, r⟩ := z
      have hs : shp x := hs
      rcases hs with ⟨j, rfl⟩ | ⟨j, rfl⟩ | ⟨j, rfl⟩ | ⟨j, as, rfl⟩ | ⟨j, a, b, rfl⟩ | ⟨j, a, b, d, rfl⟩ | ⟨j, fs, d, ns, g, rfl⟩ | ⟨j, a, rfl⟩ | ⟨j, a, b, rfl⟩ | ⟨j, a, b, rfl⟩ | ⟨j, a, b, rfl⟩ | ⟨j, a, rfl⟩
      · cases hlk
      · cases hlk
      · cases hlk
      · cases hlk
      · cases hlk
      · cases hlk
      · have z3 : j = t := z3
        subst z3
        exact (hqa.2.1 i (.inl hv)).1
      · cases hlk
      · cases hlk
      · cases hlk
      · cases hlk
      · cases hlk
    have hO := h.2.2.2.2.1 _ hEn
    have hif : ifr y (4 * t) := by
      have := (ifr_nd X.1.1 z1 (k := 0) (by omega)).mpr (.inl ⟨hlk, rfl⟩)
      rw [z3] at this
      exact this
    rw [OP, show fpt y ((4 * t, i) :: P) = (4 * t, i) :: P from fpt_y hif] at hO
    exact hO.2.2
  · by_cases c2 : t ∈ tbP y ∧ i ≠ 0
    · refine ⟨_, .inr (.inl ⟨c1, c2, rfl⟩), ?_⟩
      obtain ⟨k, rfl⟩ : ∃ k, i = k + 1 := ⟨i - 1, by have := c2.2; omega⟩
      have htk : tbK z.1 = true := by
        cases hl : tbK z.1 with
        | true => rfl
        | false => exact absurd (by rw [z3]; exact c2.1) (tb_no X.1.1 z1 hl)
      obtain ⟨x, γ, r⟩ := z
      have hs : shp x := hs
      rcases hs with ⟨j, rfl⟩ | ⟨j, rfl⟩ | ⟨j, rfl⟩ | ⟨j, as, rfl⟩ | ⟨j, a, b, rfl⟩ | ⟨j, a, b, d, rfl⟩ | ⟨j, fs, d, ns, g, rfl⟩ | ⟨j, a, rfl⟩ | ⟨j, a, b, rfl⟩ | ⟨j, a, b, rfl⟩ | ⟨j, a, b, rfl⟩ | ⟨j, a, rfl⟩
      · cases htk
      · cases htk
      · cases htk
      · cases htk
      · cases htk
      · cases htk
      · cases htk
      · cases htk
      · cases htk
      · cases htk
      · have z3 : j = t := z3
        subst z3
        obtain ⟨m, u1, u2⟩ := h.2.2.2.2.2.2.1.2.2 P j k a b γ r (.inl hv) z1
        obtain ⟨-, x1, x1', γ1, r1, -, -, u3⟩ := h.2.2.2.2.2.2.1.2.1 P j m u1
        exact u3 k u2
      · cases htk
    · exact ⟨_, .inr (.inr ⟨c1, c2, rfl⟩), hOP.2.2⟩
theorem fv_loop (hfu : 600000 ≤ fu) (X : XB K pl V y e N M L n ρ τ G sl tO sO kO crt f W ν) (h : MI K V y e N L G sl tO sO kO crt q0 ar S En cv vr none Aw WV WC R H nS nF fb fp fi tf tb ow si fo lw) (hX : MX V y e N L sl tO sO kO S2 nS nF fb fp fi tf tb ow si fo lw cv vr (fun D => cv D (crt (hdR D / 4))) (fun P t => Aw P t ∧ ¬ (P = P0 ∧ t = j)) WV (fun D P t => ∃ t', WC D t' P t)) (hk : MK S S2) (hA : Aw P0 j) (hz : (.tag 7 (.tag j (.append fs (.append c (.append ns g)))), γ, r) ∈ scP y) (hr : r = hdR P0) (h4 : tln fs ≤ 4) (hb : nS + sl (L j) ≤ 523264) (hnF : nF < 32768) : FVo K V y e N L G sl tO sO kO crt q0 ar ((f_X5_beginLoop fu (nI (fi (fpt y P0))) (nI (N j)) S2).bind (fun q => some ((), q.2))) En cv vr Aw WV WC R H P0 j nS nF fb fp tf tb := by
  have C := X.1
  have hS := X.2.1
  have hL := X.2.2.1.2.2.2.2.1
  have hEn : En P0 := (h.1.2.1.2.2.2.2.1 P0 j (.inl hA)).1
  have hOP := h.2.2.2.2.1 P0 hEn
  have hqa := h.1.2.2.2.2.1 P0 _ hEn hz hr
  have n0 : ¬ En ((4 * j, 0) :: P0) := hqa.1 (.inl hA)
  have hif : ifr y (4 * j) := (ifr_nd C.1 hz (k := 0) (by omega)).mpr (.inl ⟨rfl, rfl⟩)
  have hFk : POk V y ((4 * j, 0) :: P0) := pk_nd hOP.1 hz (.inl ⟨rfl, hr.symm⟩)
  have hFz : Z0 y ((4 * j, 0) :: P0) := z0_cn hOP.2.1 (.inr rfl)
  have hfF : fpt y ((4 * j, 0) :: P0) = (4 * j, 0) :: P0 := fpt_y hif
  have hj4 : hdR ((4 * j, 0) :: P0) / 4 = j := by show 4 * j / 4 = j; omega
  have hnft : ¬ j ∈ (ftP y).map Prod.fst := fun q => (ft_fu C.1).2.2 j q _ hz rfl
  have hntb : ¬ j ∈ tbP y := tb_no C.1 hz rfl
  have hlpj : j ∈ lpP y := lp_in hz rfl
  have e44 : 4 * j / 4 = j := by omega
  have hn : ∀ f, f < nF → fp f ≠ (4 * j, 0) :: P0 := fun f hf q => by
    by_cases c0 : f = 0
    · rw [c0, h.2.2.2.2.2.1.2.1] at q
      exact pk_ne hOP.1 (List.cons.inj q).2.symm
    · obtain ⟨d, D, o1, o2, o3, o4, o5, o6, -⟩ := h.2.2.2.2.2.1.2.2.2 f hf c0
      rw [q] at o1
      have e1 : (4 * j, 0) = d := (List.cons.inj o1).1
      have e2 : P0 = D := (List.cons.inj o1).2
      subst e1
      subst e2
      exact n0 (o6 (by show ¬ 4 * j / 4 ∈ tbP y; rw [e44]; exact hntb))
  obtain ⟨f1, f2, f3, f4, f5, f6, f7, f8, f9, f10, f11, f12, f13, f14, f15, f16, f17⟩ := cn_P C _ hz
  have hje : j < e := (nd_P C hz rfl).2.2.2
  have hMj : M j < 512 := by
    have h1 := (C.2.1 (j + 1) e (by omega) (Nat.le_refl _)).2.1
    have h2 := C.2.2.2.1
    have h3 := C.2.2.2.2.2.2.2.1
    omega
  have hkj := (op_tk C hS hOP hz hr rfl).1
  have hkj : TkF N L e tO (fp (fi (fpt y P0))) j := hkj
  have hNj := (tk_sl C hS hkj).2.1
  have hLτ : L j < τ := by
    have := (dp_P C _ hFk).2.2
    rw [hfF, hj4] at this
    exact this
  have hA2 := cag_mk h.2.2.1 hk
  have hτ := C.2.2.2.2.2.2.1
  obtain ⟨S3, g1, g2, g3⟩ := x_frm (fu := fu) (F := (4 * j, 0) :: P0) (R := M j) (o := nI (fi (fpt y P0))) (x := nI (N j)) (by omega) C hS hX ⟨hFk, hFz, hif⟩ hn hMj (by rw [hj4]; exact (hA2 27 (M j) (by omega) (by omega)).1.trans f9) (by rw [hj4]; exact (hA2 28 (L j) (by omega) (by omega)).1.trans (hS.1 (L j) hLτ)) (by rw [hj4]; exact hb) hnF (fun P z q1 q2 q3 q4 q5 q6 => by
    cases hc : cv P (otk z.1) with
    | none => rfl
    | some v =>
      have := h.2.2.2.2.1 P (h.1.2.1.1 P _ v (.inl hc)).1
      exact absurd (this.2.2.2.trans q3) (hn _ this.2.2.1)) (fun b _ => by
    cases hc : vr ((4 * j, 0) :: P0) b with
    | none => rfl
    | some v =>
      have := h.2.2.2.2.2.2.2.2.2.1 _ b v hc
      exact absurd this.2 (hn _ this.1)) (fun b P t q => by
    have := h.2.2.2.2.2.2.2.2.2.2 _ b P t q
    exact absurd this.2 (hn _ this.1)) hL
  rw [hj4] at g2
  have hOP3 : OP V y (nF + 1) (upN fp nF ((4 * j, 0) :: P0)) (fun Q => if Q = (4 * j, 0) :: P0 then nF else fi Q) P0 := fn_op hn hOP
  have hOPF : OP V y (nF + 1) (upN fp nF ((4 * j, 0) :: P0)) (fun Q => if Q = (4 * j, 0) :: P0 then nF else fi Q) ((4 * j, 0) :: P0) := fn_opF hFk hFz hfF
  obtain ⟨fi3, hfi3⟩ : ∃ fi3 : TPth → Nat, fi3 = fun Q => if Q = (4 * j, 0) :: P0 then nF else fi Q := ⟨_, rfl⟩
  obtain ⟨fp3, hfp3⟩ : ∃ fp3 : Nat → TPth, fp3 = upN fp nF ((4 * j, 0) :: P0) := ⟨_, rfl⟩
  obtain ⟨fb3, hfb3⟩ : ∃ fb3 : Nat → Nat, fb3 = upN fb nF nS := ⟨_, rfl⟩
  obtain ⟨lw3, hlw3⟩ : ∃ lw3 : Nat → Int64, lw3 = fun s => if s < nS then lw s else 0 := ⟨_, rfl⟩
  rw [← hfi3, ← hfp3] at hOP3 hOPF
  rw [← hfi3, ← hfp3, ← hfb3, ← hlw3] at g2
  have eo : ∀ {Q : TPth}, fi Q < nF → fp (fi Q) = Q → fi3 Q = fi Q ∧ fp3 (fi Q) = Q ∧ fb3 (fi Q) = fb (fi Q) := fun {Q} q1 q2 => by
    rw [hfi3, hfp3, hfb3]
    exact fn_fi hn q1 q2
  obtain ⟨e0, -, e0b⟩ := eo hOP.2.2.1 hOP.2.2.2
  have eF : fi3 ((4 * j, 0) :: P0) = nF := by rw [hfi3]; exact if_pos rfl
  have eFp : fp3 nF = (4 * j, 0) :: P0 := by rw [hfp3]; exact upN_eq
  have hA3 := cag_mk hA2 g3
  have hkj3 : TkF N L e tO (fp3 (fi3 (fpt y P0))) j := by rw [hOP3.2.2.2, ← hOP.2.2.2]; exact hkj
  have hsl := x_slot C hS hA3 g2 hOP3.2.2.1 hkj3
  rw [e0, e0b] at hsl
  obtain ⟨g4, g5⟩ := x_sec (w := (nI nF).toInt64) C hS g2 hOP3 hz hr rfl (.inr rfl)
  obtain ⟨sx, hsx⟩ : ∃ sx, sx = fb (fi (fpt y P0)) + sO (N j) + 1 := ⟨_, rfl⟩
  have esx : fb3 (fi3 (fpt y P0)) + sO (N j) + 1 = sx := by rw [e0, e0b, hsx]
  have g4 : MX V y e N L sl tO sO kO (uJ S3 66 (fb3 (fi3 (fpt y P0)) + sO (N j) + 1) (nI nF).toInt64) (nS + sl (L j)) (nF + 1) fb3 fp3 fi3 tf tb (upN ow nF (nI (fi (fpt y P0)))) (upN si nF (nI (N j))) (upN fo nF 0) (upN lw3 (fb3 (fi3 (fpt y P0)) + sO (N j) + 1) (nI nF).toInt64) cv vr (fun D => cv D (crt (hdR D / 4))) (fun P t => Aw P t ∧ ¬ (P = P0 ∧ t = j)) WV (fun D P t => ∃ t', WC D t' P t) := g4
  have g5 : MK S3 (uJ S3 66 (fb3 (fi3 (fpt y P0)) + sO (N j) + 1) (nI nF).toInt64) := g5
  rw [esx] at g4 g5
  obtain ⟨lf, ln⟩ := hL _ _ _ _ _ _ _ hz
  obtain ⟨⟨p', e', wz⟩, -, htr⟩ := (tl_P C.1) _ hz
  obtain ⟨hjp, b1, d1, ff1, n1, n2, w1, w2, w3, w4⟩ := wz
  have hjp : j = p' := hjp
  have hA4 := cag_mk hA3 g5
  have hWF : ∀ b P t, ¬ WV ((4 * j, 0) :: P0) b P t := fun b P t q => by
    have := h.2.2.2.2.2.2.2.2.2.2 _ b P t q
    exact hn _ this.1 this.2
  have hFlt : fi3 ((4 * j, 0) :: P0) < nF + 1 := by rw [eF]; omega
  have hFp : fp3 (fi3 ((4 * j, 0) :: P0)) = (4 * j, 0) :: P0 := by rw [eF]; exact eFp
  have hvF : ∀ b, vr ((4 * j, 0) :: P0) b = none := fun b => by
    cases hc : vr ((4 * j, 0) :: P0) b with
    | none => rfl
    | some v =>
      have := h.2.2.2.2.2.2.2.2.2.1 _ b v hc
      exact absurd this.2 (hn _ this.1)
  obtain ⟨S5, vr1, k1, k2, k3, k4⟩ := x_vars (fu := fu) (z2 := nI (N j)) (z3 := nI (M j)) hfu X hOP3 hz hr hFlt hFp hWF hFk fs lf (p' + 1) b1 fu 0 _ vr (by omega) (by omega) (.inr w1) (fun b q => q) (fun b x q _ => q) f16 hA4 g4 (fun b _ => hvF b) (fun v ⟨P, t, q⟩ => va_rg C.1 h.1 (.inl q))
  have hA5 := cag_mk hA4 k3
  have hlvs := lv_nd w2
  have hb1 := Wt_lt w1
  have hlz : ∀ t, t ∈ lvs c → ∃ z, NdA y ((4 * j, 0) :: P0) t z ∧ lfK z.1 = true := fun t q => by
    obtain ⟨z, u1, u2, u3, u4⟩ := (lv_rg C.1 hz (x1 := c) (r1 := 4 * j) (γ1 := bnd fs γ) (.inl ⟨rfl, rfl⟩) w2 (by omega) (fun z q => htr z (mc _ (mr _ (ml _ q)))) t).mp q
    exact ⟨z, ⟨u1, u2, u3, (lf_rt ((tl_P C.1) z u1).2.1 u4).trans u3⟩, u4⟩
  have hFw : ∀ t, ¬ AwW Aw WV WC ((4 * j, 0) :: P0) t := fun t q => n0 (h.1.2.1.2.2.2.2.1 _ t q).1
  obtain ⟨S6, m1, m2, m3⟩ := x_enter (fu := fu) (R := M j) (l := lvs c) (by omega) C hS hOPF hMj (lv_le C hS hFk hlvs.1 (fun t q => by obtain ⟨z, q1, -⟩ := hlz t q; exact ⟨z, q1⟩)) hA5 k2 (fun t q => by obtain ⟨z, q1, -⟩ := hlz t q; exact ⟨z, q1⟩) hlvs.1 (fun t _ q => hFw t (q.imp (fun q => q.1) id)) f13
  rw [hfF, eF] at m1
  rw [e0, eF] at k1
  have hk4 := MK_t hk (MK_t g3 (MK_t g5 (MK_t k3 m3)))
  have hxl := x_len g2
  have hsxl := x_rl C hS g2 hOP3 hz hr rfl (.inr rfl)
  have hsxl : fb3 (fi3 (fpt y P0)) + sO (N j) + 1 < nS + sl (L j) := hsxl.1
  rw [esx] at hsxl
  have hrun : f_X5_beginLoop fu (nI (fi (fpt y P0))) (nI (N j)) S2 = some ((), S6) := by
    unfold f_X5_beginLoop
    rw [mI_in (a := N j) (n := 512) (by omega) (by omega), nI_clamp (show N j < 2 ^ 31 by omega), (hA2 15 (N j) (by omega) (by omega)).1.trans f8, g1]
    simp only [gd_t, Option.bind_some]
    rw [hsl]
    simp only [Option.bind_some]
    rw [show nI (fb (fi (fpt y P0)) + sO (N j)) + 1 = nI sx by rw [hsx]; exact nI_add _ 1, mI_in (a := sx) (n := S3.2.2 66) (by omega) (by omega), nI_clamp (show sx < 2 ^ 31 by omega), (hA3 12 (N j) (by omega) (by omega)).1.trans f2, show (0 : Int32) = nI 0 from rfl, k1]
    simp only [gd_t]
    rw [m1]
    rfl
  have hwv : ∀ F b P t, WV F b P t → vr1 F b = none := fun F b P t q => by
    have v0 := (h.1.2.1.2.2.2.2.2.1 F b P t q).1
    cases hc : vr1 F b with
    | none => rfl
    | some v =>
      rcases (k4 F b v).mp hc with u | u
      · rw [v0] at u
        cases u
      · rw [u.1] at q
        exact absurd q (hWF b P t)
  have hwc : ∀ D t' P t, WC D t' P t → cv D t' = none := fun D t' P t q => (h.1.2.1.2.2.2.2.2.2.1 D t' P t q).1
  obtain ⟨w1', w2', w3'⟩ := aw_en (y := y) (Aw := Aw) (Sl := fun P t => P = P0 ∧ t = j) (NE := fun P => P = (4 * j, 0) :: P0) hwv hwc
  have hNE : ∀ P, P = (4 * j, 0) :: P0 → ¬ En P := fun P q => by rw [q]; exact n0
  obtain ⟨sow, hly⟩ := x_ly hX
  have htg : TgF V y (.tag 7 (.tag j (.append fs (.append c (.append ns g)))), γ, r) (4 * j, 0) := .inr ⟨j, fs, c, ns, g, rfl, rfl⟩
  refine ⟨S6, fun P => En P ∨ P = (4 * j, 0) :: P0, vr1, none, _, _, _, R, nS + sl (L j), nF + 1, fb3, fp3, fi3, tf, tb, upN ow nF (nI (fi (fpt y P0))), upN si nF (nI (N j)), upN fo nF 0, upN lw3 sx (nI nF).toInt64, by rw [hrun]; rfl, ⟨A_loop X.2.2.1 h.1 hA hz hr k4, MX_cg m2 (fun P t => ?_) w2' w3', cag_mk hA5 m3, mg_fr h.2.2.2.1 hk4 (fun ev q => ?_), fun P q => ?_, ?_, ?_, MW_iff.mpr ⟨?_, fun P j' fs' c' ns' g' γ' r' i q1 q2 => ?_⟩, mrs_k h.2.2.2.2.2.2.2.2.1 (hk4.1 38 3 (by omega) (by omega)) (hk4.2.1 38 4 (by omega)), ⟨fun F b a q => ?_, fun F b P t q => ?_⟩⟩, fun P q => .inl q, fun F b v q => (k4 F b v).mpr (.inl q), fun P t q => ?_, fun P t q => ?_, .inl (aw_slp h.1.2.1 hNE hEn hA ⟨rfl, rfl⟩ (fun _ _ q => q)), fun q s hs => ?_, rfl, fun F b P t q => .inl ⟨q, hwv F b P t q⟩, fun _ _ q => .inl q⟩
  · rw [w1' P t]
    refine ⟨fun q => q.imp id (fun ⟨q1, z, q2, q3⟩ => ⟨q1, ?_⟩), fun q => q.imp id (fun ⟨q1, q2⟩ => ⟨q1, ?_⟩)⟩
    · rw [q1] at q2
      exact (lv_rg C.1 hz (x1 := c) (r1 := 4 * j) (γ1 := bnd fs γ) (.inl ⟨rfl, rfl⟩) w2 (by omega) (fun z q => htr z (mc _ (mr _ (ml _ q)))) t).mpr ⟨z, q2.1, q2.2.1, q2.2.2.1, q3⟩
    · rw [q1]
      exact hlz t q2
  · obtain ⟨Q, u1, u2, u3⟩ := ev_fr X h q
    exact ⟨Q, u1, (eo u2 u3).1⟩
  · rcases q with q | q
    · rw [hfp3, hfi3]
      exact fn_op hn (h.2.2.2.2.1 P q)
    · rw [q]
      exact hOPF
  · rw [hfp3, hfi3]
    refine fn_MO (c := (4 * j, 0)) (Q := P0) h.2.2.2.2.2.1 h.2.2.2.2.1 hn (fun P q => .inl q) rfl (pk_ne hOP.1) hEn rfl (fun q => absurd (show j ∈ _ by rw [← e44]; exact q) hnft) (fun _ => .inr rfl) (fun q => absurd (show j ∈ _ by rw [← e44]; exact q) hntb) (fun d D q1 q2 => ?_) (fun _ q => n0 (hqa.2.2.1 0 (.inl q)).2.1)
    have hE2 : En ((d.1, d.2 + 1) :: D) := by
      rcases q2 with q2 | q2
      · exact q2
      · have := congrArg Prod.snd (List.cons.inj q2).1
        have : d.2 + 1 = 0 := this
        omega
    refine ⟨hE2, fpt_y (Classical.byContradiction (fun q => ?_))⟩
    have := (h.1.1.2.1 _ hE2).2 _ List.mem_cons_self q
    have : d.2 + 1 = 0 := this
    omega
  · rw [hfp3, hfi3]
    exact fn_MT h.2.2.2.2.2.2.1 hn
  · have ht7 := (MW_iff.mp h.2.2.2.2.2.2.2.1).1
    rw [hfp3, hfi3, hfb3, hlw3, hsx]
    refine fn_MW (lw := lw) ht7 h.2.2.2.2.1 hn h.1.1.2.2.1 (fun P c q => q.imp id .inl) (fun P q => .inl q) (fun P z d q1 q2 q3 q4 q5 => ⟨.inr rfl, ?_⟩) (fun P z d q1 q2 q3 q4 q5 => fn_lw C hS hly (z0 := (.tag 7 (.tag j (.append fs (.append c (.append ns g)))), γ, r)) hOP hz hr htg P z d q1 q2 q3 q4 q5) (fun s q => ?_)
    · obtain ⟨q5, q6⟩ := List.cons.inj q5
      have ez : otk z.1 = j := by
        rcases q4 with ⟨j', as, i, p, cnt, xf, v1, v2, v3, v4⟩ | ⟨j', fs', d', ns', g', v1, v2⟩
        · rw [q5] at v4
          have : 4 * j = 4 * p := congrArg Prod.fst v4
          have : j = p := by omega
          rw [this] at hnft
          exact absurd (fu_ft C.1 (List.mem_of_getElem? v3)) hnft
        · rw [q5] at v2
          have : 4 * j = 4 * j' := congrArg Prod.fst v2
          rw [v1]
          show j' = j
          omega
      rw [q6, ez]
      exact upN_eq
    · rw [upN_ne (fun q' => ?_)]
      · exact if_neg (by omega)
      · have := tg_lt C hS hly hOP hz hr htg
        have : fb (fi (fpt y P0)) + sO (N j) + 1 < nS := this
        omega
  · rcases q2 with q2 | q2
    · exact .inl (h.2.2.2.2.2.2.2.1.2.1 P j' fs' c' ns' g' γ' r' i q1 q2)
    · have := congrArg Prod.fst (List.cons.inj q2).1
      have : 4 * j' + 1 = 4 * j := this
      omega
  · rcases (k4 F b a).mp q with q | q
    · rw [hfp3, hfi3]
      exact (fn_MV h.2.2.2.2.2.2.2.2.2 hn).1 F b a q
    · rw [q.1]
      exact ⟨hFlt, hFp⟩
  · rw [hfp3, hfi3]
    exact (fn_MV h.2.2.2.2.2.2.2.2.2 hn).2 F b P t q.1
  · by_cases hE : En P
    · exact .inl (aw_old hNE hE (fun _ _ q => q) q)
    · exact .inr hE
  · rcases q with q | q | ⟨D, t', q1, q2⟩ | q
    · exact .inl q.1
    · exact .inr (.inl q)
    · exact absurd (hwc D t' P t q1) q2
    · exact .inr (.inr (hNE P q.1))
  · rcases Nat.lt_or_ge s nS with u | u
    · rcases q s u with ⟨f, o, v1, v2, v3⟩ | v
      · refine .inl ⟨f, o, by omega, ?_, ?_⟩
        · rw [hfp3, upN_ne (show f ≠ nF by omega)]
          exact v2
        · rw [hfb3, upN_ne (show f ≠ nF by omega)]
          exact v3
      · exact .inr v
    · refine .inl ⟨nF, s - nS, by omega, ?_, ?_⟩
      · rw [eFp, hj4]
        omega
      · rw [hfb3, upN_eq]
        omega
end LOP
