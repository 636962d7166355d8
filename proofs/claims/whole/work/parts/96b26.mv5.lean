/-! a token that moves, in the class: cells, operands; all together -/
section MV5
variable {K pl : Nat → Nat} {V : Nat → Int64} {y : TR} {e : Nat} {N M L : Nat → Nat} {n ρ τ : Nat} {G : im_S} {sl tO sO kO crt : Nat → Nat} {f : Nat} {W : Nat → Int32 × Int32 × Int32} {ν : Nat → Nat} {q0 : Nat} {ar : Nat → Int64} {S S1 : im_S} {En : TPth → Prop} {cv vr vr' : TPth → Nat → Option TVal} {Aw : TPth → Nat → Prop} {WV WC : TPth → Nat → TPth → Nat → Prop} {R H R' : List TEv} {nS nF fu : Nat} {fb : Nat → Nat} {fp : Nat → TPth} {fi : TPth → Nat} {tf : TPth → Nat → Nat} {tb : TPth → Nat → Option Nat} {ow si fo : Nat → Int32} {lw : Nat → Int64} {P0 P1 : TPth} {t0 : Nat} {a : TVal} {j r : Nat} {γ : List Nat} {x x' x'' fs c ns g as : TR}
/-- the value of a cell -/
theorem fc_cel (hfu : 600000 ≤ fu) (X : XB K pl V y e N M L n ρ τ G sl tO sO kO crt f W ν) {i : Nat} (hP : P0 = (4 * j, i) :: P1) (h : MI K V y e N L G sl tO sO kO crt q0 ar S En cv vr (some (P0, t0, a)) Aw WV WC R H nS nF fb fp fi tf tb ow si fo lw) (h1 : M1 V y e N L G sl tO sO kO crt q0 S1 P0 t0 a cv vr Aw WV WC R nS nF fb fp fi tf tb ow si fo lw) (hz : (.tag 11 (.tag j (.append x x')), γ, r) ∈ scP y) (ht : t0 = rtk x') :
    FMo K V y e N L G sl tO sO kO crt q0 ar (mvD fu (S.1 44 (N t0)) S1) En cv vr P0 t0 a Aw WV WC R H nS nF fb fp fi tf tb ow si fo lw := by
  have hn : cv P0 t0 = none := h.1.2.1.2.1 P0 t0 a rfl
  have hE0 : En P0 := (h.1.2.1.1 P0 t0 a (.inr rfl)).1
  have hE0' := hE0
  rw [hP] at hE0'
  obtain ⟨hE1, hpr⟩ := par_En X.1.1 h.1.1 hz (k := 0) (by omega) hE0'
  have hOP := h1.2.2.2.2.2.2.2.2.1
  have hif : ifr y (4 * j) := (ifr_nd X.1.1 hz (k := 0) (by omega)).mpr (.inr rfl)
  have hfp : fpt y P0 = (4 * j, i) :: P1 := by rw [hP]; exact fpt_y hif
  have hne0 : fi (fpt y P0) ≠ 0 := fun q => by
    have := hOP.2.2.2
    rw [q, h.2.2.2.2.2.1.2.1, hfp] at this
    have e1 := (List.cons.inj this).2
    rw [← e1] at hE1
    exact (h.1.1.2.1 _ hE1).1
  obtain ⟨c1, Q, o1, o2, o3, o4, o5, o6, o7, o8⟩ := h.2.2.2.2.2.1.2.2.2 (fi (fpt y P0)) hOP.2.2.1 hne0
  rw [hOP.2.2.2, hfp] at o1
  have hQ : P1 = Q := (List.cons.inj o1).2
  have hc1 : (4 * j, i) = c1 := (List.cons.inj o1).1
  subst hQ
  subst hc1
  obtain ⟨m0, t1, t2, t3⟩ := o7 (by show 4 * j / 4 ∈ tbP y; rw [show 4 * j / 4 = j by omega]; exact tb_in hz rfl)
  have e4 : 4 * j / 4 = j := by omega
  have t1 : tb P1 (4 * j / 4) = some m0 := t1
  have t3 : si (fi (fpt y P0)) = nI (tf P1 (4 * j / 4) + i) := t3
  have t2 : i < m0 := t2
  rw [e4] at t1 t3
  obtain ⟨-, -, -, -, -, -, -, -, -, -, -, -, -, -, -, f16, -⟩ := cn_P X.1 _ hz
  rw [← ht] at f16
  obtain ⟨e43, e44⟩ := m1_rl (k := 8) h.2.2.1 h1 f16
  have hl := x_len h1.1
  have hlt := hOP.2.2.1
  have hcr : crt j = t0 := (X.2.2.2.2.1 _ _ _ _ _ hz).trans ht.symm
  have hcc0 : cv ((4 * j, i) :: P1) (crt (hdR ((4 * j, i) :: P1) / 4)) = none := by
    show cv ((4 * j, i) :: P1) (crt (4 * j / 4)) = none
    rw [e4, hcr, ← hP]
    exact hn
  obtain ⟨m1, m2, m3, m4, m5, m6, m7, m8, m9, m10, m11, m12, m13, m14⟩ := h1
  obtain ⟨S', g1, g2, g3⟩ := x_setc (cc' := fun D => cvU cv P0 t0 a D (crt (hdR D / 4))) hfu X.1 X.2.1 X.2.2.1.2.2.2.2.1 m1 t1 t2 hcc0 m12 m7 m13 (fun D => by
    show (if D = P0 ∧ crt (hdR D / 4) = t0 then some a else cv D (crt (hdR D / 4))) = _
    by_cases cD : D = (4 * j, i) :: P1
    · rw [if_pos cD, if_pos ⟨cD.trans hP.symm, by rw [cD]; show crt (4 * j / 4) = t0; rw [e4]; exact hcr⟩]
    · rw [if_neg cD, if_neg (fun q => cD (q.1.trans hP))])
  have e70 : S1.1 70 (fi (fpt y P0)) = nI (tf P1 j + i) := (x_frd m1 hOP.2.2.1).2.2.1.trans t3
  have hS : mvD fu (S.1 44 (N t0)) S1 = some ((), S') := by
    rw [(md_k (fu := fu) (p := S.1 44 (N t0)) (by omega) m5 e43 (by omega)).2.2.2.2.2.2.2.1 rfl, m4, mI_in (a := fi (fpt y P0)) (n := S1.2.2 70) (by omega) (by omega), nI_clamp (show fi (fpt y P0) < 2 ^ 31 by omega), e70, m6, g1]
    rfl
  have A' := M_cel X.2.2.1 h.1 (cvU_i (a := a) hn) hz ht
  have hwc : ∀ D t' P t, WC D t' P t → D = (4 * j, i) :: P1 → t' = t0 := fun D t' P t q qD => by
    obtain ⟨u1, y1, y1', γ1, r1, v, v', w, w', γ', r', -, -, -, u5, u6, u7, -⟩ := h.1.2.1.2.2.2.2.2.2.1 D t' P t q
    have e5 : 4 * v.2.2.2 = 4 * j := congrArg (fun l : TPth => hdR l) (u6.symm.trans qD)
    have e6 : v.2.2.2 = j := by omega
    have := (ou_P X.1.1).2 _ u5 _ hz (by show v.2.2.2 = j; exact e6)
    rw [u7, ht]
    have e7 : Std.Format.tag 11 (.tag v.2.2.2 (.append w w')) = .tag 11 (.tag j (.append x x')) := congrArg Prod.fst this
    injection e7 with _ e7
    injection e7 with _ e7
    injection e7 with _ e7
    rw [e7]
  obtain ⟨k1, k2, k3, k4, k5⟩ := m3
  refine ⟨S', vr, none, R, fun _ _ _ _ => False, hS, MI_st h id A' ?_ (cag_mk m2 g3) ⟨fun _ => (g3.1 38 11 (by omega) (by omega)).trans (k1 rfl), fun P t v q => (by cases q), (g3.1 38 8 (by omega) (by omega)).trans k3, k4, fun k ev q => (g3.1 39 k (by omega) (by omega)).trans (k5 k ev q)⟩ (m1_v hn h.2.2.2.2.2.2.1.1 (fun P t v q => by cases q)) (fun P j' k x x' γ r q _ => q) ?_ ⟨h.2.2.2.2.2.2.2.2.2.1, fun F b P t q => h.2.2.2.2.2.2.2.2.2.2 F b P t q.1⟩, fun _ _ _ q => q, fun _ _ _ _ q => q.elim, fun _ _ q => .inl q⟩
  · refine MX_cg g2 (fun P t => ⟨fun q => ?_, fun q => ?_⟩) (fun F b P t => ⟨fun q => q.1, fun q => ⟨q, (h.1.2.1.2.2.2.2.2.1 F b P t q).1⟩⟩) (fun D P t => ⟨fun ⟨t', q⟩ => ?_, fun ⟨⟨t', q⟩, q'⟩ => ?_⟩)
    · rcases q with q | ⟨F, b, q1, q2⟩ | ⟨D, t', q1, q2⟩ | ⟨q, -⟩
      · exact .inl q.1
      · exact absurd (h.1.2.1.2.2.2.2.2.1 F b P t q1).1 q2
      · have hD : D = P0 ∧ t' = t0 := Classical.byContradiction (fun cD => q2 ((if_neg cD).trans (h.1.2.1.2.2.2.2.2.2.1 D t' P t q1).1))
        rw [hD.1, hP] at q1
        exact .inr ⟨t', q1⟩
      · exact q.elim
    · rcases q with q | ⟨t', q⟩
      · exact .inl ⟨q, id⟩
      · refine .inr (.inr (.inl ⟨_, t', q, ?_⟩))
        have := hwc _ t' P t q rfl
        rw [this, ← hP]
        show (if P0 = P0 ∧ t0 = t0 then some a else _) ≠ none
        rw [if_pos ⟨rfl, rfl⟩]
        exact Option.some_ne_none _
    · rcases q with ⟨q1, q2⟩ | q
      · refine ⟨⟨t', q1⟩, fun cD => ?_⟩
        have := hwc D t' P t q1 cD
        rw [this, cD, ← hP] at q2
        have q2 : (if P0 = P0 ∧ t0 = t0 then some a else cv P0 t0) = none := q2
        rw [if_pos ⟨rfl, rfl⟩] at q2
        cases q2
      · exact q.elim
    · exact ⟨t', .inl ⟨q, (if_neg (fun cD => q' (cD.1.trans hP))).trans (h.1.2.1.2.2.2.2.2.2.1 D t' P t q).1⟩⟩
  · intro cnt' xr q'
    have hne : ¬ ([(4 * q0, 0)] = P0 ∧ rtk xr = t0) := fun q => by
      rw [hP] at q
      have e1 := (List.cons.inj q.1).2
      rw [← e1] at hE1
      exact (h.1.1.2.1 _ hE1).1
    have e1 : cvU cv P0 t0 a [(4 * q0, 0)] (rtk xr) = cv [(4 * q0, 0)] (rtk xr) := if_neg hne
    rw [e1]
    exact mrs_k m14 (g3.1 38 3 (by omega) (by omega)) (g3.2.1 38 4 (by omega)) cnt' xr q'
/-- two operands: what the class sees of them -/
theorem k_mt (C : CGd K pl V y e N M L n ρ τ G) (hS : SLy G n τ sl tO sO kO) (hA : CAg G S) {cv0 vr0 : TPth → Nat → Option TVal} {cc0 : TPth → Option TVal} {Aw0 : TPth → Nat → Prop} {WV0 : TPth → Nat → TPth → Nat → Prop} {WC0 : TPth → TPth → Nat → Prop} (h : MX V y e N L sl tO sO kO S nS nF fb fp fi tf tb ow si fo lw cv0 vr0 cc0 Aw0 WV0 WC0) {P : TPth} (hP : OP V y nF fp fi P) {γ' : List Nat} (hx : (x, γ, r) ∈ scP y) (hx' : (x', γ', r) ∈ scP y) (hr : r = hdR P) {k kd : Nat} (hk : k < 500) (h12 : S.1 38 12 = nI (fi (fpt y P))) (h46 : S.1 46 k = nI (N (rtk x))) (h47 : S.1 47 k = nI (N (rtk x'))) (h41 : S.1 41 k = nI kd) (hkd : kd = 5 ∨ kd = 6) :
    (cv0 P (rtk x) = none ∨ cv0 P (rtk x') = none → f_X5_meet (nI k) S = some ((), S)) ∧ ∀ v v', cv0 P (rtk x) = some v → cv0 P (rtk x') = some v' → (kd = 5 → f_X5_meet (nI k) S = (f_X5_makeReady (nI (fi (fpt y P))) (nI k) S).bind (fun q => some ((), q.2))) ∧ (kd = 6 → f_X5_meet (nI k) S = (f_X5_cellAt (nI (fb (fi (fpt y P)) + sO (N (rtk x)))) (nI (fb (fi (fpt y P)) + sO (N (rtk x')))) S).bind (fun qS14 => if (qS14.1 : Int32) = (-1) then ((f_X5_makeReady (qS14.2.1 38 12) (nI k) qS14.2).bind (fun qS18 => some ((), qS18.2))) else (gd (in_b qS14.1 (qS14.2.2.2 65)) (if ((qS14.2.1 65) qS14.1.toNatClampNeg : Int32) ≠ 0 then ((f_X5_makeReady (qS14.2.1 38 12) (nI k) qS14.2).bind (fun qS22 => some ((), qS22.2))) else ((f_X5_await qS14.1 (qS14.2.1 38 12) (nI k) qS14.2).bind (fun qS25 => some ((), qS25.2))))))) := by
  obtain ⟨k1, k2, k3, -⟩ := x_rx C hS h hP hx hr
  obtain ⟨k1', k2', k3', -⟩ := x_rx C hS h hP hx' hr
  have hl := x_len h
  have w1 := tk_sl C hS k1
  have w1' := tk_sl C hS k1'
  have hs1 := x_slot C hS hA h hP.2.2.1 k1
  have hs2 := x_slot C hS hA h hP.2.2.1 k1'
  have hin : in_b (nI k) 512 = true := mI_in (a := k) (n := 512) (by omega) (by omega)
  have hcl : (nI k).toNatClampNeg = k := nI_clamp (by omega)
  have i1 : in_b (nI (fb (fi (fpt y P)) + sO (N (rtk x)))) (S.2.2 65) = true := mI_in (a := fb (fi (fpt y P)) + sO (N (rtk x))) (n := S.2.2 65) (by omega) (by omega)
  have i2 : in_b (nI (fb (fi (fpt y P)) + sO (N (rtk x')))) (S.2.2 65) = true := mI_in (a := fb (fi (fpt y P)) + sO (N (rtk x'))) (n := S.2.2 65) (by omega) (by omega)
  have c1 : (nI (fb (fi (fpt y P)) + sO (N (rtk x)))).toNatClampNeg = fb (fi (fpt y P)) + sO (N (rtk x)) := nI_clamp (by omega)
  have c2 : (nI (fb (fi (fpt y P)) + sO (N (rtk x')))).toNatClampNeg = fb (fi (fpt y P)) + sO (N (rtk x')) := nI_clamp (by omega)
  have nz : ∀ {s : Nat} {v : TVal}, SlC S tf s (some v) → ¬ S.1 65 s = 0 := fun {s v} q q' => by
    have q1 := q.1
    rw [q'] at q1
    have := (nI_eq (a := 0) (b := v.1) (by omega) (by have := q.2.1; omega)).mp q1
    have := q.2.1
    omega
  have key : f_X5_meet (nI k) S = (if S.1 65 (fb (fi (fpt y P)) + sO (N (rtk x))) = 0 then some ((), S) else (if S.1 65 (fb (fi (fpt y P)) + sO (N (rtk x'))) ≠ 0 then (if S.1 41 k ≠ 6 then ((f_X5_makeReady (nI (fi (fpt y P))) (nI k) S).bind (fun qS11 => some ((), qS11.2))) else ((f_X5_cellAt (nI (fb (fi (fpt y P)) + sO (N (rtk x)))) (nI (fb (fi (fpt y P)) + sO (N (rtk x')))) S).bind (fun qS14 => if (qS14.1 : Int32) = (-1) then ((f_X5_makeReady (qS14.2.1 38 12) (nI k) qS14.2).bind (fun qS18 => some ((), qS18.2))) else (gd (in_b qS14.1 (qS14.2.2.2 65)) (if ((qS14.2.1 65) qS14.1.toNatClampNeg : Int32) ≠ 0 then ((f_X5_makeReady (qS14.2.1 38 12) (nI k) qS14.2).bind (fun qS22 => some ((), qS22.2))) else ((f_X5_await qS14.1 (qS14.2.1 38 12) (nI k) qS14.2).bind (fun qS25 => some ((), qS25.2)))))))) else some ((), S))) := by
    unfold f_X5_meet
    rw [hin, hcl, h46, h12, hs1]
    simp only [gd_t, Option.bind_some]
    rw [h12, h47, hs2]
    simp only [gd_t, Option.bind_some]
    rw [i1, c1, i2, c2, h12]
    simp only [gd_t]
  refine ⟨fun q => ?_, fun v v' q q' => ⟨fun e5 => ?_, fun e6 => ?_⟩⟩
  · rw [key]
    rcases q with q | q
    · rw [q] at k3
      rw [if_pos (show S.1 65 (fb (fi (fpt y P)) + sO (N (rtk x))) = 0 from k3)]
    · rw [q] at k3'
      by_cases cc : S.1 65 (fb (fi (fpt y P)) + sO (N (rtk x))) = 0
      · rw [if_pos cc]
      · rw [if_neg cc, if_neg (fun q => q k3')]
  · rw [q] at k3
    rw [q'] at k3'
    rw [key, if_neg (nz k3), if_pos (nz k3'), if_pos (by rw [h41, e5]; decide)]
  · rw [q] at k3
    rw [q'] at k3'
    rw [key, if_neg (nz k3), if_pos (nz k3'), if_neg (fun qq => qq (by rw [h41, e6]; rfl))]
theorem fc_bin (X : XB K pl V y e N M L n ρ τ G sl tO sO kO crt f W ν) (h : MI K V y e N L G sl tO sO kO crt q0 ar S En cv vr (some (P0, t0, a)) Aw WV WC R H nS nF fb fp fi tf tb ow si fo lw) (h1 : M1 V y e N L G sl tO sO kO crt q0 S1 P0 t0 a cv vr Aw WV WC R nS nF fb fp fi tf tb ow si fo lw) (hz : (.tag 9 (.tag j (.append x x')), γ, r) ∈ scP y) (hr : r = hdR P0) (ht : t0 = rtk x ∨ t0 = rtk x') :
    FMo K V y e N L G sl tO sO kO crt q0 ar (mvD fu (S.1 44 (N t0)) S1) En cv vr P0 t0 a Aw WV WC R H nS nF fb fp fi tf tb ow si fo lw := by
  have hn : cv P0 t0 = none := h.1.2.1.2.1 P0 t0 a rfl
  have hE0 : En P0 := (h.1.2.1.1 P0 t0 a (.inr rfl)).1
  have hOP := h1.2.2.2.2.2.2.2.2.1
  obtain ⟨⟨-, f1, -⟩, f2, f3, f4, f5⟩ := cn_P X.1 _ hz
  have hrl : rl G N t0 (nI 2) j := by
    rcases ht with ht | ht
    · rw [ht]; exact f4
    · rw [ht]; exact f5
  obtain ⟨e43, e44⟩ := m1_rl (k := 2) h.2.2.1 h1 hrl
  obtain ⟨⟨p', e', wz⟩, hs, htr⟩ := (tl_P X.1.1) _ hz
  obtain ⟨-, w1, w2⟩ := wz
  have hx := htr _ (mc _ (ml _ (hd_in w1 _ _)))
  have hx' := htr _ (mc _ (mr _ (hd_in w2 _ _)))
  have hkj := (tk_sl X.1 X.2.1 (op_tk X.1 X.2.1 hOP hz hr rfl).1).2.1
  have hkj : N j < 500 := hkj
  obtain ⟨q1, q2⟩ := k_mt X.1 X.2.1 h1.2.1 h1.1 hOP hx hx' hr hkj h1.2.2.2.1 ((h1.2.1 12 (N j) (by omega) (by omega)).1.trans f2) ((h1.2.1 13 (N j) (by omega) (by omega)).1.trans f3) ((h1.2.1 7 (N j) (by omega) (by omega)).1.trans f1) (kd := 5) (.inl rfl)
  have hmd := (md_k (fu := fu) (p := S.1 44 (N t0)) (by have := h1.2.2.2.2.2.2.2.1; omega) h1.2.2.2.2.1 e43 (by omega)).2.1 rfl
  rw [e44] at hmd ⊢
  cases hc : cvU cv P0 t0 a P0 (rtk x) with
  | none => exact fm_nil X h h1 hz hr hE0 ⟨rfl, ht⟩ (M_bin0 X.2.2.1 h.1 (cvU_i hn) hz hr ht (.inl hc)) (by rw [hmd, q1 (.inl hc)]; rfl)
  | some v =>
    cases hc' : cvU cv P0 t0 a P0 (rtk x') with
    | none => exact fm_nil X h h1 hz hr hE0 ⟨rfl, ht⟩ (M_bin0 X.2.2.1 h.1 (cvU_i hn) hz hr ht (.inr hc')) (by rw [hmd, q1 (.inr hc')]; rfl)
    | some v' =>
      refine fm_ev X h h1 hz hr hE0 ⟨rfl, ht⟩ (ev := (P0, j, 0)) (x1 := nI (fi (fpt y P0))) (x2 := nI (N j)) ?_ (fun _ => rfl) rfl (cel_no X.1.1 hz (fun _ q => by cases q)) (fun R' q => M_bin X.2.2.1 h.1 (cvU_i hn) hz hr ht hc hc' q) ?_
      · rw [w_mk]
        exact congrArg nI (evc_nd (N := N) (fi := fi) (P := P0) (i := 0) X.1.1 hz rfl (.inl rfl)).symm
      · rw [hmd, (q2 v v' hc hc').1 rfl]
        cases f_X5_makeReady (nI (fi (fpt y P0))) (nI (N j)) S1 with
        | none => rfl
        | some q => rfl
/-- the slot of a cell -/
theorem k_cell {cv0 vr0 : TPth → Nat → Option TVal} {cc0 : TPth → Option TVal} {Aw0 : TPth → Nat → Prop} {WV0 : TPth → Nat → TPth → Nat → Prop} {WC0 : TPth → TPth → Nat → Prop} (h : MX V y e N L sl tO sO kO S nS nF fb fp fi tf tb ow si fo lw cv0 vr0 cc0 Aw0 WV0 WC0) {s1 s2 : Nat} {v v' : TVal} (h1 : s1 < nS) (h2 : s2 < nS) (k1 : SlC S tf s1 (some v)) (k2 : SlC S tf s2 (some v')) (t1 : tyO 3 v) (t2 : tyO 1 v') (hb : v.1 = 3 → ∃ m, tb v.2.2.1 v.2.2.2 = some m ∧ v.2.1 = Int64.ofNat m) :
    ((∃ u, erV v v' = some u) → f_X5_cellAt (nI s1) (nI s2) S = some (-1, S)) ∧ (erV v v' = none → badI v'.2.1 v.2.1 → f_X5_cellAt (nI s1) (nI s2) S = some (-1, S)) ∧ (erV v v' = none → ¬ badI v'.2.1 v.2.1 → ∃ m, tb v.2.2.1 v.2.2.2 = some m ∧ i64N v'.2.1 < m ∧ v.2.1 = Int64.ofNat m ∧ f_X5_cellAt (nI s1) (nI s2) S = some (nI (tf v.2.2.1 v.2.2.2 + i64N v'.2.1), S)) := by
  have hl := x_len h
  have i1 : in_b (nI s1) (S.2.2 65) = true := mI_in (a := s1) (n := S.2.2 65) (by omega) (by omega)
  have i2 : in_b (nI s2) (S.2.2 66) = true := mI_in (a := s2) (n := S.2.2 66) (by omega) (by omega)
  have i3 : in_b (nI s2) (S.2.2 65) = true := mI_in (a := s2) (n := S.2.2 65) (by omega) (by omega)
  have i4 : in_b (nI s1) (S.2.2 66) = true := mI_in (a := s1) (n := S.2.2 66) (by omega) (by omega)
  have c1 : (nI s1).toNatClampNeg = s1 := nI_clamp (by omega)
  have c2 : (nI s2).toNatClampNeg = s2 := nI_clamp (by omega)
  have e4 : ∀ {s : Nat} {u : TVal}, SlC S tf s (some u) → (S.1 65 s = 4 ↔ u.1 = 4) := fun {s u} q => by
    rw [q.1]
    exact nI_eq (a := u.1) (b := 4) (by have := q.2.1; omega) (by omega)
  have key : f_X5_cellAt (nI s1) (nI s2) S = (if S.1 65 s1 = 4 then some (-1, S) else (if S.1 65 s2 ≠ 4 then (if (lg_cmp (S.2.1 66 s2) 0 : Int32) < 0 then some (-1, S) else (if (lg_cmp (S.2.1 66 s2) ((S.2.1 66 s1).toInt32 &&& 31).toInt64 : Int32) < 0 then some (((S.2.1 66 s1) >>> ((5 : Int32).toInt64 &&& 63)).toInt32 + (S.2.1 66 s2).toInt32, S) else some (-1, S))) else some (-1, S))) := by
    unfold f_X5_cellAt f_X8_cellsIn f_X8_firstCell
    rw [i1, i2, i3, i4, c1, c2]
    simp only [gd_t, Option.bind_some]
    rw [i4]
    simp only [gd_t]
  refine ⟨fun ⟨u, q⟩ => ?_, fun q qb => ?_, fun q qb => ?_⟩
  · rw [key]
    by_cases c4 : v.1 = 4
    · rw [if_pos ((e4 k1).mpr c4)]
    · have c4' : v'.1 = 4 := by
        unfold erV at q
        rw [if_neg c4] at q
        by_cases c5 : v'.1 = 4
        · exact c5
        · rw [if_neg c5] at q
          cases q
      rw [if_neg (fun q' => c4 ((e4 k1).mp q')), if_neg (fun q' => q' ((e4 k2).mpr c4'))]
  · obtain ⟨n1, n2⟩ := erV_n q
    have hv3 : v.1 = 3 := t1.2 n1
    have hv1 : v'.1 = 1 := t2.2 n2
    obtain ⟨m, hm, hmv⟩ := hb hv3
    obtain ⟨m', g1, g2, g3⟩ := k1.2.2.1 hv3
    have emm : m' = m := of20 m' m g1 (x_rt h hm).1 (g2.symm.trans hmv)
    subst emm
    have hw2 : S.2.1 66 s2 = v'.2.1 := k2.2.2.2 (by omega)
    have htf := (x_rt h hm).2
    rw [key, if_neg (fun q' => n1 ((e4 k1).mp q')), if_pos (fun q' => n2 ((e4 k2).mp q')), hw2, g3, tb_n (f := tf v.2.2.1 v.2.2.2) (n := m') (by omega) (by omega)]
    by_cases cz : (lg_cmp v'.2.1 0 : Int32) < 0
    · rw [if_pos cz]
    · rw [if_neg cz]
      rcases qb with qb | qb
      · exact absurd qb cz
      · have hml : (nI m').toInt64 = v.2.1 := (nI_l (show m' < 2 ^ 31 by omega)).trans hmv.symm
        rw [if_neg (by rw [hml]; exact qb)]
  · obtain ⟨n1, n2⟩ := erV_n q
    have hv3 : v.1 = 3 := t1.2 n1
    have hv1 : v'.1 = 1 := t2.2 n2
    obtain ⟨m, hm, hmv⟩ := hb hv3
    obtain ⟨m', g1, g2, g3⟩ := k1.2.2.1 hv3
    have emm : m' = m := of20 m' m g1 (x_rt h hm).1 (g2.symm.trans hmv)
    subst emm
    have hw2 : S.2.1 66 s2 = v'.2.1 := k2.2.2.2 (by omega)
    have htf := (x_rt h hm).2
    have b1 : ¬ (lg_cmp v'.2.1 0 : Int32) < 0 := fun q => qb (.inl q)
    have b2 : (lg_cmp v'.2.1 v.2.1 : Int32) < 0 := Classical.byContradiction (fun q => qb (.inr q))
    have hml : (nI m').toInt64 = v.2.1 := (nI_l (show m' < 2 ^ 31 by omega)).trans hmv.symm
    obtain ⟨i, d1, d2, d3, d4⟩ := ix_nat (v := v'.2.1) (n := m') g1 b1 (by rw [hml]; exact b2)
    refine ⟨m', hm, by rw [d4]; exact d1, hmv, ?_⟩
    rw [key, if_neg (fun q' => n1 ((e4 k1).mp q')), if_pos (fun q' => n2 ((e4 k2).mp q')), hw2, g3, tb_n (f := tf v.2.2.1 v.2.2.2) (n := m') (by omega) (by omega), if_neg b1, hml, if_pos b2, tb_f (f := tf v.2.2.1 v.2.2.2) (n := m') (by omega) (by omega), d3, d4, nI_add]
theorem fc_el (X : XB K pl V y e N M L n ρ τ G sl tO sO kO crt f W ν) (h : MI K V y e N L G sl tO sO kO crt q0 ar S En cv vr (some (P0, t0, a)) Aw WV WC R H nS nF fb fp fi tf tb ow si fo lw) (h1 : M1 V y e N L G sl tO sO kO crt q0 S1 P0 t0 a cv vr Aw WV WC R nS nF fb fp fi tf tb ow si fo lw) (hz : (.tag 10 (.tag j (.append x x')), γ, r) ∈ scP y) (hr : r = hdR P0) (ht : t0 = rtk x ∨ t0 = rtk x') :
    FMo K V y e N L G sl tO sO kO crt q0 ar (mvD fu (S.1 44 (N t0)) S1) En cv vr P0 t0 a Aw WV WC R H nS nF fb fp fi tf tb ow si fo lw := by
  have hn : cv P0 t0 = none := h.1.2.1.2.1 P0 t0 a rfl
  have hE0 : En P0 := (h.1.2.1.1 P0 t0 a (.inr rfl)).1
  have hqa := h.1.2.2.2.2.1 P0 _ hE0 hz hr
  have hOP := h1.2.2.2.2.2.2.2.2.1
  obtain ⟨⟨-, f1, -⟩, f2, f3, f4, f5⟩ := cn_P X.1 _ hz
  have hrl : rl G N t0 (nI 2) j := by
    rcases ht with ht | ht
    · rw [ht]; exact f4
    · rw [ht]; exact f5
  obtain ⟨e43, e44⟩ := m1_rl (k := 2) h.2.2.1 h1 hrl
  obtain ⟨⟨p', e', wz⟩, hs, htr⟩ := (tl_P X.1.1) _ hz
  obtain ⟨w1, bb, w2, -⟩ := wz
  have hx := htr _ (mc _ (ml _ (hd_in w1 _ _)))
  have hx' := htr _ (mc _ (mr _ (hd_in w2 _ _)))
  have hkj := (tk_sl X.1 X.2.1 (op_tk X.1 X.2.1 hOP hz hr rfl).1).2.1
  have hkj : N j < 500 := hkj
  obtain ⟨q1, q2⟩ := k_mt X.1 X.2.1 h1.2.1 h1.1 hOP hx hx' hr hkj h1.2.2.2.1 ((h1.2.1 12 (N j) (by omega) (by omega)).1.trans f2) ((h1.2.1 13 (N j) (by omega) (by omega)).1.trans f3) ((h1.2.1 7 (N j) (by omega) (by omega)).1.trans f1) (kd := 6) (.inr rfl)
  have hmd := (md_k (fu := fu) (p := S.1 44 (N t0)) (by have := h1.2.2.2.2.2.2.2.1; omega) h1.2.2.2.2.1 e43 (by omega)).2.1 rfl
  rw [e44] at hmd ⊢
  have hI : Inp V y P0 (.tag 10 (.tag j (.append x x')), γ, r) P0 t0 := ⟨rfl, ht⟩
  cases hc : cvU cv P0 t0 a P0 (rtk x) with
  | none => exact fm_nil X h h1 hz hr hE0 hI (M_el0 X.2.2.1 h.1 (cvU_i hn) hz hr ht (.inl hc)) (by rw [hmd, q1 (.inl hc)]; rfl)
  | some v =>
    cases hc' : cvU cv P0 t0 a P0 (rtk x') with
    | none => exact fm_nil X h h1 hz hr hE0 hI (M_el0 X.2.2.1 h.1 (cvU_i hn) hz hr ht (.inr hc')) (by rw [hmd, q1 (.inr hc')]; rfl)
    | some v' =>
      have hgd : tyV K V x = 3 ∧ tyV K V x' = 1 := X.2.2.1.2.2.2.2.2.1 _ hz
      have t1 : tyO 3 v := by
        have := AB_tv X.2.2.1 h.1 hx ((cvU_i hn _ _ _).mp hc)
        have this : tyO (tyV K V x) v := this
        rw [hgd.1] at this
        exact this
      have t2 : tyO 1 v' := by
        have := AB_tv X.2.2.1 h.1 hx' ((cvU_i hn _ _ _).mp hc')
        have this : tyO (tyV K V x') v' := this
        rw [hgd.2] at this
        exact this
      obtain ⟨k1, k2, k3, k4⟩ := x_rx X.1 X.2.1 h1.1 hOP hx hr
      obtain ⟨k1', k2', k3', -⟩ := x_rx X.1 X.2.1 h1.1 hOP hx' hr
      rw [hc] at k3
      rw [hc'] at k3'
      have hmt := (q2 v v' hc hc').2 rfl
      obtain ⟨c1, c2, c3⟩ := k_cell h1.1 k2 k2' k3 k3' t1 t2 (k4 v hc)
      have hrdy : (∀ R', (R' = R ++ [(P0, j, 0)] ∨ (1001 ≤ R.length ∧ R' = R)) → AB K V y q0 ar En (cvU cv P0 t0 a) vr none (AwN y Aw (fun _ _ => False) WV WC (cvU cv P0 t0 a) vr (fun _ => False)) (WVN WV vr) (WCN WC (fun _ _ _ _ => False) (cvU cv P0 t0 a)) R' H (1001 ≤ R.length)) → f_X5_meet (nI (N j)) S1 = (f_X5_makeReady (nI (fi (fpt y P0))) (nI (N j)) S1).bind (fun q => some ((), q.2)) → (erV v v' = none → ¬ badI v'.2.1 v.2.1 → ∃ q q' γ' r' u, (.tag 11 (.tag v.2.2.2 (.append q q')), γ', r') ∈ scP y ∧ cvU cv P0 t0 a ((4 * v.2.2.2, i64N v'.2.1) :: v.2.2.1) (rtk q') = some u) → FMo K V y e N L G sl tO sO kO crt q0 ar (mvD fu (nI (N j)) S1) En cv vr P0 t0 a Aw WV WC R H nS nF fb fp fi tf tb ow si fo lw := fun A' hm hcl => by
        refine fm_ev X h h1 hz hr hE0 hI (ev := (P0, j, 0)) (x1 := nI (fi (fpt y P0))) (x2 := nI (N j)) ?_ (fun _ => rfl) rfl (fun y1 y2 γ1 r1 b b' q3 q4 q5 q6 q7 => ?_) A' ?_
        · rw [w_mk]
          exact congrArg nI (evc_nd (N := N) (fi := fi) (P := P0) (i := 0) X.1.1 hz rfl (.inl rfl)).symm
        · have e1 := (ou_P X.1.1).2 _ hz (.tag 10 (.tag j (.append y1 y2)), γ1, r1) q3 rfl
          obtain ⟨e2, e3⟩ : x = y1 ∧ x' = y2 := by
            cases e1
            exact ⟨rfl, rfl⟩
          have q4 : cvU cv P0 t0 a P0 (rtk y1) = some b := q4
          have q5 : cvU cv P0 t0 a P0 (rtk y2) = some b' := q5
          rw [← e2, hc] at q4
          rw [← e3, hc'] at q5
          cases q4
          cases q5
          exact hcl q6 q7
        · rw [hmd, hm]
          cases f_X5_makeReady (nI (fi (fpt y P0))) (nI (N j)) S1 with
          | none => rfl
          | some q => rfl
      have hm1 : f_X5_cellAt (nI (fb (fi (fpt y P0)) + sO (N (rtk x)))) (nI (fb (fi (fpt y P0)) + sO (N (rtk x')))) S1 = some (-1, S1) → f_X5_meet (nI (N j)) S1 = (f_X5_makeReady (nI (fi (fpt y P0))) (nI (N j)) S1).bind (fun q => some ((), q.2)) := fun q => by
        rw [hmt, q]
        simp only [Option.bind_some]
        rw [if_pos trivial, h1.2.2.2.1]
      cases her : erV v v' with
      | some u => exact hrdy (fun R' q => M_el1 X.2.2.1 h.1 (cvU_i hn) hz hr ht hc hc' (.inl ⟨u, her⟩) q) (hm1 (c1 ⟨u, her⟩)) (fun q => by rw [her] at q; cases q)
      | none =>
        by_cases hbad : badI v'.2.1 v.2.1
        · exact hrdy (fun R' q => M_el1 X.2.2.1 h.1 (cvU_i hn) hz hr ht hc hc' (.inr (.inl ⟨her, hbad⟩)) q) (hm1 (c2 her hbad)) (fun _ q => absurd hbad q)
        · obtain ⟨m, d1, d2, d3, d4⟩ := c3 her hbad
          obtain ⟨n1, n2⟩ := erV_n her
          obtain ⟨-, u, u', γu, ru, hu, hru, hcf⟩ := h.2.2.2.2.2.2.1.2.1 _ _ _ d1
          have hl := x_len h1.1
          obtain ⟨r1, r2, r3, -⟩ := x_rc h1.1 d1 d2
          have hcr : crt v.2.2.2 = rtk u' := X.2.2.2.2.1 _ _ _ _ _ hu
          have r2 : SlC S1 tf (tf v.2.2.1 v.2.2.2 + i64N v'.2.1) (cv ((4 * v.2.2.2, i64N v'.2.1) :: v.2.2.1) (crt (4 * v.2.2.2 / 4))) := r2
          rw [show 4 * v.2.2.2 / 4 = v.2.2.2 by omega, hcr] at r2
          have hcvU : cvU cv P0 t0 a ((4 * v.2.2.2, i64N v'.2.1) :: v.2.2.1) (rtk u') = cv ((4 * v.2.2.2, i64N v'.2.1) :: v.2.2.1) (rtk u') := if_neg (fun q => no_cel X hz hr hI hu q.2.symm)
          have hin : in_b (nI (tf v.2.2.1 v.2.2.2 + i64N v'.2.1)) (S1.2.2 65) = true := mI_in (a := tf v.2.2.1 v.2.2.2 + i64N v'.2.1) (n := S1.2.2 65) (by omega) (by omega)
          have hcl : (nI (tf v.2.2.1 v.2.2.2 + i64N v'.2.1)).toNatClampNeg = tf v.2.2.1 v.2.2.2 + i64N v'.2.1 := nI_clamp (by omega)
          have hne1 : nI (tf v.2.2.1 v.2.2.2 + i64N v'.2.1) ≠ -1 := fun e0 => by
            have := congrArg Int32.toInt e0
            rw [nI_toInt (by omega)] at this
            have e2 : (-1 : Int32).toInt = -1 := by decide
            omega
          have hmt2 : f_X5_meet (nI (N j)) S1 = (if S1.1 65 (tf v.2.2.1 v.2.2.2 + i64N v'.2.1) ≠ 0 then ((f_X5_makeReady (nI (fi (fpt y P0))) (nI (N j)) S1).bind (fun q => some ((), q.2))) else ((f_X5_await (nI (tf v.2.2.1 v.2.2.2 + i64N v'.2.1)) (nI (fi (fpt y P0))) (nI (N j)) S1).bind (fun q => some ((), q.2)))) := by
            rw [hmt, d4]
            simp only [Option.bind_some]
            rw [if_neg hne1, hin, hcl, h1.2.2.2.1]
            simp only [gd_t]
          cases hcu : cv ((4 * v.2.2.2, i64N v'.2.1) :: v.2.2.1) (rtk u') with
          | some w =>
            rw [hcu] at r2
            refine hrdy (fun R' q => M_el1 X.2.2.1 h.1 (cvU_i hn) hz hr ht hc hc' (.inr (.inr ⟨her, hbad, u, u', γu, ru, w, hu, by rw [hcvU]; exact hcu⟩)) q) ?_ (fun _ _ => ⟨u, u', γu, ru, w, hu, by rw [hcvU]; exact hcu⟩)
            rw [hmt2, if_pos]
            intro q'
            have q1 := r2.1
            rw [q'] at q1
            have := (nI_eq (a := 0) (b := w.1) (by omega) (by have := r2.2.1; omega)).mp q1
            have := r2.2.1
            omega
          | none =>
            rw [hcu] at r2
            have A' := M_el2 X.2.2.1 h.1 (cvU_i hn) hz hr ht hc hc' her hbad hu (by rw [hcvU]; exact hcu)
            have hno : ∀ {s s' : TVal}, cv P0 (rtk x) = some s → cv P0 (rtk x') = some s' → False := fun q q' => by
              rcases ht with ht | ht
              · rw [← ht, hn] at q
                cases q
              · rw [← ht, hn] at q'
                cases q'
            have hnA : ¬ AwW Aw WV WC P0 j := fun q => by
              obtain ⟨-, s, s', q1, q2⟩ := hqa.1 q
              exact hno q1 q2
            obtain ⟨m1, m2, m3, m4, m5, m6, m7, m8, m9, m10, m11, m12, m13, m14⟩ := h1
            obtain ⟨S', g1, g2, g3⟩ := x_awc X.1 X.2.1 X.2.2.1.2.2.2.2.1 m1 (t0 := j) hOP ⟨_, hz, hr, rfl, rfl⟩ (fun q => hnA (q.imp id (Or.imp id (fun ⟨D, t', q⟩ => ⟨D, t', q⟩)))) d1 d2 (by show cv ((4 * v.2.2.2, i64N v'.2.1) :: v.2.2.1) (crt (4 * v.2.2.2 / 4)) = none; rw [show 4 * v.2.2.2 / 4 = v.2.2.2 by omega, hcr]; exact hcu)
            obtain ⟨s1, s2, s3, s4⟩ := m1_same X h.1 m11 (fun _ _ _ _ _ ht => no_cel X hz hr hI ht)
            obtain ⟨y1, y2, y3, y4, y5⟩ := m3
            refine ⟨S', vr, none, R, _, ?_, MI_st h id A' ?_ (cag_mk m2 g3) ⟨fun _ => (g3.1 38 11 (by omega) (by omega)).trans (y1 rfl), fun P t v q => (by cases q), (g3.1 38 8 (by omega) (by omega)).trans y3, y4, fun k ev q => (g3.1 39 k (by omega) (by omega)).trans (y5 k ev q)⟩ (m1_v hn h.2.2.2.2.2.2.1.1 (fun P t v q => by cases q)) (fun P j' k x x' γ r q _ => q) (mrs_k (m1_r X h.1 hz hr hE0 hI m14) (g3.1 38 3 (by omega) (by omega)) (g3.2.1 38 4 (by omega))) ⟨h.2.2.2.2.2.2.2.2.2.1, fun F b P t q => h.2.2.2.2.2.2.2.2.2.2 F b P t q.1⟩, fun _ _ _ q => q, fun D t' P t q => ?_, fun _ _ q => .inl q⟩
            · rw [hmd, hmt2, if_neg (fun q => q r2), g1]
              rfl
            · rw [s4]
              refine MX_cg g2 s1 s2 (fun D P t => ⟨fun ⟨t', q⟩ => ?_, fun q => ?_⟩)
              · rcases q with q | ⟨q1, q2, q3, q4⟩
                · rcases (s3 D t' P t).mp (.inl q) with q5
                  exact .inl ⟨t', q5⟩
                · exact .inr ⟨q1, q3, q4⟩
              · rcases q with ⟨t', q⟩ | ⟨q1, q2, q3⟩
                · rcases (s3 D t' P t).mpr q with q5 | q5
                  · exact ⟨t', .inl q5⟩
                  · exact q5.elim
                · exact ⟨rtk u', .inr ⟨q1, rfl, q2, q3⟩⟩
            · obtain ⟨-, -, q3, q4⟩ := q
              subst q3
              subst q4
              refine ⟨x, x', γ, r, hz, ?_⟩
              rcases ht with ht | ht
              · exact .inl (by rw [← ht]; exact hn)
              · exact .inr (by rw [← ht]; exact hn)
/-- THE CLASS MOVES A TOKEN -/
theorem F_move (hfu : 600000 ≤ fu) (X : XB K pl V y e N M L n ρ τ G sl tO sO kO crt f W ν) (h : MI K V y e N L G sl tO sO kO crt q0 ar S En cv vr (some (P0, t0, a)) Aw WV WC R H nS nF fb fp fi tf tb ow si fo lw) : FMo K V y e N L G sl tO sO kO crt q0 ar (f_X5_move fu S) En cv vr P0 t0 a Aw WV WC R H nS nF fb fp fi tf tb ow si fo lw := by
  obtain ⟨S1, hm, h1⟩ := mv_put (fu := fu) X h
  rw [hm]
  have hOP := h1.2.2.2.2.2.2.2.2.1
  obtain ⟨z0, z1, z2, z3, z4⟩ := h1.2.2.2.2.2.2.2.2.2.1
  have w := X.1.1
  have hL := X.2.2.1.2.2.2.2.1
  have hAs := X.2.2.1.2.2.2.2.2.2
  have hG := X.2.2.1.2.2.2.2.2.1
  have z0c : ∀ {c : Nat × Nat} {Q : TPth}, P0 = c :: Q → ¬ ifr y c.1 → c.2 = 0 := fun {c Q} q q' => hOP.2.1 c (by rw [q]; exact List.mem_cons_self) q'
  obtain ⟨cP, PQ, hPc⟩ : ∃ c Q, P0 = c :: Q := by
    cases hc : P0 with
    | nil => rw [hc] at hOP; exact hOP.1.elim
    | cons c Q => exact ⟨c, Q, rfl⟩
  have hhd : hdR P0 = cP.1 := by rw [hPc]; rfl
  rcases cn_PW w z0 z1 with ⟨q, cnt, xf, c1, c2, c3⟩ | ⟨z, k, xc, c1, c2, c3⟩
  · exact fc_fun X h h1 c1 (z2.symm.trans c3) (z4.symm.trans c2)
  · rw [z2] at c2
    have ht : t0 = rtk xc := (c3.trans z4).symm
    have hs := ((tl_P w) z c1).2.1
    obtain ⟨x, γ, r⟩ := z
    have hs : shp x := hs
    rcases hs with ⟨j, rfl⟩ | ⟨j, rfl⟩ | ⟨j, rfl⟩ | ⟨j, as, rfl⟩ | ⟨j, a1, b1, rfl⟩ | ⟨j, a1, b1, d1, rfl⟩ | ⟨j, fs, d1, ns, g, rfl⟩ | ⟨j, a1, rfl⟩ | ⟨j, a1, b1, rfl⟩ | ⟨j, a1, b1, rfl⟩ | ⟨j, a1, b1, rfl⟩ | ⟨j, a1, rfl⟩
    · exact c2.elim
    · exact c2.elim
    · exact c2.elim
    · obtain ⟨-, u1, u2⟩ := c2
      obtain ⟨zi, hzi⟩ := tp_ag as (hAs _ _ _ _ c1) u1
      exact fc_ag hfu X h h1 c1 u2.symm hzi ht
    · rcases c2 with ⟨-, u1, u2⟩ | ⟨-, u1, u2⟩
      · subst u1
        exact fc_let1 hfu X h h1 c1 u2.symm ht
      · subst u1
        exact fc_let2 X h h1 c1 u2.symm ht
    · have hnf : ∀ {i : Nat}, i < 4 → ¬ ifr y (4 * j + i) := fun {i} hi q => by
        rcases (ifr_nd w c1 (k := i) hi).mp q with q | q
        · cases q.1
        · cases q
      rcases c2 with ⟨-, u1, u2⟩ | ⟨-, u1, u2⟩ | ⟨-, u1, u2⟩
      · subst u1
        exact fc_if0 X h h1 c1 u2.symm ht
      · subst u1
        have e1 : cP.1 = 4 * j + 0 := hhd.symm.trans u2
        have e2 := z0c hPc (by rw [e1]; exact hnf (by omega))
        exact fc_if1 (P1 := PQ) (k := 0) X (by omega) (by rw [hPc]; congr 1; exact Prod.ext e1 e2) h h1 c1 (.inl ⟨rfl, ht⟩)
      · subst u1
        have e1 : cP.1 = 4 * j + 1 := hhd.symm.trans u2
        have e2 := z0c hPc (by rw [e1]; exact hnf (by omega))
        exact fc_if1 (P1 := PQ) (k := 1) X (by omega) (by rw [hPc]; congr 1; exact Prod.ext e1 e2) h h1 c1 (.inr ⟨rfl, ht⟩)
    · obtain ⟨⟨p', e', wz⟩, -, htr⟩ := (tl_P w) _ c1
      obtain ⟨-, b2, d2, f2, n1, n2, w1, w2, w3, w4⟩ := wz
      obtain ⟨l1, l2⟩ := hL _ _ _ _ _ _ _ c1
      have hn12 : ∀ {i : Nat}, i < 4 → i ≠ 0 → ¬ ifr y (4 * j + i) := fun {i} hi h0 q => by
        rcases (ifr_nd w c1 (k := i) hi).mp q with q | q
        · exact h0 q.2
        · cases q
      have tail : ∀ {i : Nat}, (i = 1 ∨ i = 2) → cP.1 = 4 * j + i → ∃ i' P1, P0 = (4 * j + i, 0) :: (4 * j, i') :: P1 := fun {i} hi e1 => by
        have e2 := z0c hPc (by rw [e1]; exact hn12 (by omega) (by omega))
        have hcp : cP = (4 * j + i, 0) := Prod.ext e1 e2
        have hpo := hOP.1
        rw [hPc, hcp] at hpo
        obtain ⟨c', Q', q1, q2, q3, -⟩ := P_par (V := V) w c1 (k := i) (i := 0) (by omega) hpo
        rcases q2 with q2 | q2
        · have : 4 * j + i = 4 * j := q2.1
          omega
        · exact ⟨c'.2, Q', by rw [hPc, hcp, q1, ← q2.2]⟩
      rcases c2 with ⟨-, u1, u2⟩ | ⟨-, u1, u2⟩ | ⟨-, u1, u2⟩ | ⟨-, u1, u2⟩
      · obtain ⟨b, v1, -, v3⟩ := tp_rw (K := K) fs l1 _ _ (.inr w1) u1
        exact fc_lf0 hfu X h h1 c1 u2.symm v1 v3 ht
      · subst u1
        have e1 : cP.1 = 4 * j := hhd.symm.trans u2
        exact fc_lc (P1 := PQ) (i := cP.2) X (by rw [hPc, ← e1]) h h1 c1 ht
      · obtain ⟨-, -, -, -, -, -, -, -, -, -, -, -, -, -, -, -, f17⟩ := cn_P X.1 _ c1
        have hgd : tyV K V d1 = 2 ∧ RwT K V fs ∧ DsF V fs [] ∧ RwT K V ns ∧ NsF V (tks fs) ns [] := hG _ c1
        obtain ⟨p, b, v1, v2, v3, v4, v5⟩ := tp_nx ns l2 [] hgd.2.2.2.2 f17 u1
        obtain ⟨i', P1, hP⟩ := tail (.inl rfl) (hhd.symm.trans u2)
        refine fc_ln (P1 := P1) hfu X hP h h1 c1 (fnd_in _ _ _ v2) ?_ ht (by rw [ht]; exact v5) (by rw [ht]; exact v4)
        rw [nx_V (fnd_V _ _ _ v2) ns l2]
        exact v3
      · subst u1
        obtain ⟨i', P1, hP⟩ := tail (.inr rfl) (hhd.symm.trans u2)
        exact fc_lg (P1 := P1) X hP h h1 c1 ht
    · obtain ⟨-, u1, u2⟩ := c2
      subst u1
      exact fc_sig X h h1 c1 u2.symm ht
    · obtain ⟨-, u1, u2⟩ := c2
      exact fc_bin X h h1 c1 u2.symm (by rcases u1 with u1 | u1; exact .inl (by rw [← u1]; exact ht); exact .inr (by rw [← u1]; exact ht))
    · obtain ⟨-, u1, u2⟩ := c2
      exact fc_el X h h1 c1 u2.symm (by rcases u1 with u1 | u1; exact .inl (by rw [← u1]; exact ht); exact .inr (by rw [← u1]; exact ht))
    · rcases c2 with ⟨-, u1, u2⟩ | ⟨-, u1, u2⟩
      · subst u1
        exact fc_tab X h h1 c1 u2.symm ht
      · subst u1
        have e1 : cP.1 = 4 * j := hhd.symm.trans u2
        exact fc_cel (P1 := PQ) (i := cP.2) hfu X (by rw [hPc, ← e1]) h h1 c1 ht
    · exact c2.elim
end MV5
