/-! a token that moves, in the class: values of loops, arguments, results, cells -/
theorem of20 : ∀ m m' : Nat, m ≤ 20 → m' ≤ 20 → Int64.ofNat m = Int64.ofNat m' → m = m' := fun m m' h h' q => by
  have := congrArg Int64.toInt q
  rw [oN_int (show m < 256 ^ 6 by omega), oN_int (show m' < 256 ^ 6 by omega)] at this
  omega
theorem EcW_uq {tf : TPth → Nat → Nat} {a : TVal} {w w' : Int64} (h : EcW tf a w) (h' : EcW tf a w') : w = w' := by
  by_cases c : a.1 = 3
  · obtain ⟨m, h1, h2, h3⟩ := h.1 c
    obtain ⟨m', h1', h2', h3'⟩ := h'.1 c
    rw [h2] at h2'
    have := of20 m m' h1 h1' h2'
    rw [h3, h3', this]
  · rw [h.2 c, h'.2 c]
section MV4
variable {K pl : Nat → Nat} {V : Nat → Int64} {y : TR} {e : Nat} {N M L : Nat → Nat} {n ρ τ : Nat} {G : im_S} {sl tO sO kO crt : Nat → Nat} {f : Nat} {W : Nat → Int32 × Int32 × Int32} {ν : Nat → Nat} {q0 : Nat} {ar : Nat → Int64} {S S1 : im_S} {En : TPth → Prop} {cv vr vr' : TPth → Nat → Option TVal} {Aw : TPth → Nat → Prop} {WV WC : TPth → Nat → TPth → Nat → Prop} {R H R' : List TEv} {nS nF fu : Nat} {fb : Nat → Nat} {fp : Nat → TPth} {fi : TPth → Nat} {tf : TPth → Nat → Nat} {tb : TPth → Nat → Option Nat} {ow si fo : Nat → Int32} {lw : Nat → Int64} {P0 P1 : TPth} {t0 : Nat} {a : TVal} {j r : Nat} {γ : List Nat} {x x' x'' fs c ns g as : TR}
/-- what was put down is handed in -/
theorem m1_hin (X : XB K pl V y e N M L n ρ τ G sl tO sO kO crt f W ν) (h1 : M1 V y e N L G sl tO sO kO crt q0 S1 P0 t0 a cv vr Aw WV WC R nS nF fb fp fi tf tb ow si fo lw) {F : TPth} {b : Nat} (hF : fi F < nF) (hF2 : fp (fi F) = F) (hk : TkF N L e tO F b) (ht : G.1 11 (N t0) = nI (N b)) : f_X5_handIn fu (S1.1 38 12) (S1.1 38 13) (nI (fi F)) S1 = (f_X5_settle fu (nI (fb (fi F) + sO (N b))) (S1.1 38 14) (S1.2.1 38 15) S1).bind (fun q => some ((), q.2)) := by
  obtain ⟨m1, m2, m3, m4, m5, m6, m7, m8, m9, ⟨z, z1, z2, z3, z4⟩, m11, m12, m13, m14⟩ := h1
  have e1 : cvU cv P0 t0 a P0 (rtk z.1) = some a := if_pos ⟨rfl, z4⟩
  have k1 := (k_hin (fu := fu) X.1 X.2.1 m2 m1 m9 (xa := z.1) (γa := z.2.1) (ra := z.2.2) z1 z2 hF (by rw [hF2]; exact hk) (by rw [z4]; exact ht)).2 a e1
  have k2 := (x_rx X.1 X.2.1 m1 m9 (x := z.1) (γ := z.2.1) (r := z.2.2) z1 z2).2.2.1
  rw [e1] at k2
  rw [z4] at k1 k2
  rw [m4, m5, m6, k1, EcW_uq k2.2.2 m7]
theorem fc_lf0 (hfu : 600000 ≤ fu) (X : XB K pl V y e N M L n ρ τ G sl tO sO kO crt f W ν) (h : MI K V y e N L G sl tO sO kO crt q0 ar S En cv vr (some (P0, t0, a)) Aw WV WC R H nS nF fb fp fi tf tb ow si fo lw) (h1 : M1 V y e N L G sl tO sO kO crt q0 S1 P0 t0 a cv vr Aw WV WC R nS nF fb fp fi tf tb ow si fo lw) (hz : (.tag 7 (.tag j (.append fs (.append c (.append ns g)))), γ, r) ∈ scP y) (hr : r = hdR P0) {b : Nat} (hb : b ∈ tks fs) (hx : rwX fs b = some x) (ht : t0 = rtk x) :
    FMo K V y e N L G sl tO sO kO crt q0 ar (mvD fu (S.1 44 (N t0)) S1) En cv vr P0 t0 a Aw WV WC R H nS nF fb fp fi tf tb ow si fo lw := by
  have hn : cv P0 t0 = none := h.1.2.1.2.1 P0 t0 a rfl
  have hE0 : En P0 := (h.1.2.1.1 P0 t0 a (.inr rfl)).1
  have hqa := h.1.2.2.2.2.1 P0 _ hE0 hz hr
  have hOP := h1.2.2.2.2.2.2.2.2.1
  have hN0 := h1.2.2.2.2.2.2.2.1
  obtain ⟨l1, l2⟩ := X.2.2.1.2.2.2.2.1 _ _ _ _ _ _ _ hz
  obtain ⟨-, -, -, -, -, -, -, -, -, -, -, -, -, -, -, f16, -⟩ := cn_P X.1 _ hz
  obtain ⟨x1, u1, v1, v2, v3, v4, v5, v6, v7, v8⟩ := GF_at l2 fs l1 f16 hb
  rw [hx] at u1
  cases u1
  rw [← ht] at v2 v5 v6 v7 v8
  have hI : Inp V y P0 (.tag 7 (.tag j (.append fs (.append c (.append ns g)))), γ, r) P0 t0 := .inl ⟨b, x, hb, hx, rfl, ht⟩
  have e44 : S.1 44 (N t0) = nI (N j) := (h.2.2.1 10 (N t0) (by omega) (by omega)).1.trans v5
  by_cases hnx : nxX V ns b = none
  · have e43 : S1.1 43 (N t0) = nI 4 := (h1.2.1 9 (N t0) (by omega) (by omega)).1.trans (v8 hnx).1
    have e45 : S1.1 45 (N t0) = nI (N b) := (h1.2.1 11 (N t0) (by omega) (by omega)).1.trans v6
    have hv : VT V y (fpt y P0) b := .inr (.inr (.inl ⟨j, fs, c, ns, g, γ, r, hz, hb, .inr ⟨hnx, P0, hOP.1, hr.symm, rfl⟩⟩))
    have hk := (tk_v X.1 X.2.1 X.2.2.1.2.2.2.2.1 hv (tp_P X.1 P0 hOP.1).2.1 (tp_P X.1 P0 hOP.1).2.2).1
    refine fm_var hfu X h h1 hz hr hE0 hI hOP.2.2.1 hOP.2.2.2 hv ?_ (fun vr' q => M_lf0 X.2.2.1 h.1 (cvU_i hn) hz hr hb hx hnx ht q) ?_
    · cases hc : vr (fpt y P0) b with
      | none => rfl
      | some v =>
        obtain ⟨x2, w1, w2⟩ := (hqa.2.2.2.2.2.1 b v hb).2 hnx hc
        rw [hx] at w1
        cases w1
        rw [← ht, hn] at w2
        cases w2
    · rw [(md_k (fu := fu) (p := S.1 44 (N t0)) (by omega) h1.2.2.2.2.1 e43 (by omega)).2.2.2.1 rfl, h1.2.2.2.1, e45, x_slot X.1 X.2.1 h1.2.1 h1.1 hOP.2.2.1 (by rw [hOP.2.2.2]; exact hk)]
      rfl
  · have e43 : S1.1 43 (N t0) = nI 5 := (h1.2.1 9 (N t0) (by omega) (by omega)).1.trans (v7 hnx).1
    have hkj := op_tk X.1 X.2.1 hOP hz hr rfl
    have hkj1 : TkF N L e tO (fp (fi (fpt y P0))) j := hkj.1
    have hrl := x_rl X.1 X.2.1 h1.1 hOP hz hr rfl (.inr rfl)
    have hl := x_len h1.1
    have hcl : (nI (fb (fi (fpt y P0)) + sO (N j)) + 1).toNatClampNeg = fb (fi (fpt y P0)) + sO (N j) + 1 := by
      rw [show nI (fb (fi (fpt y P0)) + sO (N j)) + 1 = nI (fb (fi (fpt y P0)) + sO (N j) + 1) from nI_add _ 1]
      have := hrl.1
      have this : fb (fi (fpt y P0)) + sO (N j) + 1 < nS := this
      exact nI_clamp (by omega)
    have hin : in_b (nI (fb (fi (fpt y P0)) + sO (N j)) + 1) (S1.2.2 66) = true := by
      rw [show nI (fb (fi (fpt y P0)) + sO (N j)) + 1 = nI (fb (fi (fpt y P0)) + sO (N j) + 1) from nI_add _ 1]
      have this : fb (fi (fpt y P0)) + sO (N j) + 1 < nS := hrl.1
      exact mI_in (a := fb (fi (fpt y P0)) + sO (N j) + 1) (n := S1.2.2 66) (by omega) (by omega)
    have hw := h.2.2.2.2.2.2.2.1.2.2 P0 j fs c ns g γ r hOP hz hr
    have hws : S1.2.1 66 (fb (fi (fpt y P0)) + sO (N j) + 1) = lw (fb (fi (fpt y P0)) + sO (N j) + 1) := hrl.2
    have hmd : mvD fu (S.1 44 (N t0)) S1 = (if (lw (fb (fi (fpt y P0)) + sO (N j) + 1)).toInt32 = 0 then some ((), S1) else ((f_X5_handIn fu (S1.1 38 12) (S1.1 38 13) (lw (fb (fi (fpt y P0)) + sO (N j) + 1)).toInt32 S1).bind (fun q => some ((), q.2)))) := by
      rw [(md_k (fu := fu) (p := S.1 44 (N t0)) (by omega) h1.2.2.2.2.1 e43 (by omega)).2.2.2.2.1 rfl, h1.2.2.2.1, e44, x_slot X.1 X.2.1 h1.2.1 h1.1 hOP.2.2.1 hkj1]
      simp only [Option.bind_some]
      show gd (in_b (nI (fb (fi (fpt y P0)) + sO (N j)) + 1) (S1.2.2 66)) _ = _
      rw [hin]
      simp only [gd_t]
      rw [hcl, hws, h1.2.2.2.1]
    by_cases hEn : En ((4 * j, 0) :: P0)
    · have hOP1 := h.2.2.2.2.1 _ hEn
      have hfp1 : fpt y ((4 * j, 0) :: P0) = (4 * j, 0) :: P0 := fpt_y ((ifr_nd X.1.1 hz (k := 0) (by omega)).mpr (.inl ⟨rfl, rfl⟩))
      rw [OP, hfp1] at hOP1
      have hne0 : fi ((4 * j, 0) :: P0) ≠ 0 := fun q => by
        have := hOP1.2.2.2
        rw [q, h.2.2.2.2.2.1.2.1] at this
        have e1 := (List.cons.inj this).2
        exact pk_ne hOP.1 e1.symm
      have hlw := hw.1 hEn
      have hli : (lw (fb (fi (fpt y P0)) + sO (N j) + 1)).toInt32 = nI (fi ((4 * j, 0) :: P0)) := by rw [hlw]; exact nI_64_32 _
      have hlt := hOP1.2.2.1
      have hv : VT V y ((4 * j, 0) :: P0) b := .inr (.inr (.inl ⟨j, fs, c, ns, g, γ, r, hz, hb, .inl ⟨hnx, rfl⟩⟩))
      have hk := (tk_v X.1 X.2.1 X.2.2.1.2.2.2.2.1 hv hOP1.1 ((ifr_nd X.1.1 hz (k := 0) (by omega)).mpr (.inl ⟨rfl, rfl⟩))).1
      refine fm_var hfu X h h1 hz hr hE0 hI hOP1.2.2.1 hOP1.2.2.2 hv ?_ (fun vr' q => M_lf1 X.2.2.1 h.1 (cvU_i hn) hz hr hb hx hnx ht hEn q) ?_
      · cases hc : vr ((4 * j, 0) :: P0) b with
        | none => rfl
        | some v =>
          obtain ⟨-, x2, w1, w2⟩ := (hqa.2.2.2.2.2.1 b v hb).1 hnx hc
          rw [hx] at w1
          cases w1
          rw [← ht, hn] at w2
          cases w2
      · rw [hmd, hli, if_neg (show ¬ nI (fi ((4 * j, 0) :: P0)) = 0 from fun q => hne0 ((nI_eq (a := fi ((4 * j, 0) :: P0)) (b := 0) (by omega) (by omega)).mp q)), m1_hin X h1 hOP1.2.2.1 hOP1.2.2.2 hk v6]
        cases f_X5_settle fu (nI (fb (fi ((4 * j, 0) :: P0)) + sO (N b))) (S1.1 38 14) (S1.2.1 38 15) S1 with
        | none => rfl
        | some q => rfl
    · have hlw := hw.2 hEn
      refine fm_nil X h h1 hz hr hE0 hI (M_lf2 X.2.2.1 h.1 (cvU_i hn) hz hr hb hx hnx ht hEn) ?_
      rw [hmd, hlw]
      rfl
/-- a value behind next -/
theorem fc_ln (hfu : 600000 ≤ fu) (X : XB K pl V y e N M L n ρ τ G sl tO sO kO crt f W ν) {i : Nat} (hP : P0 = (4 * j + 1, 0) :: (4 * j, i) :: P1) (h : MI K V y e N L G sl tO sO kO crt q0 ar S En cv vr (some (P0, t0, a)) Aw WV WC R H nS nF fb fp fi tf tb ow si fo lw) (h1 : M1 V y e N L G sl tO sO kO crt q0 S1 P0 t0 a cv vr Aw WV WC R nS nF fb fp fi tf tb ow si fo lw) (hz : (.tag 7 (.tag j (.append fs (.append c (.append ns g)))), γ, r) ∈ scP y) {b : Nat} (hb : b ∈ tks fs) (hx : nxX V ns b = some x) (ht : t0 = rtk x) (hrl : rl G N t0 (nI 6) j) (htg : G.1 11 (N t0) = nI (N b)) :
    FMo K V y e N L G sl tO sO kO crt q0 ar (mvD fu (S.1 44 (N t0)) S1) En cv vr P0 t0 a Aw WV WC R H nS nF fb fp fi tf tb ow si fo lw := by
  have hn : cv P0 t0 = none := h.1.2.1.2.1 P0 t0 a rfl
  have hE0 : En P0 := (h.1.2.1.1 P0 t0 a (.inr rfl)).1
  rw [hP] at hE0
  obtain ⟨hEr, -⟩ := par_En X.1.1 h.1.1 hz (k := 1) (by omega) hE0
  obtain ⟨hE1, hpr⟩ := par_En X.1.1 h.1.1 hz (k := 0) (by omega) hEr
  have hr : r = hdR P1 := by
    rcases hpr with q | q
    · exact q.2.symm
    · exact absurd q.1 (by show ¬ (4 * j + 0 = 4 * j + 1 ∨ 4 * j + 0 = 4 * j + 2); omega)
  have hqa := h.1.2.2.2.2.1 P1 _ hE1 hz hr
  have hOP := h1.2.2.2.2.2.2.2.2.1
  have hnx : nxX V ns b ≠ none := by rw [hx]; exact Option.some_ne_none _
  have hn1 : ¬ ifr y (4 * j + 1) := fun q => by
    rcases (ifr_nd X.1.1 hz (k := 1) (by omega)).mp q with q | q
    · exact absurd q.2 (by omega)
    · cases q
  have hif : ifr y (4 * j) := (ifr_nd X.1.1 hz (k := 0) (by omega)).mpr (.inl ⟨rfl, rfl⟩)
  have hfp : fpt y P0 = (4 * j, i) :: P1 := by
    rw [hP]
    exact (fpt_n hn1).trans (fpt_y hif)
  have hne0 : fi (fpt y P0) ≠ 0 := fun q => by
    have := hOP.2.2.2
    rw [q, h.2.2.2.2.2.1.2.1, hfp] at this
    have e1 := (List.cons.inj this).2
    rw [← e1] at hE1
    exact (h.1.1.2.1 _ hE1).1
  have hEf : En ((4 * j, i + 1) :: P1) := h.2.2.2.2.2.2.2.1.2.1 P1 j fs c ns g γ r i hz hE0
  obtain ⟨c1, Q, o1, o2, o3, o4, o5, o6, o7, o8⟩ := h.2.2.2.2.2.1.2.2.2 (fi (fpt y P0)) hOP.2.2.1 hne0
  rw [hOP.2.2.2, hfp] at o1
  have hQ : P1 = Q := (List.cons.inj o1).2
  have hc1 : (4 * j, i) = c1 := (List.cons.inj o1).1
  subst hQ
  subst hc1
  have o8 := o8 (by show 4 * j / 4 ∈ lpP y; rw [show 4 * j / 4 = j by omega]; exact lp_in hz rfl) hEf
  have o8 : fo (fi (fpt y P0)) = nI (fi ((4 * j, i + 1) :: P1)) := o8
  have hOP1 := h.2.2.2.2.1 _ hEf
  rw [OP, show fpt y ((4 * j, i + 1) :: P1) = (4 * j, i + 1) :: P1 from fpt_y hif] at hOP1
  have hv : VT V y ((4 * j, i + 1) :: P1) b := .inr (.inr (.inl ⟨j, fs, c, ns, g, γ, r, hz, hb, .inl ⟨hnx, rfl⟩⟩))
  have hk := (tk_v X.1 X.2.1 X.2.2.1.2.2.2.2.1 hv hOP1.1 hif).1
  obtain ⟨e1, e2⟩ := m1_rl (k := 6) h.2.2.1 h1 hrl
  have hl := x_len h1.1
  have hlt := hOP.2.2.1
  have e71 : S1.1 71 (fi (fpt y P0)) = nI (fi ((4 * j, i + 1) :: P1)) := (x_frd h1.1 hOP.2.2.1).2.2.2.trans o8
  refine fm_var hfu X h h1 hz hr hE1 (.inr (.inr (.inl ⟨i, b, x, hb, hx, hP, ht⟩))) hOP1.2.2.1 hOP1.2.2.2 hv ?_ (fun vr' q => M_ln X.2.2.1 hP h.1 (cvU_i hn) hz hb hx ht q) ?_
  · cases hc : vr ((4 * j, i + 1) :: P1) b with
    | none => rfl
    | some v =>
      obtain ⟨x2, w1, w2⟩ := hqa.2.2.2.2.2.2 i b v hb hnx hc
      rw [hx] at w1
      cases w1
      rw [← ht, ← hP, hn] at w2
      cases w2
  · rw [(md_k (fu := fu) (p := S.1 44 (N t0)) (by have := h1.2.2.2.2.2.2.2.1; omega) h1.2.2.2.2.1 e1 (by omega)).2.2.2.2.2.1 rfl]
    have hin : in_b (S1.1 38 12) (S1.2.2 71) = true := by rw [h1.2.2.2.1]; exact mI_in (a := fi (fpt y P0)) (n := S1.2.2 71) (by omega) (by omega)
    have hcl : S1.1 71 ((S1.1 38 12).toNatClampNeg) = nI (fi ((4 * j, i + 1) :: P1)) := by rw [h1.2.2.2.1, nI_clamp (show fi (fpt y P0) < 2 ^ 31 by omega)]; exact e71
    rw [hin, hcl, m1_hin X h1 hOP1.2.2.1 hOP1.2.2.2 hk htg]
    simp only [gd_t]
    cases f_X5_settle fu (nI (fb (fi ((4 * j, i + 1) :: P1)) + sO (N b))) (S1.1 38 14) (S1.2.1 38 15) S1 with
    | none => rfl
    | some q => rfl
/-- an argument -/
theorem fc_ag (hfu : 600000 ≤ fu) (X : XB K pl V y e N M L n ρ τ G sl tO sO kO crt f W ν) (h : MI K V y e N L G sl tO sO kO crt q0 ar S En cv vr (some (P0, t0, a)) Aw WV WC R H nS nF fb fp fi tf tb ow si fo lw) (h1 : M1 V y e N L G sl tO sO kO crt q0 S1 P0 t0 a cv vr Aw WV WC R nS nF fb fp fi tf tb ow si fo lw) (hz : (.tag 4 (.tag j as), γ, r) ∈ scP y) (hr : r = hdR P0) {zi : Nat} (hx : agX as zi = some x) (ht : t0 = rtk x) :
    FMo K V y e N L G sl tO sO kO crt q0 ar (mvD fu (S.1 44 (N t0)) S1) En cv vr P0 t0 a Aw WV WC R H nS nF fb fp fi tf tb ow si fo lw := by
  have hn : cv P0 t0 = none := h.1.2.1.2.1 P0 t0 a rfl
  have hE0 : En P0 := (h.1.2.1.1 P0 t0 a (.inr rfl)).1
  have hqa := h.1.2.2.2.2.1 P0 _ hE0 hz hr
  have hOP := h1.2.2.2.2.2.2.2.2.1
  have hN0 := h1.2.2.2.2.2.2.2.1
  obtain ⟨i, p, cnt, xf, c1, c2, c3, c4, c5⟩ := cal_at X.1 X.2.2.1.2.2.2.2.2.1 X.2.2.1.2.2.2.2.2.2 hz
  obtain ⟨d1, d2, d3⟩ := c5 zi x hx
  rw [← ht] at d2 d3
  have hI : Inp V y P0 (.tag 4 (.tag j as), γ, r) P0 t0 := .inl ⟨zi, x, hx, rfl, ht⟩
  obtain ⟨e43, e44⟩ := m1_rl (k := 5) h.2.2.1 h1 d3
  have hkj := op_tk X.1 X.2.1 hOP hz hr rfl
  have hkj1 : TkF N L e tO (fp (fi (fpt y P0))) j := hkj.1
  have hrl := x_rl X.1 X.2.1 h1.1 hOP hz hr rfl (.inl rfl)
  have hl := x_len h1.1
  have hls : fb (fi (fpt y P0)) + sO (N j) + 1 < nS := hrl.1
  have hcl : (nI (fb (fi (fpt y P0)) + sO (N j)) + 1).toNatClampNeg = fb (fi (fpt y P0)) + sO (N j) + 1 := by
    rw [show nI (fb (fi (fpt y P0)) + sO (N j)) + 1 = nI (fb (fi (fpt y P0)) + sO (N j) + 1) from nI_add _ 1]
    exact nI_clamp (by omega)
  have hin : in_b (nI (fb (fi (fpt y P0)) + sO (N j)) + 1) (S1.2.2 66) = true := by
    rw [show nI (fb (fi (fpt y P0)) + sO (N j)) + 1 = nI (fb (fi (fpt y P0)) + sO (N j) + 1) from nI_add _ 1]
    exact mI_in (a := fb (fi (fpt y P0)) + sO (N j) + 1) (n := S1.2.2 66) (by omega) (by omega)
  have hw := h.2.2.2.2.2.2.2.1.1 P0 j as γ r i p cnt xf hOP hz hr c1 c2
  have hws : S1.2.1 66 (fb (fi (fpt y P0)) + sO (N j) + 1) = lw (fb (fi (fpt y P0)) + sO (N j) + 1) := hrl.2
  have hmd : mvD fu (S.1 44 (N t0)) S1 = (if (lw (fb (fi (fpt y P0)) + sO (N j) + 1)).toInt32 = 0 then some ((), S1) else ((f_X5_handIn fu (S1.1 38 12) (S1.1 38 13) (lw (fb (fi (fpt y P0)) + sO (N j) + 1)).toInt32 S1).bind (fun q => some ((), q.2)))) := by
    rw [(md_k (fu := fu) (p := S.1 44 (N t0)) (by omega) h1.2.2.2.2.1 e43 (by omega)).2.2.2.2.1 rfl, h1.2.2.2.1, e44, x_slot X.1 X.2.1 h1.2.1 h1.1 hOP.2.2.1 hkj1]
    simp only [Option.bind_some]
    show gd (in_b (nI (fb (fi (fpt y P0)) + sO (N j)) + 1) (S1.2.2 66)) _ = _
    rw [hin]
    simp only [gd_t]
    rw [hcl, hws, h1.2.2.2.1]
  have hif : ifr y (4 * p) := ifr_fn X.1.1 (List.mem_of_getElem? c2)
  by_cases hEn : En ((4 * p, j) :: P0)
  · have hOP1 := h.2.2.2.2.1 _ hEn
    rw [OP, show fpt y ((4 * p, j) :: P0) = (4 * p, j) :: P0 from fpt_y hif] at hOP1
    have hne0 : fi ((4 * p, j) :: P0) ≠ 0 := fun q => by
      have := hOP1.2.2.2
      rw [q, h.2.2.2.2.2.1.2.1] at this
      have e1 := (List.cons.inj this).2
      exact pk_ne hOP.1 e1.symm
    have hlw := hw.1 hEn
    have hli : (lw (fb (fi (fpt y P0)) + sO (N j) + 1)).toInt32 = nI (fi ((4 * p, j) :: P0)) := by rw [hlw]; exact nI_64_32 _
    have hlt := hOP1.2.2.1
    have hv : VT V y ((4 * p, j) :: P0) (p + 2 + 2 * zi) := .inl ⟨p, cnt, xf, zi, List.mem_of_getElem? c2, d1, rfl, rfl⟩
    have hk := (tk_v X.1 X.2.1 X.2.2.1.2.2.2.2.1 hv hOP1.1 hif).1
    refine fm_var hfu X h h1 hz hr hE0 hI hOP1.2.2.1 hOP1.2.2.2 hv ?_ (fun vr' q => M_ag1 X.2.2.1 h.1 (cvU_i hn) hz hr hx ht c1 c2 d1 hEn q) ?_
    · cases hc : vr ((4 * p, j) :: P0) (p + 2 + 2 * zi) with
      | none => rfl
      | some v =>
        obtain ⟨-, x2, w1, w2⟩ := (hqa.2 i p cnt xf c1 c2).2.2 zi v d1 hc
        rw [hx] at w1
        cases w1
        rw [← ht, hn] at w2
        cases w2
    · rw [hmd, hli, if_neg (show ¬ nI (fi ((4 * p, j) :: P0)) = 0 from fun q => hne0 ((nI_eq (a := fi ((4 * p, j) :: P0)) (b := 0) (by omega) (by omega)).mp q)), m1_hin X h1 hOP1.2.2.1 hOP1.2.2.2 hk d2]
      cases f_X5_settle fu (nI (fb (fi ((4 * p, j) :: P0)) + sO (N (p + 2 + 2 * zi)))) (S1.1 38 14) (S1.2.1 38 15) S1 with
      | none => rfl
      | some q => rfl
  · have hlw := hw.2 hEn
    refine fm_nil X h h1 hz hr hE0 hI (M_ag0 X.2.2.1 h.1 (cvU_i hn) hz hr hx ht c1 c2 hEn) ?_
    rw [hmd, hlw]
    rfl
/-- a function's value -/
theorem fc_fun (X : XB K pl V y e N M L n ρ τ G sl tO sO kO crt f W ν) (h : MI K V y e N L G sl tO sO kO crt q0 ar S En cv vr (some (P0, t0, a)) Aw WV WC R H nS nF fb fp fi tf tb ow si fo lw) (h1 : M1 V y e N L G sl tO sO kO crt q0 S1 P0 t0 a cv vr Aw WV WC R nS nF fb fp fi tf tb ow si fo lw) {q cnt : Nat} {xf : TR} (hf : (q, cnt, xf) ∈ fuP y) (hr : hdR P0 = 4 * q) (ht : t0 = rtk xf) :
    FMo K V y e N L G sl tO sO kO crt q0 ar (mvD fu (S.1 44 (N t0)) S1) En cv vr P0 t0 a Aw WV WC R H nS nF fb fp fi tf tb ow si fo lw := by
  have hn : cv P0 t0 = none := h.1.2.1.2.1 P0 t0 a rfl
  have hE0 : En P0 := (h.1.2.1.1 P0 t0 a (.inr rfl)).1
  have hOP := h1.2.2.2.2.2.2.2.2.1
  have hN0 := h1.2.2.2.2.2.2.2.1
  obtain ⟨ii, hii⟩ := List.getElem?_of_mem hf
  obtain ⟨-, -, -, -, -, -, -, -, -, ⟨r1, r2, r3⟩, -⟩ := cf_P X.1 hii
  rw [← ht] at r2
  have e43 : S1.1 43 (N t0) = nI 9 := (h1.2.1 9 (N t0) (by omega) (by omega)).1.trans r2
  have hl := x_len h1.1
  have hlt := hOP.2.2.1
  have hif : ifr y (4 * q) := ifr_fn X.1.1 hf
  have hmd := (md_k (fu := fu) (p := S.1 44 (N t0)) (by omega) h1.2.2.2.2.1 e43 (by omega)).2.2.2.2.2.2.2.2 rfl
  have hin : in_b (S1.1 38 12) (S1.2.2 69) = true := by rw [h1.2.2.2.1]; exact mI_in (a := fi (fpt y P0)) (n := S1.2.2 69) (by omega) (by omega)
  have hin2 : in_b (S1.1 38 12) (S1.2.2 70) = true := by rw [h1.2.2.2.1]; exact mI_in (a := fi (fpt y P0)) (n := S1.2.2 70) (by omega) (by omega)
  have hcl : (S1.1 38 12).toNatClampNeg = fi (fpt y P0) := by rw [h1.2.2.2.1]; exact nI_clamp (by omega)
  obtain ⟨x1, x2, x3, x4⟩ := x_frd h1.1 hOP.2.2.1
  cases hPc : P0 with
  | nil => rw [hPc] at hOP; exact hOP.1.elim
  | cons c0 Q =>
    have hc0 : c0.1 = 4 * q := by rw [hPc] at hr; exact hr
    have hfp : fpt y P0 = P0 := by rw [hPc]; exact fpt_y (by rw [hc0]; exact hif)
    cases Q with
    | nil =>
      have hroot : c0 = (4 * q0, 0) := h.1.1.2.2.2 c0 (by rw [← hPc]; exact hE0)
      have hq : q = q0 := by rw [hroot] at hc0; have : 4 * q0 = 4 * q := hc0; omega
      have hP : P0 = [(4 * q0, 0)] := by rw [hPc, hroot]
      have hfi0 : fi (fpt y P0) = 0 := by
        obtain ⟨sow, hly⟩ := x_ly h1.1
        rw [hfp, hP, ← h.2.2.2.2.2.1.2.1]
        exact (hly.1 0 h.2.2.2.2.2.1.1).1
      have how : S1.1 69 (fi (fpt y P0)) = -1 := by rw [x2, hfi0]; exact h.2.2.2.2.2.1.2.2.1
      rw [← hPc]
      have hS : mvD fu (S.1 44 (N t0)) S1 = some ((), uJ (uI S1 38 3 (S1.1 38 14)) 38 4 (S1.2.1 38 15)) := by
        rw [hmd]
        unfold f_X5_leaveFunction
        rw [hin, hcl, how]
        rfl
      have hf0 : (q0, cnt, xf) ∈ fuP y := by rw [hq] at hf; exact hf
      have A' := M_res X.2.2.1 h.1 (cvU_i (a := a) hn) (k := 0) hf0 hP ht
      obtain ⟨m1, m2, m3, m4, m5, m6, m7, m8, m9, m10, m11, m12, m13, m14⟩ := h1
      have nz : ∀ b i : Nat, (b ≠ 38 ∨ i ≠ 3) → (uJ (uI S1 38 3 (S1.1 38 14)) 38 4 (S1.2.1 38 15)).1 b i = S1.1 b i := fun b i q => uI_ne q
      have nj : ∀ b i : Nat, (b ≠ 38 ∨ i ≠ 4) → (uJ (uI S1 38 3 (S1.1 38 14)) 38 4 (S1.2.1 38 15)).2.1 b i = S1.2.1 b i := fun b i q => uJ_ne q
      obtain ⟨g1, g2, g3, g4, g5⟩ := m3
      refine ⟨_, vr, none, R, fun _ _ _ _ => False, hS, MI_st h id A' (MX_reg (m1_mx X h.1 m11 (by rw [ht]; exact fun_nc X hf) m1) (fun b i q1 q2 => nz b i (by omega)) (nz 38 10 (by omega)) (fun i => nj 66 i (by omega)) rfl) (cag_k m2 (fun b i q1 q2 => nz b i (by omega)) (fun b i q1 q2 => nj b i (by omega))) ⟨fun _ => (nz 38 11 (by omega)).trans (g1 rfl), fun P t v q => (by cases q), (nz 38 8 (by omega)).trans g3, g4, fun k ev q => (nz 39 k (by omega)).trans (g5 k ev q)⟩ (m1_v hn h.2.2.2.2.2.2.1.1 (fun P t v q => by cases q)) (fun P j' k x x' γ r q _ => q) (fun cnt' x' q' => ?_) ⟨h.2.2.2.2.2.2.2.2.2.1, fun F b P t q => h.2.2.2.2.2.2.2.2.2.2 F b P t q.1⟩, fun _ _ _ q => q, fun _ _ _ _ q => q.elim, fun _ _ q => .inl q⟩
      obtain ⟨-, ex⟩ := fn_uq X.1.1 q0 cnt' x' cnt xf q' hf0
      subst ex
      have e1 : cvU cv P0 t0 a [(4 * q0, 0)] (rtk x') = some a := if_pos ⟨hP.symm, ht.symm⟩
      rw [e1]
      refine ⟨fun q => (by cases q), fun v q => ?_⟩
      cases q
      refine ⟨?_, ?_⟩
      · show (uI S1 38 3 (S1.1 38 14)).1 38 3 = nI a.1
        rw [uI_eq]
        exact m6
      · rw [uJ_eq]
        exact m7
    | cons c1 Q =>
      have hpo := hOP.1
      rw [hPc] at hpo
      obtain ⟨asx, γx, ix, hcx, hix, hfx⟩ : ∃ as γ i, (.tag 4 (.tag c0.2 as), γ, c1.1) ∈ scP y ∧ idx V ((ftP y).map Prod.fst) c0.2 = some i ∧ (fuP y)[i]? = some (q, cnt, xf) := by
        rcases hpo.1 with ⟨as, γ, i, q', cnt', x', k1, k2, k3, k4⟩ | ⟨z, k1, k2⟩
        · have hq' : q' = q := by omega
          subst hq'
          obtain ⟨u1, u2⟩ := fn_uq X.1.1 q' cnt' x' cnt xf (List.mem_of_getElem? k3) hf
          subst u1
          subst u2
          exact ⟨as, γ, i, k1, k2, k3⟩
        · have := par_ot ((tl_P X.1.1) z k1).2.1 k2
          rw [hc0, show 4 * q / 4 = q by omega] at this
          exact absurd this.symm ((ft_fu X.1.1).2.2 q (fu_ft X.1.1 hf) z k1)
      have hE1 : En (c1 :: Q) := h.1.1.2.2.1 c0 (c1 :: Q) (by rw [← hPc]; exact hE0) (List.cons_ne_nil _ _)
      have hP : P0 = (4 * q, c0.2) :: c1 :: Q := by rw [hPc, ← hc0]
      have hne0 : fi (fpt y P0) ≠ 0 := fun e0 => by
        have := hOP.2.2.2
        rw [e0, h.2.2.2.2.2.1.2.1, hfp, hPc] at this
        have := (List.cons.inj this).2
        cases this
      obtain ⟨cx, Qx, o1, o2, o3, o4, o5, -⟩ := h.2.2.2.2.2.1.2.2.2 (fi (fpt y P0)) hOP.2.2.1 hne0
      rw [hOP.2.2.2, hfp, hPc] at o1
      have hQ : c1 :: Q = Qx := (List.cons.inj o1).2
      have hcx1 : c0 = cx := (List.cons.inj o1).1
      subst hQ
      subst hcx1
      have o5 := o5 (by rw [hc0, show 4 * q / 4 = q by omega]; exact fu_ft X.1.1 hf)
      have hOPq := h.2.2.2.2.1 _ hE1
      have hqlt := hOPq.2.2.1
      have e69 : S1.1 69 (fi (fpt y P0)) = nI (fi (fpt y (c1 :: Q))) := x2.trans o4
      have e70 : S1.1 70 (fi (fpt y P0)) = nI (N c0.2) := x3.trans o5
      have hne1 : nI (fi (fpt y (c1 :: Q))) ≠ -1 := fun e0 => by
        have := congrArg Int32.toInt e0
        rw [nI_toInt (by omega)] at this
        have e2 : (-1 : Int32).toInt = -1 := by decide
        omega
      rw [← hPc]
      refine fm_pass (P1 := c1 :: Q) (j := c0.2) X h h1 hcx rfl hE1 (.inr ⟨ix, q, cnt, xf, hix, hfx, hP, ht⟩) (M_ret X.2.2.1 hP h.1 (cvU_i hn) X.2.2.2.1 hcx rfl hE1 ht hix hfx) ?_
      rw [hmd]
      unfold f_X5_leaveFunction
      rw [hin, hin2, hcl, e69, e70]
      simp only [gd_t]
      rw [if_pos hne1]
      cases f_X5_send (nI (fi (fpt y (c1 :: Q)))) (nI (N c0.2)) (S1.1 38 14) (S1.2.1 38 15) S1 with
      | none => rfl
      | some q => rfl
end MV4
