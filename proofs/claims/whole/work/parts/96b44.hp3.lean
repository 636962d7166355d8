/-! an event happens, in the class: a round ends -/
section HP3
variable {K pl : Nat → Nat} {V : Nat → Int64} {y : TR} {e : Nat} {N M L : Nat → Nat} {n ρ τ : Nat} {G : im_S} {sl tO sO kO crt : Nat → Nat} {f : Nat} {W : Nat → Int32 × Int32 × Int32} {ν : Nat → Nat} {q0 : Nat} {ar : Nat → Int64} {S S1 S' : im_S} {En : TPth → Prop} {cv vr vr' : TPth → Nat → Option TVal} {mv : Option (TPth × Nat × TVal)} {Aw : TPth → Nat → Prop} {WV WC : TPth → Nat → TPth → Nat → Prop} {R R' H : List TEv} {nS nF fu : Nat} {fb : Nat → Nat} {fp : Nat → TPth} {fi : TPth → Nat} {tf : TPth → Nat → Nat} {tb : TPth → Nat → Option Nat} {ow si fo : Nat → Int32} {lw : Nat → Int64} {P1 NP F : TPth} {j r i : Nat} {γ : List Nat} {ev : TEv} {x x' x'' fs c ns g : TR}
theorem i64_of {m : Nat} (h : m ≤ 20) : i64N (Int64.ofNat m) = m := by
  unfold i64N
  rw [← nI64 (show m < 2 ^ 31 by omega), nI_64_32, nI_clamp (by omega)]
/-- every cell's event is there while the list isn't full -/
theorem cel_RH (h : MI K V y e N L G sl tO sO kO crt q0 ar S En cv vr none Aw WV WC R H nS nF fb fp fi tf tb ow si fo lw) (hle : R.length ≤ 1000) (htb : TBv cv none tb) : ∀ P t m i, tb P t = some m → i < m → (P, t, i + 1) ∈ R ++ H := by
  intro P t m i q hi
  obtain ⟨u1, x, x', γ, r, u2, u3, u4⟩ := h.2.2.2.2.2.2.1.2.1 P t m q
  have hE : En P := (h.1.2.1.2.2.2.1 P t 0 (.inr u1)).1
  have hp := h.1.2.2.2.2.2 (fun q => by omega) P _ hE u2 u3
  have hqa := h.1.2.2.2.2.1 P _ hE u2 u3
  obtain ⟨a, ha⟩ := hqa.2.1 (.inr u1)
  obtain ⟨v, hv⟩ := htb P t m q
  have hv : cv P t = some (3, v, P, t) := hv.elim id (fun q => by cases q)
  obtain ⟨m', m1, m2⟩ := h.2.2.2.2.2.2.1.1 P t _ (.inl hv) rfl
  have m1 : tb P t = some m' := m1
  have m2 : v = Int64.ofNat m' := m2
  rw [q] at m1
  have em : m = m' := Option.some.inj m1
  have cv1 : ∀ b : TVal, Vm cv none P t b → b = (3, v, P, t) := fun b qb => by
    rcases qb with qb | qb
    · rw [hv] at qb
      exact (Option.some.inj qb).symm
    · cases qb
  rcases hp.1 a ha with q1 | ⟨-, q1, q2, q3⟩
  · exact absurd u1 (rh_no h.1.2.1.2.2.1 q1)
  · by_cases c4 : a.1 = 4
    · have := congrArg Prod.fst (cv1 a (q1 c4))
      have : a.1 = 3 := this
      omega
    · by_cases hb : bad20 a.2.1
      · have := congrArg Prod.fst (cv1 _ (q2 c4 hb))
        have : 4 = 3 := this
        omega
      · obtain ⟨q4, q5⟩ := q3 c4 hb
        have e1 : a.2.1 = v := congrArg (fun u : TVal => u.2.1) (cv1 _ q4)
        have e2 : i64N a.2.1 = m := by rw [e1, m2, ← em, i64_of (x_rt h.2.1 q).1]
        rcases q5 i (by omega) with q6 | q6
        · exact List.mem_append.mpr (.inl q6)
        · exact List.mem_append.mpr (.inr q6.1)
theorem mt_ev (hT : MT y cv none R H nF fp fi tb) (hev : ev ∈ R) (hRm : ∀ e, e ∈ R' → e ∈ R) : MT y cv none R' (ev :: H) nF fp fi tb := by
  obtain ⟨h1, h2, h3⟩ := hT
  refine ⟨h1, fun P t m q => ?_, fun P j k x x' γ r q q' => ?_⟩
  · obtain ⟨u1, u2⟩ := h2 P t m q
    exact ⟨List.mem_cons_of_mem _ u1, u2⟩
  · refine h3 P j k x x' γ r ?_ q'
    rcases q with q | q
    · exact .inl (hRm _ q)
    · rcases List.mem_cons.mp q with q | q
      · rw [q]
        exact .inl hev
      · exact .inr q
theorem cvs_fn (h : CVS L sl nS nF fb fp tf tb) : CVS L sl (nS + sl (L (hdR F / 4))) (nF + 1) (upN fb nF nS) (upN fp nF F) tf tb := fun s hs => by
  rcases Nat.lt_or_ge s nS with u | u
  · rcases h s u with ⟨f, o, v1, v2, v3⟩ | v
    · refine .inl ⟨f, o, by omega, ?_, ?_⟩
      · rw [upN_ne (show f ≠ nF by omega)]
        exact v2
      · rw [upN_ne (show f ≠ nF by omega)]
        exact v3
    · exact .inr v
  · refine .inl ⟨nF, s - nS, by omega, ?_, ?_⟩
    · rw [upN_eq]
      omega
    · rw [upN_eq]
      omega
/-- a frame that isn't there holds nothing -/
theorem frm_c (h : MI K V y e N L G sl tO sO kO crt q0 ar S En cv vr mv Aw WV WC R H nS nF fb fp fi tf tb ow si fo lw) (hn : ∀ f, f < nF → fp f ≠ F) : (∀ P z, POk V y P → Z0 y P → fpt y P = F → z ∈ scP y → z.2.2 = hdR P → rtk z.1 = otk z.1 → cv P (otk z.1) = none) ∧ (∀ b, vr F b = none) ∧ ∀ b P t, ¬ WV F b P t := by
  refine ⟨fun P z q1 q2 q3 q4 q5 q6 => ?_, fun b => ?_, fun b P t q => ?_⟩
  · cases hc : cv P (otk z.1) with
    | none => rfl
    | some v =>
      have := h.2.2.2.2.1 P (h.1.2.1.1 P _ v (.inl hc)).1
      exact absurd (this.2.2.2.trans q3) (hn _ this.2.2.1)
  · cases hc : vr F b with
    | none => rfl
    | some v =>
      have := h.2.2.2.2.2.2.2.2.2.1 _ b v hc
      exact absurd this.2 (hn _ this.1)
  · have := h.2.2.2.2.2.2.2.2.2.2 _ b P t q
    exact absurd this.2 (hn _ this.1)
/-- there is no frame of a path that isn't entered (but of cells) -/
theorem frm_n (h : MI K V y e N L G sl tO sO kO crt q0 ar S En cv vr mv Aw WV WC R H nS nF fb fp fi tf tb ow si fo lw) {d : Nat × Nat} (hP : P1 ≠ []) (hd : ¬ d.1 / 4 ∈ tbP y) (n0 : ¬ En (d :: P1)) : ∀ f, f < nF → fp f ≠ d :: P1 := fun f hf q => by
  by_cases c0 : f = 0
  · rw [c0, h.2.2.2.2.2.1.2.1] at q
    exact hP (List.cons.inj q).2.symm
  · obtain ⟨d', D, o1, o2, o3, o4, o5, o6, -⟩ := h.2.2.2.2.2.1.2.2.2 f hf c0
    rw [q] at o1
    have e1 : d = d' := (List.cons.inj o1).1
    have e2 : P1 = D := (List.cons.inj o1).2
    rw [← e1, ← e2] at o6
    exact n0 (o6 hd)
/-- room for a frame whose cause is there -/
theorem ev_room (X : XB K pl V y e N M L n ρ τ G sl tO sO kO crt f W ν) (h20 : nlP y ≤ 20) (hq0 : q0 ∈ (ftP y).map Prod.fst) (Z : HPz K V y e N L G sl tO sO kO crt q0 ar S S1 En cv vr Aw WV WC R R' H nS nF fb fp fi tf tb ow si fo lw ev) (hF : POk V y F ∧ Z0 y F ∧ ifr y (hdR F)) (hc : ∀ ev', csP y F = some ev' → ev' ∈ R ++ H) (ht : F.tail ≠ []) (hn : ∀ f, f < nF → fp f ≠ F) : nS + sl (L (hdR F / 4)) ≤ 523264 ∧ nF < 32768 := by
  obtain ⟨h, hS1, hG1, hRn, hRm, hev, hle, hcv, htb, her⟩ := Z
  obtain ⟨sow, hly⟩ := x_ly h.2.1
  exact mroom1 X.1 X.2.1.2.1 h20 hq0 h.1 hly h.2.2.2.2.2.1 hcv (Z := R ++ H) (by rw [List.length_append]; omega) (fun ev q => List.mem_append.mpr (.inr q)) (cel_RH h (by omega) htb) ⟨hF.1, hF.2.1, hF.2.2, hc, .inr ht⟩ hn
set_option maxHeartbeats 4000000 in
theorem fh_lp (hfu : 600000 ≤ fu) (X : XB K pl V y e N M L n ρ τ G sl tO sO kO crt f W ν) (h20 : nlP y ≤ 20) (hq0 : q0 ∈ (ftP y).map Prod.fst) (Z : HPz K V y e N L G sl tO sO kO crt q0 ar S S1 En cv vr Aw WV WC R R' H nS nF fb fp fi tf tb ow si fo lw (P1, j, i)) (hz : (.tag 7 (.tag j (.append fs (.append c (.append ns g)))), γ, r) ∈ scP y) (hr : r = hdR P1) : FHo K V y e N L G sl tO sO kO crt q0 ar (f_X5_endRound fu (nI (fi ((4 * j, i) :: P1))) (nI (N j)) S1) En cv H (P1, j, i) tb := by
  obtain ⟨h, hS1, hG1, hRn, hRm, hev, hle, hcv, htb, her⟩ := id Z
  have C := X.1
  have hS := X.2.1
  have hL := X.2.2.1.2.2.2.2.1
  have hE1 : En P1 := (h.1.2.1.2.2.2.1 P1 j i (.inl hev)).1
  have hOP1 := h.2.2.2.2.1 P1 hE1
  have hqa := h.1.2.2.2.2.1 P1 _ hE1 hz hr
  have hnH := rh_no h.1.2.1.2.2.1 hev
  obtain ⟨hEQ, a, ha⟩ := hqa.2.1 i (.inl hev)
  have hOPQ := h.2.2.2.2.1 _ hEQ
  have hif : ifr y (4 * j) := (ifr_nd C.1 hz (k := 0) (by omega)).mpr (.inl ⟨rfl, rfl⟩)
  have hfQ : fpt y ((4 * j, i) :: P1) = (4 * j, i) :: P1 := fpt_y hif
  obtain ⟨⟨p', e', wz⟩, -, htr⟩ := (tl_P C.1) _ hz
  obtain ⟨hjp, b1, d1, ff1, n1, n2, w1, w2, w3, w4⟩ := wz
  have hjp : j = p' := hjp
  have hb1 := Wt_lt w1
  have hb2 := Wt_lt w2
  have hb3 := Wt_lt w3
  have hc := htr _ (mc _ (mr _ (ml _ (hd_in w2 _ _))))
  obtain ⟨f1, f2, f3, f4, f5, f6, f7, f8, f9, f10, f11, f12, f13, f14, f15, f16, f17⟩ := cn_P C _ hz
  have hA1 := rm_ca hS1 h.2.2.1
  have hX1 := rm_mx hS1 h.2.1
  have hNj : N j < 500 := (tk_sl C hS (op_tk C hS hOP1 hz hr rfl).1).2.1
  have hje : j < e := (nd_P C hz rfl).2.2.2
  have hM := M_512 C hje f6
  have hQ : fi ((4 * j, i) :: P1) < nF ∧ fp (fi ((4 * j, i) :: P1)) = (4 * j, i) :: P1 := by
    have := hOPQ.2.2
    rw [hfQ] at this
    exact this
  have hl := x_len hX1
  have hO := h.2.2.2.2.2.1
  have hP1 := pk_ne hOP1.1
  have hQ0 : fi ((4 * j, i) :: P1) ≠ 0 := fun q => by
    have := hQ.2
    rw [q, hO.2.1] at this
    exact hP1 (List.cons.inj this).2.symm
  have how : ow (fi ((4 * j, i) :: P1)) = nI (fi (fpt y P1)) := by
    obtain ⟨d, D, o1, o2, o3, o4, -⟩ := hO.2.2.2 _ hQ.1 hQ0
    rw [hQ.2] at o1
    have e2 : P1 = D := (List.cons.inj o1).2
    rw [← e2] at o4
    exact o4
  have e69 : S1.1 69 (fi ((4 * j, i) :: P1)) = nI (fi (fpt y P1)) := (x_frd hX1 hQ.1).2.1.trans how
  obtain ⟨s, s1, s2, s3, s4, s5, s6, s7, s8, s9⟩ := h_rd C hS hA1 hX1 hOPQ hc (show 4 * j = hdR ((4 * j, i) :: P1) from rfl) ha
  rw [hfQ] at s1
  have hty : tyO (tyV K V c) a := AB_ty X.2.2.1 h.1 hc ha
  have hgd := X.2.2.1.2.2.2.2.2.1 _ hz
  have hgd : tyV K V c = 2 := hgd.1
  rw [hgd] at hty
  have n3 : a.1 ≠ 3 := fun q => by
    have := hty.2 (by omega)
    omega
  have hw : S1.2.1 66 s = a.2.1 := s6.2 n3
  have hnft : ¬ j ∈ (ftP y).map Prod.fst := fun q => (ft_fu C.1).2.2 j q _ hz rfl
  have hntb : ¬ j ∈ tbP y := tb_no C.1 hz rfl
  have hlpj : j ∈ lpP y := lp_in hz rfl
  have e44 : 4 * j / 4 = j := by omega
  have hop : f_X5_endRound fu (nI (fi ((4 * j, i) :: P1))) (nI (N j)) S1 = (if S1.1 65 s ≠ 4 then (if (lg_cmp a.2.1 0 : Int32) ≠ 0 then ((f_X5_openFrame fu (nI (M j)) (nI (fi (fpt y P1))) (nI (N j)) S1).bind (fun qS6 => gd (in_b (nI (fi ((4 * j, i) :: P1))) (qS6.2.2.2 71)) ((f_X5_enter fu (nI (fi ((4 * j, i) :: P1))) (nI (M j) + 1) (uI qS6.2 71 (fi ((4 * j, i) :: P1)) qS6.1)).bind (fun qS9 => (f_X5_enter fu qS6.1 (nI (M j)) qS9.2).bind (fun qS12 => some ((), qS12.2)))))) else ((f_X5_enter fu (nI (fi ((4 * j, i) :: P1))) (nI (M j) + 2) S1).bind (fun q => some ((), q.2)))) else ((f_X5_send (nI (fi (fpt y P1))) (nI (N j)) 4 a.2.1 S1).bind (fun q => some ((), q.2)))) := by
    unfold f_X5_endRound
    rw [mI_in (a := N j) (n := 512) (by omega) (by omega), nI_clamp (show N j < 2 ^ 31 by omega), (hA1 13 (N j) (by omega) (by omega)).1.trans f3, s1]
    simp only [gd_t, Option.bind_some]
    rw [s2, s3, s4, nI_clamp (show fi ((4 * j, i) :: P1) < 2 ^ 31 by omega), mI_in (a := fi ((4 * j, i) :: P1)) (n := S1.2.2 69) (by omega) (by omega), e69, (hA1 15 (N j) (by omega) (by omega)).1.trans f8, hw]
    simp only [gd_t]
  by_cases c4 : a.1 = 4
  · have e4 : nI a.1 = 4 := by rw [c4]; rfl
    refine fh_snd Z (H_lp0 X.2.2.1 h.1 hz hr hev hRn hRm ha c4) (w := a.2.1) (ecw_n n3) (fun q => absurd q n3) ?_
    rw [hop, if_neg (fun q => q (s5.mpr c4)), bd_u, e4]
  · rw [if_pos (fun q => c4 (s5.mp q))] at hop
    by_cases c0 : a.2.1 = 0
    · have hnif : ¬ ifr y (4 * j + 2) := fun q => by
        rcases (ifr_nd C.1 hz (k := 2) (by omega)).mp q with q | q
        · have := q.2
          omega
        · cases q
      have hf : fpt y ((4 * j + 2, 0) :: (4 * j, i) :: P1) = (4 * j, i) :: P1 := (fpt_n hnif).trans hfQ
      have hOPn : OP V y nF fp fi ((4 * j + 2, 0) :: (4 * j, i) :: P1) := ⟨pk_nd hOPQ.1 hz (.inr ⟨.inr rfl, rfl⟩), z0_cn hOPQ.2.1 (.inr rfl), by rw [hf]; exact hQ.1, by rw [hf]; exact hQ.2⟩
      refine fh_ent (fu := fu) (by omega) X Z (fun q => hnH (hqa.2.2.2.1 i q).1) hOPn (H_lp1 X.2.2.1 h.1 hz hr hev hRn hRm ha c4 c0) (fun d D q1 q2 => ?_) (fun P z d q1 q2 q3 q4 => ?_) (fun P j' fs' c' ns' g' γ' r' i q1 q2 => ?_) (R0 := M j + 2) (by omega) (fun t => lv_rg C.1 hz (r1 := 4 * j + 2) (γ1 := bnd fs γ) (.inr (.inr ⟨rfl, rfl⟩)) w4 (by omega) (fun z q => htr z (mc _ (mr _ (mr _ (mr _ q))))) t) (lv_nd w4).1 f15 ?_
      · have : d.2 + 1 = 0 := congrArg Prod.snd (List.cons.inj q2).1
        omega
      · have e1 : d = (4 * j + 2, 0) := (List.cons.inj q4).1
        rcases tg_no (w := C.1) q1 q3 with q5 | q5
        · rw [e1] at q5
          have q5 : (4 * j + 2) / 4 ∈ (ftP y).map Prod.fst := q5
          rw [show (4 * j + 2) / 4 = j by omega] at q5
          exact hnft q5
        · rw [e1] at q5
          have := q5.2.1
          have : (4 * j + 2) % 4 = 0 := this
          omega
      · have e1 : 4 * j' + 1 = 4 * j + 2 := congrArg Prod.fst (List.cons.inj q2).1
        omega
      · rw [hop, if_neg (fun q => q ((lg_cmp_eq _ _).mpr c0)), bd_u, hf]
        rw [show nI (M j) + 2 = nI (M j + 2) from nI_add (M j) 2]
    · have n0 : ¬ En ((4 * j, i + 1) :: P1) := fun q => hnH (hqa.2.2.1 i (.inl q)).1
      have n0' : ¬ En ((4 * j + 1, 0) :: (4 * j, i) :: P1) := fun q => hnH (hqa.2.2.1 i (.inr q)).1
      have hn : ∀ f, f < nF → fp f ≠ (4 * j, i + 1) :: P1 := frm_n h hP1 (by show ¬ 4 * j / 4 ∈ tbP y; rw [e44]; exact hntb) n0
      have hFk : POk V y ((4 * j, i + 1) :: P1) := pk_nd hOP1.1 hz (.inl ⟨rfl, hr.symm⟩)
      have hFz : Z0 y ((4 * j, i + 1) :: P1) := z0_cn hOP1.2.1 (.inl hif)
      have hfF : fpt y ((4 * j, i + 1) :: P1) = (4 * j, i + 1) :: P1 := fpt_y hif
      have hj4 : hdR ((4 * j, i + 1) :: P1) / 4 = j := e44
      obtain ⟨hb, hnF⟩ := ev_room X h20 hq0 Z (F := (4 * j, i + 1) :: P1) ⟨hFk, hFz, hif⟩ (fun ev' q => by
        rw [cs_i (c := (4 * j, i + 1)) (Q := P1) (by show ¬ 4 * j / 4 ∈ _; rw [e44]; exact hnft) (by show 4 * j / 4 ∈ _; rw [e44]; exact hlpj) (by show 4 * j % 4 = 0; omega) (by show i + 1 ≠ 0; omega)] at q
        have q := Option.some.inj q
        have e1 : (P1, 4 * j / 4, i + 1 - 1) = ev' := q
        rw [← e1, e44, Nat.add_sub_cancel]
        exact List.mem_append.mpr (.inl hev)) hP1 hn
      rw [hj4] at hb
      have hLτ : L j < τ := by
        have := (dp_P C _ hFk).2.2
        rw [hfF, hj4] at this
        exact this
      obtain ⟨g0a, g0b, g0c⟩ := frm_c h hn
      obtain ⟨S3, g1, g2, g3⟩ := x_frm (fu := fu) (F := (4 * j, i + 1) :: P1) (R := M j) (o := nI (fi (fpt y P1))) (x := nI (N j)) (by omega) C hS hX1 ⟨hFk, hFz, hif⟩ hn (by omega) (by rw [hj4]; exact (hA1 27 (M j) (by omega) (by omega)).1.trans f9) (by rw [hj4]; exact (hA1 28 (L j) (by omega) (by omega)).1.trans (hS.1 (L j) hLτ)) (by rw [hj4]; exact hb) hnF g0a (fun b _ => g0b b) g0c hL
      have hnif : ¬ ifr y (4 * j + 1) := fun q => by
        rcases (ifr_nd C.1 hz (k := 1) (by omega)).mp q with q | q
        · have := q.2
          omega
        · cases q
      have hf : fpt y ((4 * j + 1, 0) :: (4 * j, i) :: P1) = (4 * j, i) :: P1 := (fpt_n hnif).trans hfQ
      have hOPn : OP V y nF fp fi ((4 * j + 1, 0) :: (4 * j, i) :: P1) := ⟨pk_nd hOPQ.1 hz (.inr ⟨.inl rfl, rfl⟩), z0_cn hOPQ.2.1 (.inr rfl), by rw [hf]; exact hQ.1, by rw [hf]; exact hQ.2⟩
      have hOP3 := fn_op hn hOPn
      have hOPF : OP V y (nF + 1) (upN fp nF ((4 * j, i + 1) :: P1)) (fun Q => if Q = (4 * j, i + 1) :: P1 then nF else fi Q) ((4 * j, i + 1) :: P1) := fn_opF hFk hFz hfF
      obtain ⟨fi3, hfi3⟩ : ∃ fi3 : TPth → Nat, fi3 = fun Q => if Q = (4 * j, i + 1) :: P1 then nF else fi Q := ⟨_, rfl⟩
      obtain ⟨fp3, hfp3⟩ : ∃ fp3 : Nat → TPth, fp3 = upN fp nF ((4 * j, i + 1) :: P1) := ⟨_, rfl⟩
      obtain ⟨fb3, hfb3⟩ : ∃ fb3 : Nat → Nat, fb3 = upN fb nF nS := ⟨_, rfl⟩
      obtain ⟨lw3, hlw3⟩ : ∃ lw3 : Nat → Int64, lw3 = fun s => if s < nS then lw s else 0 := ⟨_, rfl⟩
      rw [← hfi3, ← hfp3] at hOP3 hOPF
      rw [← hfi3, ← hfp3, ← hfb3, ← hlw3] at g2
      have eo : ∀ {Q : TPth}, fi Q < nF → fp (fi Q) = Q → fi3 Q = fi Q ∧ fp3 (fi Q) = Q ∧ fb3 (fi Q) = fb (fi Q) := fun {Q} q1 q2 => by
        rw [hfi3, hfp3, hfb3]
        exact fn_fi hn q1 q2
      have eF : fi3 ((4 * j, i + 1) :: P1) = nF := by rw [hfi3]; exact if_pos rfl
      have eQ := (eo hQ.1 hQ.2).1
      obtain ⟨g4, g5⟩ := x_fol (f := fi ((4 * j, i) :: P1)) (v := nI nF) g2
      have hA3 := cag_mk (cag_mk hA1 g3) g5
      have hnw : ∀ t, ¬ (Aw ((4 * j + 1, 0) :: (4 * j, i) :: P1) t ∨ (∃ F b, WV F b ((4 * j + 1, 0) :: (4 * j, i) :: P1) t) ∨ ∃ D, (fun D P t => ∃ t', WC D t' P t) D ((4 * j + 1, 0) :: (4 * j, i) :: P1) t) := fun t q => n0' (h.1.2.1.2.2.2.2.1 _ t (q.imp id (Or.imp id (fun ⟨D, t', q⟩ => ⟨D, t', q⟩)))).1
      obtain ⟨S4, m1, m2, m3⟩ := h_ent (fu := fu) (by omega) X hA3 g4 hOP3 hnw (R0 := M j + 1) (by omega) (fun t => lv_rg C.1 hz (r1 := 4 * j + 1) (γ1 := bnd fs γ) (.inr (.inl ⟨rfl, rfl⟩)) w3 (by omega) (fun z q => htr z (mc _ (mr _ (mr _ (ml _ q))))) t) (lv_nd w3).1 f14
      rw [hf, eQ] at m1
      have hne : (4 * j, i + 1) :: P1 ≠ (4 * j + 1, 0) :: (4 * j, i) :: P1 := fun q => by
        have : 4 * j = 4 * j + 1 := congrArg Prod.fst (List.cons.inj q).1
        omega
      have hnw2 : ∀ t, ¬ ((Aw ((4 * j, i + 1) :: P1) t ∨ ((4 * j, i + 1) :: P1 = (4 * j + 1, 0) :: (4 * j, i) :: P1 ∧ ∃ z, NdA y ((4 * j, i + 1) :: P1) t z ∧ lfK z.1 = true)) ∨ (∃ F b, WV F b ((4 * j, i + 1) :: P1) t) ∨ ∃ D, (fun D P t => ∃ t', WC D t' P t) D ((4 * j, i + 1) :: P1) t) := fun t q => by
        refine n0 (h.1.2.1.2.2.2.2.1 _ t ?_).1
        rcases q with (q | q) | q | ⟨D, t', q⟩
        · exact .inl q
        · exact absurd q.1 hne
        · exact .inr (.inl q)
        · exact .inr (.inr ⟨D, t', q⟩)
      have hA4 := cag_mk hA3 m3
      obtain ⟨S5, k1, k2, k3⟩ := h_ent (fu := fu) (by omega) X hA4 m2 hOPF hnw2 (R0 := M j) (by omega) (fun t => lv_rg C.1 hz (r1 := 4 * j) (γ1 := bnd fs γ) (.inl ⟨rfl, rfl⟩) w2 (by omega) (fun z q => htr z (mc _ (mr _ (ml _ q)))) t) (lv_nd w2).1 f13
      rw [hfF, eF] at k1
      have hk5 := MK_t g3 (MK_t g5 (MK_t m3 k3))
      have hl3 := x_len g2
      have hrun : f_X5_endRound fu (nI (fi ((4 * j, i) :: P1))) (nI (N j)) S1 = some ((), S5) := by
        rw [hop, if_pos (fun q => c0 ((lg_cmp_eq _ _).mp q)), g1]
        simp only [Option.bind_some]
        rw [mI_in (a := fi ((4 * j, i) :: P1)) (n := S3.2.2 71) (by omega) (by omega), show nI (M j) + 1 = nI (M j + 1) from nI_add (M j) 1, m1]
        simp only [gd_t, Option.bind_some]
        rw [k1]
        rfl
      have hwv : ∀ F b P t, WV F b P t → vr F b = none := fun F b P t q => (h.1.2.1.2.2.2.2.2.1 F b P t q).1
      have hwc : ∀ D t' P t, WC D t' P t → cv D t' = none := fun D t' P t q => (h.1.2.1.2.2.2.2.2.2.1 D t' P t q).1
      obtain ⟨y1, y2, y3⟩ := aw_en (y := y) (Aw := Aw) (Sl := fun _ _ => False) (NE := fun P => P = (4 * j + 1, 0) :: (4 * j, i) :: P1 ∨ P = (4 * j, i + 1) :: P1) hwv hwc
      obtain ⟨sow, hly⟩ := x_ly hX1
      have hsub : ∀ e, e ∈ R' → e ∈ R := fun e q => ((hRm e).mp q).1
      refine ⟨S5, fun P => En P ∨ (P = (4 * j + 1, 0) :: (4 * j, i) :: P1 ∨ P = (4 * j, i + 1) :: P1), vr, none, _, _, _, R', nS + sl (L (hdR ((4 * j, i + 1) :: P1) / 4)), nF + 1, fb3, fp3, fi3, tf, tb, upN ow nF (nI (fi (fpt y P1))), upN si nF (nI (N j)), upN (upN fo nF 0) (fi ((4 * j, i) :: P1)) (nI nF), lw3, hrun, ⟨AB_fl (H_lp2 X.2.2.1 h.1 hz hr hev hRn hRm ha c4 c0) (fun q => by omega), MX_cg k2 (fun P t => ?_) y2 y3, cag_mk hA4 k3, mg_fr hG1 hk5 (fun ev' q => ?_), fun P q => ?_, ?_, ?_, MW_iff.mpr ⟨?_, fun P j' fs' c' ns' g' γ' r' i' q1 q2 => ?_⟩, mrs_k h.2.2.2.2.2.2.2.2.1 ((hk5.1 38 3 (by omega) (by omega)).trans (hS1.1 38 3 (by omega))) ((hk5.2.1 38 4 (by omega)).trans (by rw [hS1.2])), ⟨fun F b a q => ?_, fun F b P t q => ?_⟩⟩, ?_, htb, fun P t q => her P t (hsub _ q), fun P q => .inl q, [], Nat.zero_le _, fun P t m i q _ => .inl q⟩
      · rw [y1 P t]
        refine ⟨fun q => ?_, fun q => ?_⟩
        · rcases q with q | ⟨q | q, q'⟩
          · exact .inl (.inl q.1)
          · exact .inl (.inr ⟨q, q'⟩)
          · exact .inr ⟨q, q'⟩
        · rcases q with (q | q) | q
          · exact .inl ⟨q, id⟩
          · exact .inr ⟨.inl q.1, q.2⟩
          · exact .inr ⟨.inr q.1, q.2⟩
      · obtain ⟨Q, u1, u2, u3⟩ := ev_fr X h (hsub _ q)
        exact ⟨Q, u1, (eo u2 u3).1⟩
      · rcases q with q | q | q
        · rw [hfp3, hfi3]
          exact fn_op hn (h.2.2.2.2.1 P q)
        · rw [q]
          exact hOP3
        · rw [q]
          exact hOPF
      · obtain ⟨o1, o2, o3, o4⟩ := id hO
        refine ⟨by omega, by rw [hfp3]; exact (upN_ne (by omega)).trans o2, (upN_ne (by omega)).trans o3, fun f hf h0 => ?_⟩
        by_cases cf : f = nF
        · subst cf
          have e1 : fp3 f = (4 * j, i + 1) :: P1 := by rw [hfp3]; exact upN_eq
          refine ⟨(4 * j, i + 1), P1, e1, hP1, .inl hE1, ?_, fun q => absurd (show j ∈ _ by rw [← e44]; exact q) hnft, fun _ => .inr (.inr rfl), fun q => absurd (show j ∈ _ by rw [← e44]; exact q) hntb, fun _ q => ?_⟩
          · rw [upN_eq, (eo hOP1.2.2.1 hOP1.2.2.2).1]
          · rcases q with q | q | q
            · exact absurd (hqa.2.2.1 (i + 1) (.inl q)).2.1 n0
            · have : 4 * j = 4 * j + 1 := congrArg Prod.fst (List.cons.inj q).1
              omega
            · have : i + 1 + 1 = i + 1 := congrArg Prod.snd (List.cons.inj q).1
              omega
        · have hlt : f < nF := by omega
          obtain ⟨d, D, u1, u2, u3, u4, u5, u6, u7, u8⟩ := o4 f hlt h0
          refine ⟨d, D, by rw [hfp3, upN_ne cf]; exact u1, u2, .inl u3, ?_, fun q => by rw [upN_ne cf]; exact u5 q, fun q => .inl (u6 q), fun q => by rw [upN_ne cf]; exact u7 q, fun q q' => ?_⟩
          · rw [upN_ne cf, (eo (h.2.2.2.2.1 D u3).2.2.1 (h.2.2.2.2.1 D u3).2.2.2).1]
            exact u4
          · rcases q' with q' | q' | q'
            · have hOPd := h.2.2.2.2.1 _ q'
              have hfd : fpt y ((d.1, d.2 + 1) :: D) = (d.1, d.2 + 1) :: D := fpt_y (Classical.byContradiction (fun q2 => by
                have := (h.1.1.2.1 _ q').2 _ List.mem_cons_self q2
                have : d.2 + 1 = 0 := this
                omega))
              rw [OP, hfd] at hOPd
              have hfne : f ≠ fi ((4 * j, i) :: P1) := fun q2 => by
                rw [q2, hQ.2] at u1
                have v1 : (4 * j, i) = d := (List.cons.inj u1).1
                have v2 : P1 = D := (List.cons.inj u1).2
                rw [← v1, ← v2] at q'
                exact n0 q'
              rw [upN_ne hfne, upN_ne cf, (eo hOPd.2.2.1 hOPd.2.2.2).1]
              exact u8 q q'
            · have : d.2 + 1 = 0 := congrArg Prod.snd (List.cons.inj q').1
              omega
            · have v1 : d = (4 * j, i) := by
                have e1 : (d.1, d.2 + 1) = (4 * j, i + 1) := (List.cons.inj q').1
                have e2 : d.1 = 4 * j := congrArg Prod.fst e1
                have e3 : d.2 + 1 = i + 1 := congrArg Prod.snd e1
                exact Prod.ext e2 (by show d.2 = i; omega)
              have v2 : D = P1 := (List.cons.inj q').2
              have hfe : f = fi ((4 * j, i) :: P1) := by
                rw [← (hly.1 f hlt).1, u1, v1, v2]
              rw [hfe, upN_eq, q', eF]
      · rw [hfp3, hfi3]
        exact fn_MT (mt_ev h.2.2.2.2.2.2.1 hev hsub) hn
      · have ht7 := (MW_iff.mp h.2.2.2.2.2.2.2.1).1
        rw [hfp3, hfi3, hfb3, hlw3]
        refine fn_MW (lw := lw) ht7 h.2.2.2.2.1 hn h.1.1.2.2.1 (fun P d q => ?_) (fun P q => .inl q) (fun P z d q1 q2 q3 q4 q5 => ?_) (fun P z d q1 q2 q3 q4 q5 => ?_) (fun s q => if_neg (by omega))
        · rcases q with q | q | q
          · exact .inl q
          · refine .inr (.inr (fun z q1 q2 q3 => ?_))
            have e1 : d = (4 * j + 1, 0) := (List.cons.inj q).1
            rcases tg_no (w := C.1) q1 q3 with q5 | q5
            · rw [e1] at q5
              have q5 : (4 * j + 1) / 4 ∈ (ftP y).map Prod.fst := q5
              rw [show (4 * j + 1) / 4 = j by omega] at q5
              exact hnft q5
            · rw [e1] at q5
              have := q5.2.1
              have : (4 * j + 1) % 4 = 0 := this
              omega
          · exact .inr (.inl q)
        · have e1 : d = (4 * j, i + 1) := (List.cons.inj q5).1
          rcases tg_no (w := C.1) q2 q4 with q6 | q6
          · rw [e1] at q6
            have q6 : 4 * j / 4 ∈ (ftP y).map Prod.fst := q6
            rw [e44] at q6
            exact absurd q6 hnft
          · rw [e1] at q6
            have := q6.2.2
            have : i + 1 = 0 := this
            omega
        · exact if_pos (tg_lt C hS hly q1 q2 q3 q4)
      · rcases q2 with q2 | q2 | q2
        · exact .inl (h.2.2.2.2.2.2.2.1.2.1 P j' fs' c' ns' g' γ' r' i' q1 q2)
        · have e1 : (4 * j' + 1, 0) = (4 * j + 1, 0) := (List.cons.inj q2).1
          have e2 : (4 * j', i') :: P = (4 * j, i) :: P1 := (List.cons.inj q2).2
          have e3 : (4 * j', i') = (4 * j, i) := (List.cons.inj e2).1
          have e4 : P = P1 := (List.cons.inj e2).2
          have e5 : 4 * j' = 4 * j := congrArg Prod.fst e3
          have e6 : i' = i := congrArg Prod.snd e3
          rw [e5, e6, e4]
          exact .inr (.inr rfl)
        · have : 4 * j' + 1 = 4 * j := congrArg Prod.fst (List.cons.inj q2).1
          omega
      · rw [hfp3, hfi3]
        exact (fn_MV h.2.2.2.2.2.2.2.2.2 hn).1 F b a q
      · rw [hfp3, hfi3]
        exact (fn_MV h.2.2.2.2.2.2.2.2.2 hn).2 F b P t q.1
      · rw [hfp3, hfb3]
        exact cvs_fn hcv
end HP3
