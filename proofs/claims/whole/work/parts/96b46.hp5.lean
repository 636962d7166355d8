/-! an event happens, in the class: a table is made -/
/-- while the cells of a table get their frames -/
def TbI (V : Nat → Int64) (y : TR) (e : Nat) (N L : Nat → Nat) (G : im_S) (sl tO sO kO : Nat → Nat) (q0 : Nat) (En : TPth → Prop) (cv vr : TPth → Nat → Option TVal) (cc : TPth → Option TVal) (Aw : TPth → Nat → Prop) (WV : TPth → Nat → TPth → Nat → Prop) (WC2 : TPth → TPth → Nat → Prop) (P1 : TPth) (j fi0 : Nat) (R0 : List TEv) (S0 : im_S) (nS0 nF0 : Nat) (tf : TPth → Nat → Nat) (tb : TPth → Nat → Option Nat) (i : Nat) (S : im_S) (R : List TEv) (nS nF : Nat) (fb : Nat → Nat) (fp : Nat → TPth) (fi : TPth → Nat) (ow si fo : Nat → Int32) (lw : Nat → Int64) : Prop :=
  (MX V y e N L sl tO sO kO S nS nF fb fp fi tf tb ow si fo lw cv vr cc Aw WV WC2 ∧ CAg G S ∧ MG y N fi tf S none R ∧ MO y q0 N En nF fp fi tf tb ow si fo ∧ MWt V y N sO En nF fb fp fi lw ∧ (∀ P, En P → OP V y nF fp fi P) ∧ MVf nF fp fi vr WV ∧ CVS L sl nS nF fb fp tf tb) ∧
  ((∀ P t m', tb P t = some m' → ¬ (P = P1 ∧ t = j) → ∀ k, k < m' → fi ((4 * t, k) :: P) < nF ∧ fp (fi ((4 * t, k) :: P)) = (4 * t, k) :: P) ∧ (∀ k, k < i → fi ((4 * j, k) :: P1) < nF ∧ fp (fi ((4 * j, k) :: P1)) = (4 * j, k) :: P1) ∧ (∀ f k, f < nF → i ≤ k → fp f ≠ (4 * j, k) :: P1) ∧ (∀ ev, ev ∈ R → ∃ Q, evFr y ev Q ∧ fi Q < nF ∧ fp (fi Q) = Q) ∧ nS ≤ nS0 + 500 * i ∧ nF = nF0 + i ∧ fi (fpt y P1) = fi0) ∧
  (S.1 38 3 = S0.1 38 3 ∧ S.2.1 38 4 = S0.2.1 38 4) ∧ R.Nodup ∧ (∀ e, e ∈ R → e ∈ R0 ∨ ∃ k, k < i ∧ e = (P1, j, k + 1)) ∧ (∀ e, e ∈ R0 → e ∈ R) ∧ (R.length < 1001 → ∀ k, k < i → (P1, j, k + 1) ∈ R)
section HP5
variable {K pl : Nat → Nat} {V : Nat → Int64} {y : TR} {e : Nat} {N M L : Nat → Nat} {n ρ τ : Nat} {G : im_S} {sl tO sO kO crt : Nat → Nat} {f : Nat} {W : Nat → Int32 × Int32 × Int32} {ν : Nat → Nat} {q0 : Nat} {ar : Nat → Int64} {S S0 S1 S' : im_S} {En : TPth → Prop} {cv vr vr' : TPth → Nat → Option TVal} {cc : TPth → Option TVal} {mv : Option (TPth × Nat × TVal)} {Aw : TPth → Nat → Prop} {WV WC : TPth → Nat → TPth → Nat → Prop} {WC2 : TPth → TPth → Nat → Prop} {R R0 R' H : List TEv} {nS nS0 nF nF0 fu : Nat} {fb : Nat → Nat} {fp : Nat → TPth} {fi : TPth → Nat} {tf : TPth → Nat → Nat} {tb : TPth → Nat → Option Nat} {ow si fo : Nat → Int32} {lw : Nat → Int64} {P0 P1 F : TPth} {j r m fi0 : Nat} {γ : List Nat} {ev : TEv} {x x' : TR}
theorem sl_500 (X : XB K pl V y e N M L n ρ τ G sl tO sO kO crt f W ν) {t : Nat} (h : t < τ) : sl t ≤ 500 := by
  have h1 := sm_lt (sl := sl) h
  have h2 := X.2.1.2.1
  omega
set_option maxHeartbeats 4000000 in
theorem tb_st (hfu : 600000 ≤ fu) (X : XB K pl V y e N M L n ρ τ G sl tO sO kO crt f W ν) (hz : (.tag 11 (.tag j (.append x x')), γ, r) ∈ scP y) (hr : r = hdR P1) (hE1 : En P1) (hta : ∀ c Q, En (c :: Q) → Q ≠ [] → En Q) (hz0 : ∀ P, En P → Z0 y P) (hcE : ∀ P t v, cv P t = some v → En P) (hn0 : ∀ k, ¬ (P1, j, k + 1) ∈ R0) (hm : m ≤ 20) (htb : tb P1 j = some m) (hbS : nS0 + 500 * 20 + 500 ≤ 523264) (hbF : nF0 + 20 < 32768) {i : Nat} (hi : i < m) {z3 : Int32} {nf : Nat} (I : TbI V y e N L G sl tO sO kO q0 En cv vr cc Aw WV WC2 P1 j fi0 R0 S0 nS0 nF0 tf tb i S R nS nF fb fp fi ow si fo lw) :
    ∃ (S' : im_S) (R' : List TEv) (nS' nF' : Nat) (fb' : Nat → Nat) (fp' : Nat → TPth) (fi' : TPth → Nat) (ow' si' fo' : Nat → Int32) (lw' : Nat → Int64), TbI V y e N L G sl tO sO kO q0 En cv vr cc Aw WV WC2 P1 j fi0 R0 S0 nS0 nF0 tf tb (i + 1) S' R' nS' nF' fb' fp' fi' ow' si' fo' lw' ∧ f_X5_makeTable_L114 fu (nf + 1) (nI fi0) (nI (N j)) z3 (Int64.ofNat m) (nI (tf P1 j)) (nI (N (j + 3))) (nI i) S = f_X5_makeTable_L114 fu nf (nI fi0) (nI (N j)) z3 (Int64.ofNat m) (nI (tf P1 j)) (nI (N (j + 3))) (nI (i + 1)) S' := by
  obtain ⟨⟨i1, i2, i3, i4, i5, i6, i7, i8⟩, ⟨j1, j2, j3, j4, j5, j6, j7⟩, ⟨k1, k2⟩, l1, l2, l3, l4⟩ := I
  have C := X.1
  have hS := X.2.1
  have hL := X.2.2.1.2.2.2.2.1
  have hOP1 := i6 P1 hE1
  have hP1 := pk_ne hOP1.1
  have hif : ifr y (4 * j) := (ifr_nd C.1 hz (k := 0) (by omega)).mpr (.inr rfl)
  have hFk : POk V y ((4 * j, i) :: P1) := pk_nd hOP1.1 hz ⟨rfl, hr.symm⟩
  have hFz : Z0 y ((4 * j, i) :: P1) := z0_cn hOP1.2.1 (.inl hif)
  have hfF : fpt y ((4 * j, i) :: P1) = (4 * j, i) :: P1 := fpt_y hif
  have e44 : 4 * j / 4 = j := by omega
  have hj4 : hdR ((4 * j, i) :: P1) / 4 = j := e44
  have hnft : ¬ j ∈ (ftP y).map Prod.fst := fun q => (ft_fu C.1).2.2 j q _ hz rfl
  have hnlp : ¬ j ∈ lpP y := lp_no C.1 hz rfl
  have hjtb : j ∈ tbP y := List.mem_map.mpr ⟨_, List.mem_filter.mpr ⟨hz, rfl⟩, rfl⟩
  have hLτ : L j < τ := by
    have := (dp_P C _ hFk).2.2
    rw [hfF, hj4] at this
    exact this
  have hsl := sl_500 X hLτ
  obtain ⟨f1, f2, f3, f4, f5, f6, f7, f8, f9, f10, f11, f12, f13, f14, f15, f16, f17⟩ := cn_P C _ hz
  have hNj : N j < 500 := (tk_sl C hS (op_tk C hS hOP1 hz hr rfl).1).2.1
  have hje : j < e := (nd_P C hz rfl).2.2.2
  have hM := M_512 C (k := 1) hje f9
  have hn : ∀ f, f < nF → fp f ≠ (4 * j, i) :: P1 := fun f hf => j3 f i hf (Nat.le_refl _)
  have hτ := C.2.2.2.2.2.2.1
  obtain ⟨S3, g1, g2, g3⟩ := x_frm (fu := fu) (F := (4 * j, i) :: P1) (R := M j) (o := nI fi0) (x := nI (tf P1 j + i)) (by omega) C hS i1 ⟨hFk, hFz, hif⟩ hn (by omega) (by rw [hj4]; exact (i2 27 (M j) (by omega) (by omega)).1.trans f12) (by rw [hj4]; exact (i2 28 (L j) (by omega) (by omega)).1.trans (hS.1 (L j) hLτ)) (by rw [hj4]; omega) (by omega) (fun P z q1 q2 q3 q4 q5 q6 => by
    cases hc : cv P (otk z.1) with
    | none => rfl
    | some v =>
      have := i6 P (hcE P _ v hc)
      exact absurd (this.2.2.2.trans q3) (hn _ this.2.2.1)) (fun b _ => by
    cases hc : vr ((4 * j, i) :: P1) b with
    | none => rfl
    | some v =>
      have := i7.1 _ b v hc
      exact absurd this.2 (hn _ this.1)) (fun b P t q => by
    have := i7.2 _ b P t q
    exact absurd this.2 (hn _ this.1)) hL
  have eo : ∀ {Q : TPth}, fi Q < nF → fp (fi Q) = Q → (if Q = (4 * j, i) :: P1 then nF else fi Q) = fi Q ∧ upN fp nF ((4 * j, i) :: P1) (fi Q) = Q := fun {Q} q1 q2 => by
    obtain ⟨u1, u2, -⟩ := fn_fi (fb := fb) (nS := nS) hn q1 q2
    exact ⟨u1, u2⟩
  have eo2 : ∀ {Q : TPth}, fi Q < nF ∧ fp (fi Q) = Q → (fun Q => if Q = (4 * j, i) :: P1 then nF else fi Q) Q < nF + 1 ∧ upN fp nF ((4 * j, i) :: P1) ((fun Q => if Q = (4 * j, i) :: P1 then nF else fi Q) Q) = Q := fun {Q} q => by
    obtain ⟨u1, u2⟩ := eo q.1 q.2
    show (if Q = (4 * j, i) :: P1 then nF else fi Q) < nF + 1 ∧ upN fp nF ((4 * j, i) :: P1) (if Q = (4 * j, i) :: P1 then nF else fi Q) = Q
    rw [u1]
    exact ⟨by have := q.1; omega, u2⟩
  have eF : (fun Q => if Q = (4 * j, i) :: P1 then nF else fi Q) ((4 * j, i) :: P1) = nF := if_pos rfl
  have hevF : evFr y (P1, j, i + 1) ((4 * j, i) :: P1) := .inr (.inl ⟨hnlp, ⟨hjtb, by show i + 1 ≠ 0; omega⟩, rfl⟩)
  have hG3 : MG y N (fun Q => if Q = (4 * j, i) :: P1 then nF else fi Q) tf S3 none R := mg_fr i3 g3 (fun ev q => by
    obtain ⟨Q, u1, u2, u3⟩ := j4 ev q
    exact ⟨Q, u1, (eo u2 u3).1⟩)
  have hcd : nI nF * 512 + nI (N (j + 3)) = nI (evc y N (fun Q => if Q = (4 * j, i) :: P1 then nF else fi Q) (P1, j, i + 1)) := by
    rw [w_mk]
    have := evc_cl (N := N) (fi := fun Q => if Q = (4 * j, i) :: P1 then nF else fi Q) C.1 hz rfl rfl (P := P1) (i := i)
    have this : evc y N (fun Q => if Q = (4 * j, i) :: P1 then nF else fi Q) (P1, j, i + 1) = (fun Q => if Q = (4 * j, i) :: P1 then nF else fi Q) ((4 * j, i) :: P1) * 512 + N (j + 3) := this
    rw [this, eF]
  obtain ⟨S4, R', h1, h2, h3, h4, h5⟩ := g_rdy hG3 hcd
  obtain ⟨sow, hly⟩ := x_ly i1
  have hnR : ¬ (P1, j, i + 1) ∈ R := fun q => by
    rcases l2 _ q with q | ⟨k, q1, q2⟩
    · exact hn0 i q
    · have : i + 1 = k + 1 := congrArg (fun u : TEv => u.2.2) q2
      omega
  have hRR : ∀ ev, ev ∈ R' → ev ∈ R ∨ ev = (P1, j, i + 1) := fun ev q => by
    rcases h2 with h2 | h2
    · rw [h2] at q
      exact (List.mem_append.mp q).imp id List.mem_singleton.mp
    · rw [h2.2] at q
      exact .inl q
  have hRS : ∀ ev, ev ∈ R → ev ∈ R' := fun ev q => by
    rcases h2 with h2 | h2
    · rw [h2]
      exact List.mem_append.mpr (.inl q)
    · rw [h2.2]
      exact q
  refine ⟨S4, R', nS + sl (L (hdR ((4 * j, i) :: P1) / 4)), nF + 1, upN fb nF nS, upN fp nF ((4 * j, i) :: P1), fun Q => if Q = (4 * j, i) :: P1 then nF else fi Q, upN ow nF (nI fi0), upN si nF (nI (tf P1 j + i)), upN fo nF 0, fun s => if s < nS then lw s else 0, ⟨⟨MX_reg g2 (fun b i q1 q2 => h4 b i (by omega)) (h4 38 10 (by omega)) (fun i => by rw [h5]) (by rw [h5]), cag_k (cag_mk i2 g3) (fun b i q1 q2 => h4 b i (by omega)) (fun b i q1 q2 => by rw [h5]), h3, ?_, ?_, fun P q => fn_op hn (i6 P q), fn_MV i7 hn, cvs_fn i8⟩, ⟨fun P t m' q1 q2 k q3 => eo2 (j1 P t m' q1 q2 k q3), fun k q => ?_, fun f k q1 q2 q3 => ?_, fun ev q => ?_, by rw [hj4]; omega, by omega, ?_⟩, ⟨(h4 38 3 (by omega)).trans ((g3.1 38 3 (by omega) (by omega)).trans k1), by rw [h5]; exact (g3.2.1 38 4 (by omega)).trans k2⟩, ?_, fun ev q => ?_, fun ev q => hRS ev (l3 ev q), fun q k q1 => ?_⟩, ?_⟩
  · refine fn_MO (c := (4 * j, i)) (Q := P1) i4 i6 hn (fun P q => q) rfl hP1 hE1 (by rw [j7]) (fun q => absurd (show j ∈ _ by rw [← e44]; exact q) hnft) (fun q => absurd hjtb (by rw [← e44]; exact q)) (fun _ => ⟨m, by show tb P1 (4 * j / 4) = some m; rw [e44]; exact htb, hi, by show nI (tf P1 j + i) = nI (tf P1 (4 * j / 4) + i); rw [e44]⟩) (fun d D q1 q2 => ⟨q2, fpt_y (Classical.byContradiction (fun q => ?_))⟩) (fun q => absurd (show j ∈ _ by rw [← e44]; exact q) hnlp)
    have := hz0 _ q2 _ List.mem_cons_self q
    have : d.2 + 1 = 0 := this
    omega
  · refine fn_MW (lw := lw) i5 i6 hn hta (fun P d q => .inl q) (fun P q => q) (fun P z d q1 q2 q3 q4 q5 => ?_) (fun P z d q1 q2 q3 q4 q5 => if_pos (tg_lt C hS hly q1 q2 q3 q4)) (fun s q => if_neg (by omega))
    have e1 : d = (4 * j, i) := (List.cons.inj q5).1
    rcases tg_no (w := C.1) q2 q4 with q6 | q6
    · rw [e1] at q6
      have q6 : 4 * j / 4 ∈ (ftP y).map Prod.fst := q6
      rw [e44] at q6
      exact absurd q6 hnft
    · rw [e1] at q6
      have q6 := q6.1
      have q6 : 4 * j / 4 ∈ lpP y := q6
      rw [e44] at q6
      exact absurd q6 hnlp
  · by_cases ck : k = i
    · rw [ck]
      show (if (4 * j, i) :: P1 = (4 * j, i) :: P1 then nF else fi ((4 * j, i) :: P1)) < nF + 1 ∧ upN fp nF ((4 * j, i) :: P1) (if (4 * j, i) :: P1 = (4 * j, i) :: P1 then nF else fi ((4 * j, i) :: P1)) = (4 * j, i) :: P1
      rw [if_pos rfl]
      exact ⟨by omega, upN_eq⟩
    · exact eo2 (j2 k (by omega))
  · by_cases cf : f = nF
    · rw [cf, upN_eq] at q3
      have : i = k := congrArg Prod.snd (List.cons.inj q3).1
      omega
    · rw [upN_ne cf] at q3
      exact j3 f k (by omega) (by omega) q3
  · rcases hRR ev q with q | q
    · obtain ⟨Q, u1, u2, u3⟩ := j4 ev q
      exact ⟨Q, u1, eo2 ⟨u2, u3⟩⟩
    · rw [q]
      refine ⟨_, hevF, ?_⟩
      show (if (4 * j, i) :: P1 = (4 * j, i) :: P1 then nF else fi ((4 * j, i) :: P1)) < nF + 1 ∧ upN fp nF ((4 * j, i) :: P1) (if (4 * j, i) :: P1 = (4 * j, i) :: P1 then nF else fi ((4 * j, i) :: P1)) = (4 * j, i) :: P1
      rw [if_pos rfl]
      exact ⟨by omega, upN_eq⟩
  · show (if fpt y P1 = (4 * j, i) :: P1 then nF else fi (fpt y P1)) = fi0
    rw [(eo hOP1.2.2.1 hOP1.2.2.2).1]
    exact j7
  · rcases h2 with h2 | h2
    · rw [h2]
      refine List.nodup_append.mpr ⟨l1, List.nodup_cons.mpr ⟨List.not_mem_nil, List.nodup_nil⟩, fun a q1 b q2 q3 => ?_⟩
      rw [List.mem_singleton.mp q2] at q3
      rw [q3] at q1
      exact hnR q1
    · rw [h2.2]
      exact l1
  · rcases hRR ev q with q | q
    · exact (l2 ev q).imp id (fun ⟨k, q1, q2⟩ => ⟨k, by omega, q2⟩)
    · exact .inr ⟨i, by omega, q⟩
  · rcases h2 with h2 | h2
    · by_cases ck : k = i
      · rw [h2, ck]
        exact List.mem_append.mpr (.inr (List.mem_singleton.mpr rfl))
      · rw [h2, List.length_append] at q
        exact hRS _ (l4 (by omega) k (by omega))
    · rw [h2.2] at q
      omega
  · have hcmp : ¬ (0 : Int32) ≤ (lg_cmp (nI i).toInt64 (Int64.ofNat m)) := fun q => by
      have := (lg_cmp_ge _ _).mp q
      rw [Int64.le_iff_toInt_le, nI64 (by omega), Int64.toInt_ofNat_of_lt (show i < 2 ^ 63 by omega), Int64.toInt_ofNat_of_lt (show m < 2 ^ 63 by omega)] at this
      omega
    rw [f_X5_makeTable_L114, if_neg hcmp, mI_in (a := N j) (n := 512) (by omega) (by omega), nI_clamp (show N j < 2 ^ 31 by omega), (i2 15 (N j) (by omega) (by omega)).1.trans f11, show nI (tf P1 j) + nI i = nI (tf P1 j + i) from nI_add (tf P1 j) i, g1]
    simp only [gd_t, Option.bind_some]
    rw [h1]
    simp only [Option.bind_some]
    rw [show nI i + 1 = nI (i + 1) from nI_add i 1]
theorem tb_lp (hfu : 600000 ≤ fu) (X : XB K pl V y e N M L n ρ τ G sl tO sO kO crt f W ν) (hz : (.tag 11 (.tag j (.append x x')), γ, r) ∈ scP y) (hr : r = hdR P1) (hE1 : En P1) (hta : ∀ c Q, En (c :: Q) → Q ≠ [] → En Q) (hz0 : ∀ P, En P → Z0 y P) (hcE : ∀ P t v, cv P t = some v → En P) (hn0 : ∀ k, ¬ (P1, j, k + 1) ∈ R0) (hm : m ≤ 20) (htb : tb P1 j = some m) (htf : tf P1 j < 2 ^ 24) (hbS : nS0 + 500 * 20 + 500 ≤ 523264) (hbF : nF0 + 20 < 32768) {z3 : Int32} : ∀ (d nf i : Nat) (S : im_S) (R : List TEv) (nS nF : Nat) (fb : Nat → Nat) (fp : Nat → TPth) (fi : TPth → Nat) (ow si fo : Nat → Int32) (lw : Nat → Int64), d + i = m → d < nf → TbI V y e N L G sl tO sO kO q0 En cv vr cc Aw WV WC2 P1 j fi0 R0 S0 nS0 nF0 tf tb i S R nS nF fb fp fi ow si fo lw →
    ∃ (S' : im_S) (R' : List TEv) (nS' nF' : Nat) (fb' : Nat → Nat) (fp' : Nat → TPth) (fi' : TPth → Nat) (ow' si' fo' : Nat → Int32) (lw' : Nat → Int64), TbI V y e N L G sl tO sO kO q0 En cv vr cc Aw WV WC2 P1 j fi0 R0 S0 nS0 nF0 tf tb m S' R' nS' nF' fb' fp' fi' ow' si' fo' lw' ∧ f_X5_makeTable_L114 fu nf (nI fi0) (nI (N j)) z3 (Int64.ofNat m) (nI (tf P1 j)) (nI (N (j + 3))) (nI i) S = (f_X5_send (nI fi0) (nI (N j)) 3 (Int64.ofNat (tf P1 j * 32 + m)) S').bind (fun q => some ((), q.2)) := by
  intro d
  induction d with
  | zero =>
    intro nf i S R nS nF fb fp fi ow si fo lw hd hnf I
    have hd : i = m := by omega
    subst hd
    obtain ⟨nf, rfl⟩ : ∃ q, nf = q + 1 := ⟨nf - 1, by omega⟩
    refine ⟨S, R, nS, nF, fb, fp, fi, ow, si, fo, lw, I, ?_⟩
    have hcmp : (0 : Int32) ≤ (lg_cmp (nI i).toInt64 (Int64.ofNat i)) := (lg_cmp_ge _ _).mpr (by
      rw [nI64 (by omega), Int64.le_iff_toInt_le]
      omega)
    have h32 : (Int64.ofNat i).toInt32 = nI i := by rw [← nI64 (show i < 2 ^ 31 by omega), nI_64_32]
    rw [f_X5_makeTable_L114, if_pos hcmp]
    unfold f_X8_tableOf
    simp only [Option.bind_some]
    rw [h32, tb_w htf (by omega)]
  | succ d ih =>
    intro nf i S R nS nF fb fp fi ow si fo lw hd hnf I
    obtain ⟨nf, rfl⟩ : ∃ q, nf = q + 1 := ⟨nf - 1, by omega⟩
    obtain ⟨S', R', nS', nF', fb', fp', fi', ow', si', fo', lw', I', h1⟩ := tb_st (nf := nf) (z3 := z3) hfu X hz hr hE1 hta hz0 hcE hn0 hm htb hbS hbF (i := i) (by omega) I
    obtain ⟨S2, R2, nS2, nF2, fb2, fp2, fi2, ow2, si2, fo2, lw2, I2, h2⟩ := ih nf (i + 1) S' R' nS' nF' fb' fp' fi' ow' si' fo' lw' (by omega) (by omega) I'
    exact ⟨S2, R2, nS2, nF2, fb2, fp2, fi2, ow2, si2, fo2, lw2, I2, h1.trans h2⟩
end HP5
