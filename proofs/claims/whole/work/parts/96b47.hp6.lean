/-! an event happens, in the class: a table is made, all of it -/
section HP6
variable {K pl : Nat → Nat} {V : Nat → Int64} {y : TR} {e : Nat} {N M L : Nat → Nat} {n ρ τ : Nat} {G : im_S} {sl tO sO kO crt : Nat → Nat} {f : Nat} {W : Nat → Int32 × Int32 × Int32} {ν : Nat → Nat} {q0 : Nat} {ar : Nat → Int64} {S S1 S' : im_S} {En : TPth → Prop} {cv vr vr' : TPth → Nat → Option TVal} {mv : Option (TPth × Nat × TVal)} {Aw : TPth → Nat → Prop} {WV WC : TPth → Nat → TPth → Nat → Prop} {R R' H : List TEv} {nS nF fu : Nat} {fb : Nat → Nat} {fp : Nat → TPth} {fi : TPth → Nat} {tf : TPth → Nat → Nat} {tb : TPth → Nat → Option Nat} {ow si fo : Nat → Int32} {lw : Nat → Int64} {P0 P1 F : TPth} {j r : Nat} {γ : List Nat} {ev : TEv} {x x' : TR}
theorem sz_n20 {v : Int64} (h : ¬ bad20 v) : ∃ m, m ≤ 20 ∧ v = Int64.ofNat m ∧ v.toInt32 = nI m ∧ i64N v = m := by
  have h0 : ¬ (lg_cmp v 0 : Int32) < 0 := fun q => h (.inl q)
  have h1 : (lg_cmp v 20 : Int32) ≤ 0 := Classical.byContradiction (fun q => h (.inr q))
  rw [lg_cmp_lt, Int64.lt_iff_toInt_lt] at h0
  rw [lg_cmp_le, Int64.le_iff_toInt_le] at h1
  have e0 : (0 : Int64).toInt = 0 := rfl
  have e1 : (20 : Int64).toInt = 20 := rfl
  rw [e0] at h0
  rw [e1] at h1
  obtain ⟨m, hm⟩ : ∃ m : Nat, v.toInt = m := ⟨v.toInt.toNat, by omega⟩
  have hm20 : m ≤ 20 := by omega
  have hv : v = Int64.ofNat m := by
    apply Int64.toInt_inj.mp
    rw [hm, Int64.toInt_ofNat_of_lt (show m < 2 ^ 63 by omega)]
  refine ⟨m, hm20, hv, ?_, ?_⟩
  · rw [hv, ← nI64 (show m < 2 ^ 31 by omega), nI_64_32]
  · rw [hv]
    exact i64_of hm20
set_option maxHeartbeats 8000000 in
theorem fh_tb (hfu : 600000 ≤ fu) (X : XB K pl V y e N M L n ρ τ G sl tO sO kO crt f W ν) (h20 : nlP y ≤ 20) (hq0 : q0 ∈ (ftP y).map Prod.fst) (Z : HPz K V y e N L G sl tO sO kO crt q0 ar S S1 En cv vr Aw WV WC R R' H nS nF fb fp fi tf tb ow si fo lw (P1, j, 0)) (hz : (.tag 11 (.tag j (.append x x')), γ, r) ∈ scP y) (hr : r = hdR P1) : FHo K V y e N L G sl tO sO kO crt q0 ar (f_X5_makeTable fu (nI (fi (fpt y P1))) (nI (N j)) S1) En cv H (P1, j, 0) tb := by
  obtain ⟨h, hS1, hG1, hRn, hRm, hev, hle, hcv, htb, her⟩ := id Z
  have C := X.1
  have hS := X.2.1
  have hL := X.2.2.1.2.2.2.2.1
  have hE1 : En P1 := (h.1.2.1.2.2.2.1 P1 j 0 (.inl hev)).1
  have hOP1 := h.2.2.2.2.1 P1 hE1
  have hP1 := pk_ne hOP1.1
  have hqa := h.1.2.2.2.2.1 P1 _ hE1 hz hr
  have hnH := rh_no h.1.2.1.2.2.1 hev
  obtain ⟨a, ha⟩ := hqa.2.1 (.inl hev)
  obtain ⟨⟨p', e', wz⟩, -, htr⟩ := (tl_P C.1) _ hz
  obtain ⟨hjp, -, -, bb, w1, w2⟩ := wz
  have hx := htr _ (mc _ (ml _ (hd_in w1 _ _)))
  obtain ⟨f1, f2, f3, f4, f5, f6, f7, f8, f9, f10, f11, f12, f13, f14, f15, f16, f17⟩ := cn_P C _ hz
  have hA1 := rm_ca hS1 h.2.2.1
  have hX1 := rm_mx hS1 h.2.1
  have hNj : N j < 500 := (tk_sl C hS (op_tk C hS hOP1 hz hr rfl).1).2.1
  obtain ⟨s, s1, s2, s3, s4, s5, s6, s7, s8, s9⟩ := h_rd C hS hA1 hX1 hOP1 hx hr ha
  have hty : tyO (tyV K V x) a := AB_ty X.2.2.1 h.1 hx ha
  have hgd : tvV (V (j + 1)) = 3 ∧ tvV (V (j + 3)) = 1 ∧ tyV K V x = 1 ∧ tyV K V x' = 1 := X.2.2.1.2.2.2.2.2.1 _ hz
  rw [hgd.2.2.1] at hty
  have n3 : a.1 ≠ 3 := fun q => by
    have := hty.2 (by omega)
    omega
  have hw : S1.2.1 66 s = a.2.1 := s6.2 n3
  have hop : f_X5_makeTable fu (nI (fi (fpt y P1))) (nI (N j)) S1 = (if S1.1 65 s ≠ 4 then (if (lg_cmp a.2.1 0 : Int32) < 0 then ((f_X5_send (nI (fi (fpt y P1))) (nI (N j)) 4 3 S1).bind (fun q => some ((), q.2))) else (if (lg_cmp a.2.1 20 : Int32) ≤ 0 then ((f_X8_take fu a.2.1.toInt32 S1).bind (fun qS10 => gd (in_b ((qS10.2.1 47) (N j)) 512) (f_X5_makeTable_L114 fu fu (nI (fi (fpt y P1))) (nI (N j)) (nI s) a.2.1 qS10.1 ((qS10.2.1 48) (((qS10.2.1 47) (N j)).toNatClampNeg)) 0 qS10.2))) else ((f_X5_send (nI (fi (fpt y P1))) (nI (N j)) 4 3 S1).bind (fun q => some ((), q.2))))) else ((f_X5_send (nI (fi (fpt y P1))) (nI (N j)) 4 a.2.1 S1).bind (fun q => some ((), q.2)))) := by
    unfold f_X5_makeTable
    rw [mI_in (a := N j) (n := 512) (by omega) (by omega), nI_clamp (show N j < 2 ^ 31 by omega), (hA1 12 (N j) (by omega) (by omega)).1.trans f2, s1]
    simp only [gd_t, Option.bind_some]
    rw [s2, s3, s4, hw]
    simp only [gd_t]
  by_cases c4 : a.1 = 4
  · have e4 : nI a.1 = 4 := by rw [c4]; rfl
    refine fh_snd Z (H_tb0 X.2.2.1 h.1 hz hr hev hRn hRm ha (v := a) (.inl ⟨c4, rfl⟩)) (w := a.2.1) (ecw_n n3) (fun q => absurd q n3) ?_
    rw [hop, if_neg (fun q => q (s5.mpr c4)), bd_u, e4]
  · rw [if_pos (fun q => c4 (s5.mp q))] at hop
    by_cases hbad : bad20 a.2.1
    · refine fh_snd Z (H_tb0 X.2.2.1 h.1 hz hr hev hRn hRm ha (v := mkE 3) (.inr ⟨c4, hbad, rfl⟩)) (w := 3) (ecw_n (v := mkE 3) (show ¬ 4 = 3 by decide)) (fun q => absurd q (show ¬ 4 = 3 by decide)) ?_
      rw [hop]
      by_cases cz : (lg_cmp a.2.1 0 : Int32) < 0
      · rw [if_pos cz, bd_u]
        rfl
      · rcases hbad with hbad | hbad
        · exact absurd hbad cz
        · rw [if_neg cz, if_neg hbad, bd_u]
          rfl
    · obtain ⟨m, hm, hv, h32, h64⟩ := sz_n20 hbad
      rw [if_neg (fun q => hbad (.inl q)), if_pos (Classical.byContradiction (fun q => hbad (.inr q))), h32] at hop
      have htb0 : tb P1 j = none := by
        cases hq : tb P1 j with
        | none => rfl
        | some m' => exact absurd (h.2.2.2.2.2.2.1.2.1 P1 j m' hq).1 hnH
      have hEc : ∀ k, ¬ En ((4 * j, k) :: P1) := fun k q => by
        obtain ⟨-, v, hv⟩ := hqa.2.2.2.2.1 k q
        exact hnH (hqa.2.2.1 v (.inl hv))
      have hn0 : ∀ k, ¬ (P1, j, k + 1) ∈ R' := fun k q => hnH (hqa.2.2.2.1 k (.inl ((hRm _).mp q).1)).1
      have hcE : ∀ P t v, cv P t = some v → En P := fun P t v q => (h.1.2.1.1 P t v (.inl q)).1
      have htv : ∀ P t b, cv P t = some b → b.1 = 3 → ¬ (b.2.2.1 = P1 ∧ b.2.2.2 = j) := fun P t b q1 q2 q3 => by
        obtain ⟨m', u1, -⟩ := h.2.2.2.2.2.2.1.1 P t b (.inl q1) q2
        rw [q3.1, q3.2, htb0] at u1
        cases u1
      obtain ⟨sow, hly⟩ := x_ly hX1
      have hK := fr_K C.1 hq0 h.1 hly h.2.2.2.2.2.1 (Z := R ++ H) (fun ev q => List.mem_append.mpr (.inr q)) (cel_RH h (by omega) htb)
      have hZl : (R ++ H).length ≤ 1000 := by rw [List.length_append]; exact hle
      have rm0 := mroom0 C X.2.1.2.1 hq0 h.1 hly h.2.2.2.2.2.1 hcv (Z := R ++ H) (fun ev q => List.mem_append.mpr (.inr q)) (cel_RH h (by omega) htb)
      have rm1 := cnt_fr C.1 h20 (m := nF) (Z := R ++ H) (g := fp) (q0 := q0) (V := V) hK (fun f1 f2 q1 q2 q3 => by rw [← (hly.1 f1 q1).1, ← (hly.1 f2 q2).1, q3])
      obtain ⟨S2, t1, t2, t3⟩ := x_take (fu := fu) (P0 := P1) (t0 := j) (m0 := m) (by omega) C hS hL hX1 hm (by omega) htb0 (fun i _ => by
        show cv ((4 * j, i) :: P1) (crt (4 * j / 4)) = none
        cases hc : cv ((4 * j, i) :: P1) (crt (4 * j / 4)) with
        | none => rfl
        | some v => exact absurd (hcE _ _ _ hc) (hEc i)) (fun i P t _ q => by
        obtain ⟨t', q⟩ := q
        obtain ⟨-, u, u', γu, ru, b, b', v, v', γv, rv, d1, d2, d3, d4, d5, d6, d7, d8⟩ := h.1.2.1.2.2.2.2.2.2.1 _ _ _ _ q
        obtain ⟨⟨p1, e1, wu⟩, -, htu⟩ := (tl_P C.1) _ d1
        obtain ⟨wu1, -⟩ := wu
        have hu := htu _ (mc _ (ml _ (hd_in wu1 _ _)))
        have hgu : tyV K V u = 3 ∧ tyV K V u' = 1 := X.2.2.1.2.2.2.2.2.1 _ d1
        have htu3 : tyO (tyV K V u) b := AB_ty X.2.2.1 h.1 hu d2
        rw [hgu.1] at htu3
        have b3 := htu3.2 (erV_n d7).1
        have e1 : (4 * j, i) = (4 * b.2.2.2, i64N b'.2.1) := (List.cons.inj d5).1
        have e2 : P1 = b.2.2.1 := (List.cons.inj d5).2
        have e3 : 4 * j = 4 * b.2.2.2 := congrArg Prod.fst e1
        exact htv _ _ b d2 b3 ⟨e2.symm, by omega⟩)
      obtain ⟨tf2, htf2⟩ : ∃ tf2 : TPth → Nat → Nat, tf2 = fun P t => if P = P1 ∧ t = j then nS else tf P t := ⟨_, rfl⟩
      obtain ⟨tb2, htb2⟩ : ∃ tb2 : TPth → Nat → Option Nat, tb2 = fun P t => if P = P1 ∧ t = j then some m else tb P t := ⟨_, rfl⟩
      rw [← htf2, ← htb2] at t2
      have tb2j : tb2 P1 j = some m := by rw [htb2]; exact if_pos ⟨rfl, rfl⟩
      have tf2j : tf2 P1 j = nS := by rw [htf2]; exact if_pos ⟨rfl, rfl⟩
      have tb2n : ∀ P t, ¬ (P = P1 ∧ t = j) → tb2 P t = tb P t := fun P t q => by rw [htb2]; exact if_neg q
      have tf2n : ∀ P t, ¬ (P = P1 ∧ t = j) → tf2 P t = tf P t := fun P t q => by rw [htf2]; exact if_neg q
      have hold : ∀ P t m', tb P t = some m' → ¬ (P = P1 ∧ t = j) := fun P t m' q q' => by
        rw [q'.1, q'.2, htb0] at q
        cases q
      have ecw2 : ∀ P t b w, cv P t = some b → EcW tf b w → EcW tf2 b w := fun P t b w q1 q2 => ⟨fun q => by
        rw [tf2n _ _ (htv P t b q1 q)]
        exact q2.1 q, q2.2⟩
      have hsub : ∀ e, e ∈ R' → e ∈ R := fun e q => ((hRm e).mp q).1
      have hnF : ∀ f k, f < nF → 0 ≤ k → fp f ≠ (4 * j, k) :: P1 := fun f k hf _ q => by
        by_cases c0 : f = 0
        · rw [c0, h.2.2.2.2.2.1.2.1] at q
          exact hP1 (List.cons.inj q).2.symm
        · obtain ⟨d, D, o1, o2, o3, o4, o5, o6, o7, -⟩ := h.2.2.2.2.2.1.2.2.2 f hf c0
          rw [q] at o1
          have e1 : (4 * j, k) = d := (List.cons.inj o1).1
          have e2 : P1 = D := (List.cons.inj o1).2
          have e3 : d.1 / 4 = j := by
            rw [← e1]
            show 4 * j / 4 = j
            omega
          obtain ⟨m', o7, -⟩ := o7 (by rw [e3]; exact List.mem_map.mpr ⟨_, List.mem_filter.mpr ⟨hz, rfl⟩, rfl⟩)
          rw [e3, ← e2, htb0] at o7
          cases o7
      have ht7 := (MW_iff.mp h.2.2.2.2.2.2.2.1).1
      have hG2 := mg_mk hG1 t3
      have I0 : TbI V y e N L G sl tO sO kO q0 En cv vr (fun D => cv D (crt (hdR D / 4))) Aw WV (fun D P t => ∃ t', WC D t' P t) P1 j (fi (fpt y P1)) R' S1 (nS + m) nF tf2 tb2 0 S2 R' (nS + m) nF fb fp fi ow si fo (fun s => if s < nS then lw s else 0) := by
        refine ⟨⟨t2, cag_mk hA1 t3, ⟨hG2.1, fun P t a q => (by cases q), hG2.2.2⟩, ?_, fun P z d q1 q2 q3 q4 => ?_, h.2.2.2.2.1, h.2.2.2.2.2.2.2.2.2, fun s hs => ?_⟩, ⟨fun P t m' q1 q2 k q3 => ?_, fun k q => by omega, hnF, fun ev q => ev_fr X h (hsub _ q), by omega, by omega, rfl⟩, ⟨t3.1 38 3 (by omega) (by omega), t3.2.1 38 4 (by omega)⟩, hRn, fun e q => .inl q, fun e q => q, fun _ k q => by omega⟩
        · obtain ⟨o1, o2, o3, o4⟩ := h.2.2.2.2.2.1
          refine ⟨o1, o2, o3, fun f hf h0 => ?_⟩
          obtain ⟨d, D, u1, u2, u3, u4, u5, u6, u7, u8⟩ := o4 f hf h0
          refine ⟨d, D, u1, u2, u3, u4, u5, u6, fun q => ?_, u8⟩
          obtain ⟨m', v1, v2, v3⟩ := u7 q
          exact ⟨m', by rw [tb2n _ _ (hold _ _ _ v1)]; exact v1, v2, by rw [tf2n _ _ (hold _ _ _ v1)]; exact v3⟩
        · have e1 : (if fb (fi (fpt y P)) + sO (N (otk z.1)) + 1 < nS then lw (fb (fi (fpt y P)) + sO (N (otk z.1)) + 1) else 0) = lw (fb (fi (fpt y P)) + sO (N (otk z.1)) + 1) := if_pos (tg_lt C hS hly q1 q2 q3 q4)
          show (En (d :: P) → (if fb (fi (fpt y P)) + sO (N (otk z.1)) + 1 < nS then lw (fb (fi (fpt y P)) + sO (N (otk z.1)) + 1) else 0) = (nI (fi (d :: P))).toInt64) ∧ (¬ En (d :: P) → (if fb (fi (fpt y P)) + sO (N (otk z.1)) + 1 < nS then lw (fb (fi (fpt y P)) + sO (N (otk z.1)) + 1) else 0) = 0)
          rw [e1]
          exact ht7 P z d q1 q2 q3 q4
        · rcases Nat.lt_or_ge s nS with u | u
          · rcases hcv s u with v | ⟨P, t, m', i, v1, v2, v3⟩
            · exact .inl v
            · exact .inr ⟨P, t, m', i, by rw [tb2n _ _ (hold _ _ _ v1)]; exact v1, v2, by rw [tf2n _ _ (hold _ _ _ v1)]; exact v3⟩
          · exact .inr ⟨P1, j, m, s - nS, tb2j, by omega, by rw [tf2j]; omega⟩
        · rw [tb2n _ _ q2] at q1
          obtain ⟨-, y1, y2, y3, y4, -, -, u⟩ := h.2.2.2.2.2.2.1.2.1 P t m' q1
          exact u k q3
      have hl := x_len hX1
      obtain ⟨S3, R3, nS3, nF3, fb3, fp3, fi3, ow3, si3, fo3, lw3, I3, hL3⟩ := tb_lp (z3 := nI s) hfu X hz hr hE1 h.1.1.2.2.1 (fun P q => (h.1.1.2.1 P q).2) hcE hn0 hm tb2j (by rw [tf2j]; omega) (by omega) (by omega) m fu 0 S2 R' (nS + m) nF fb fp fi ow si fo _ rfl (by omega) I0
      obtain ⟨⟨i1, i2, i3, i4, i5, i6, i7, i8⟩, ⟨j1, j2, j3, j4, j5, j6, j7⟩, ⟨k1, k2⟩, l1, l2, l3, l4⟩ := I3
      have hif : ifr y (4 * j) := (ifr_nd C.1 hz (k := 0) (by omega)).mpr (.inr rfl)
      have hFk : POk V y ((4 * j, 0) :: P1) := pk_nd hOP1.1 hz ⟨rfl, hr.symm⟩
      have hvt : VT V y ((4 * j, 0) :: P1) (j + 1) := .inr (.inr (.inr ⟨j, x, x', γ, r, hz, .inr rfl, rfl⟩))
      have hN1 := (tk_sl C hS (tk_v C hS hL hvt hFk hif).1).2.1
      have hA2 := cag_mk hA1 t3
      have hrun : f_X5_makeTable fu (nI (fi (fpt y P1))) (nI (N j)) S1 = f_X5_send (nI (fi3 (fpt y P1))) (nI (N j)) (nI (3, a.2.1, P1, j).1) (Int64.ofNat (nS * 32 + m)) S3 := by
        rw [hop, t1]
        simp only [Option.bind_some]
        rw [(hA2 13 (N j) (by omega) (by omega)).1.trans f4, mI_in (a := N (j + 1)) (n := 512) (by omega) (by omega), nI_clamp (show N (j + 1) < 2 ^ 31 by omega), (hA2 14 (N (j + 1)) (by omega) (by omega)).1.trans f7, hv]
        simp only [gd_t]
        rw [tf2j] at hL3
        rw [show (0 : Int32) = nI 0 from rfl, hL3, bd_u, j7]
        rfl
      have hEc3 : EcW tf2 (3, a.2.1, P1, j) (Int64.ofNat (nS * 32 + m)) := ⟨fun _ => ⟨m, hm, hv, by show Int64.ofNat (nS * 32 + m) = Int64.ofNat (tf2 P1 j * 32 + m); rw [tf2j]⟩, fun q => absurd rfl q⟩
      obtain ⟨S4, g1, g2, g3, g4, g5⟩ := g_send (P := P1) (t := j) i3 hEc3
      have A' := H_tb1 (fl := (1001 ≤ R.length)) (fl' := (1001 ≤ R3.length)) (NR := fun e => e ∈ R3 ∧ ∃ k, k < m ∧ e = (P1, j, k + 1)) X.2.2.1 h.1 hz hr hev l1 (fun e => ⟨fun q => ?_, fun q => ?_⟩) (fun e q => by rw [h64]; exact q.2) (fun q k q1 => ⟨l4 (by omega) k (by rw [h64] at q1; exact q1), k, by rw [h64] at q1; exact q1, rfl⟩) (fun q => by omega) ha c4 hbad
      · have hwv : ∀ F b P t, WV F b P t → vr F b = none := fun F b P t q => (h.1.2.1.2.2.2.2.2.1 F b P t q).1
        have hwc : ∀ D t' P t, WC D t' P t → cv D t' = none := fun D t' P t q => (h.1.2.1.2.2.2.2.2.2.1 D t' P t q).1
        obtain ⟨y1, y2, y3⟩ := aw_en (y := y) (Aw := Aw) (Sl := fun _ _ => False) (NE := fun _ => False) hwv hwc
        refine ⟨S4, En, vr, some (P1, j, (3, a.2.1, P1, j)), _, _, _, R3, nS3, nF3, fb3, fp3, fi3, tf2, tb2, ow3, si3, fo3, lw3, hrun.trans g1, ⟨A', MX_cg (MX_reg i1 (fun b i q1 q2 => g3 b i (by omega)) (g3 38 10 (by omega)) (fun i => g4 66 i (by omega)) g5) (fun P t => ?_) y2 y3, cag_k i2 (fun b i q1 q2 => g3 b i (by omega)) (fun b i q1 q2 => g4 b i (by omega)), g2, i6, i4, ⟨fun P t b q q' => ?_, fun P t m' q => ?_, fun P j' k z z' γ' r' q q' => ?_⟩, MW_iff.mpr ⟨i5, (MW_iff.mp h.2.2.2.2.2.2.2.1).2⟩, fun cnt xr q => ?_, ⟨i7.1, fun F b P t q => i7.2 F b P t q.1⟩⟩, i8, fun P t m' q => ?_, fun P t q => ?_, fun _ q => q, (List.range m).map (fun k => (P1, j, k + 1)), by rw [List.length_map, List.length_range]; exact hm, fun P t m' i q1 q2 => ?_⟩
        · rw [y1 P t]
          exact ⟨fun q => q.elim (fun q => q.1) (fun q => q.1.elim), fun q => .inl ⟨q, id⟩⟩
        · rcases q with q | q
          · obtain ⟨m', u1, u2⟩ := h.2.2.2.2.2.2.1.1 P t b (.inl q) q'
            exact ⟨m', by rw [tb2n _ _ (hold _ _ _ u1)]; exact u1, u2⟩
          · cases q
            exact ⟨m, tb2j, hv⟩
        · by_cases cj : P = P1 ∧ t = j
          · rw [cj.1, cj.2]
            rw [cj.1, cj.2, tb2j] at q
            cases q
            exact ⟨List.mem_cons_self, x, x', γ, r, hz, hr, j2⟩
          · have q2 := q
            rw [tb2n _ _ cj] at q2
            obtain ⟨u1, z, z', γ', r', u2, u3, -⟩ := h.2.2.2.2.2.2.1.2.1 P t m' q2
            exact ⟨List.mem_cons_of_mem _ u1, z, z', γ', r', u2, u3, j1 P t m' q cj⟩
        · have key : (P, j', k + 1) ∈ R ∨ (P, j', k + 1) ∈ H → ∃ m', tb2 P j' = some m' ∧ k < m' := fun q => by
            obtain ⟨m', u1, u2⟩ := h.2.2.2.2.2.2.1.2.2 P j' k z z' γ' r' q q'
            exact ⟨m', by rw [tb2n _ _ (hold _ _ _ u1)]; exact u1, u2⟩
          rcases q with q | q
          · rcases l2 _ q with q | ⟨k', q1, q2⟩
            · exact key (.inl (hsub _ q))
            · have e1 : P = P1 := congrArg (fun u : TEv => u.1) q2
              have e2 : j' = j := congrArg (fun u : TEv => u.2.1) q2
              have e3 : k + 1 = k' + 1 := congrArg (fun u : TEv => u.2.2) q2
              rw [e1, e2]
              exact ⟨m, tb2j, by omega⟩
          · rcases List.mem_cons.mp q with q | q
            · have e3 : k + 1 = 0 := congrArg (fun u : TEv => u.2.2) q
              omega
            · exact key (.inr q)
        · obtain ⟨u1, u2⟩ := h.2.2.2.2.2.2.2.2.1 cnt xr q
          have e3 : S4.1 38 3 = S.1 38 3 := (g3 38 3 (by omega)).trans (k1.trans (hS1.1 38 3 (by omega)))
          have e4 : S4.2.1 38 4 = S.2.1 38 4 := (g4 38 4 (by omega)).trans (k2.trans (by rw [hS1.2]))
          rw [e3, e4]
          exact ⟨u1, fun b q => ⟨(u2 b q).1, ecw2 _ _ b _ q (u2 b q).2⟩⟩
        · by_cases cj : P = P1 ∧ t = j
          · rw [cj.1, cj.2]
            exact ⟨a.2.1, .inr rfl⟩
          · rw [tb2n _ _ cj] at q
            obtain ⟨v, q⟩ := htb P t m' q
            rcases q with q | q
            · exact ⟨v, .inl q⟩
            · cases q
        · rcases l2 _ q with q | ⟨k', q1, q2⟩
          · exact her P t (hsub _ q)
          · have e3 : 0 = k' + 1 := congrArg (fun u : TEv => u.2.2) q2
            omega
        · by_cases cj : P = P1 ∧ t = j
          · rw [cj.1, cj.2, tb2j] at q1
            cases q1
            rw [cj.1, cj.2]
            exact .inr (List.mem_map.mpr ⟨i, List.mem_range.mpr q2, rfl⟩)
          · rw [tb2n _ _ cj] at q1
            exact .inl q1
      · rcases l2 e q with q1 | q1
        · exact .inl ((hRm e).mp q1)
        · exact .inr ⟨q, q1⟩
      · rcases q with q | q
        · exact l3 e ((hRm e).mpr q)
        · exact q.1
end HP6
