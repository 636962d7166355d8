/-! an event happens, in the class: a cell is entered; all events -/
/-- nodes that have events -/
def evK : TR → Bool
  | .tag 4 _ => true
  | .tag 6 _ => true
  | .tag 7 _ => true
  | .tag 8 _ => true
  | .tag 9 _ => true
  | .tag 10 _ => true
  | .tag 11 _ => true
  | _ => false
section HP7
variable {K pl : Nat → Nat} {V : Nat → Int64} {y : TR} {e : Nat} {N M L : Nat → Nat} {n ρ τ : Nat} {G : im_S} {sl tO sO kO crt : Nat → Nat} {f : Nat} {W : Nat → Int32 × Int32 × Int32} {ν : Nat → Nat} {q0 : Nat} {ar : Nat → Int64} {S S1 S' : im_S} {En : TPth → Prop} {cv vr vr' : TPth → Nat → Option TVal} {mv : Option (TPth × Nat × TVal)} {Aw : TPth → Nat → Prop} {WV WC : TPth → Nat → TPth → Nat → Prop} {R R' H : List TEv} {nS nF fu : Nat} {fb : Nat → Nat} {fp : Nat → TPth} {fi : TPth → Nat} {tf : TPth → Nat → Nat} {tb : TPth → Nat → Option Nat} {ow si fo : Nat → Int32} {lw : Nat → Int64} {P0 P1 F : TPth} {j r k : Nat} {γ : List Nat} {ev : TEv} {x x' : TR} {fl : Prop}
set_option maxHeartbeats 8000000 in
theorem fh_cel (hfu : 600000 ≤ fu) (X : XB K pl V y e N M L n ρ τ G sl tO sO kO crt f W ν) (Z : HPz K V y e N L G sl tO sO kO crt q0 ar S S1 En cv vr Aw WV WC R R' H nS nF fb fp fi tf tb ow si fo lw (P1, j, k + 1)) (hz : (.tag 11 (.tag j (.append x x')), γ, r) ∈ scP y) (hr : r = hdR P1) : FHo K V y e N L G sl tO sO kO crt q0 ar (f_X5_enterCell fu (nI (fi ((4 * j, k) :: P1))) (nI (N (j + 3))) S1) En cv H (P1, j, k + 1) tb := by
  obtain ⟨h, hS1, hG1, hRn, hRm, hev, hle, hcv, htb, her⟩ := id Z
  have C := X.1
  have hS := X.2.1
  have hL := X.2.2.1.2.2.2.2.1
  have hE1 : En P1 := (h.1.2.1.2.2.2.1 P1 j (k + 1) (.inl hev)).1
  have hOP1 := h.2.2.2.2.1 P1 hE1
  have hP1 := pk_ne hOP1.1
  have hqa := h.1.2.2.2.2.1 P1 _ hE1 hz hr
  have hnH := rh_no h.1.2.1.2.2.1 hev
  obtain ⟨m, ht, hkm⟩ := h.2.2.2.2.2.2.1.2.2 P1 j k x x' γ r (.inl hev) hz
  obtain ⟨-, -, -, -, -, -, -, hfr⟩ := h.2.2.2.2.2.2.1.2.1 P1 j m ht
  obtain ⟨hF1, hF2⟩ := hfr k hkm
  obtain ⟨v, hv⟩ := htb P1 j m ht
  have hv : cv P1 j = some (3, v, P1, j) := hv.elim id (fun q => by cases q)
  obtain ⟨m', u1, u2⟩ := h.2.2.2.2.2.2.1.1 P1 j _ (.inl hv) rfl
  have u1 : tb P1 j = some m' := u1
  have u2 : v = Int64.ofNat m' := u2
  rw [ht] at u1
  have em : m = m' := Option.some.inj u1
  rw [← em] at u2
  have hif : ifr y (4 * j) := (ifr_nd C.1 hz (k := 0) (by omega)).mpr (.inr rfl)
  have hFk : POk V y ((4 * j, k) :: P1) := pk_nd hOP1.1 hz ⟨rfl, hr.symm⟩
  have hFz : Z0 y ((4 * j, k) :: P1) := z0_cn hOP1.2.1 (.inl hif)
  have hfF : fpt y ((4 * j, k) :: P1) = (4 * j, k) :: P1 := fpt_y hif
  have e44 : 4 * j / 4 = j := by omega
  have hnft : ¬ j ∈ (ftP y).map Prod.fst := fun q => (ft_fu C.1).2.2 j q _ hz rfl
  have hnlp : ¬ j ∈ lpP y := lp_no C.1 hz rfl
  have hjtb : j ∈ tbP y := List.mem_map.mpr ⟨_, List.mem_filter.mpr ⟨hz, rfl⟩, rfl⟩
  have n0 : ¬ En ((4 * j, k) :: P1) := fun q => hnH (hqa.2.2.2.2.1 k q).1
  have hOPF : OP V y nF fp fi ((4 * j, k) :: P1) := ⟨hFk, hFz, by rw [hfF]; exact hF1, by rw [hfF]; exact hF2⟩
  obtain ⟨⟨p', e', wz⟩, -, htr⟩ := (tl_P C.1) _ hz
  obtain ⟨hjp, -, -, bb, w1, w2⟩ := wz
  have hjp : j = p' := hjp
  have hb1 := Wt_lt w1
  obtain ⟨f1, f2, f3, f4, f5, f6, f7, f8, f9, f10, f11, f12, f13, f14, f15, f16, f17⟩ := cn_P C _ hz
  have hA1 := rm_ca hS1 h.2.2.1
  have hX1 := rm_mx hS1 h.2.1
  have hNj : N j < 500 := (tk_sl C hS (op_tk C hS hOP1 hz hr rfl).1).2.1
  have hje : j < e := (nd_P C hz rfl).2.2.2
  have hM := M_512 C (k := 1) hje f9
  have hl := x_len hX1
  have hQ0 : fi ((4 * j, k) :: P1) ≠ 0 := fun q => by
    have := hF2
    rw [q, h.2.2.2.2.2.1.2.1] at this
    exact hP1 (List.cons.inj this).2.symm
  obtain ⟨how, hsi⟩ : ow (fi ((4 * j, k) :: P1)) = nI (fi (fpt y P1)) ∧ si (fi ((4 * j, k) :: P1)) = nI (tf P1 j + k) := by
    obtain ⟨d, D, o1, o2, o3, o4, o5, o6, o7, -⟩ := h.2.2.2.2.2.1.2.2.2 _ hF1 hQ0
    rw [hF2] at o1
    have e1 : (4 * j, k) = d := (List.cons.inj o1).1
    have e2 : P1 = D := (List.cons.inj o1).2
    have e3 : d.1 / 4 = j := by
      rw [← e1]
      exact e44
    obtain ⟨m2, -, -, o7⟩ := o7 (by rw [e3]; exact hjtb)
    rw [e3, ← e2, ← e1] at o7
    rw [← e2] at o4
    exact ⟨o4, o7⟩
  have e69 : S1.1 69 (fi ((4 * j, k) :: P1)) = nI (fi (fpt y P1)) := (x_frd hX1 hF1).2.1.trans how
  have e70 : S1.1 70 (fi ((4 * j, k) :: P1)) = nI (tf P1 j + k) := (x_frd hX1 hF1).2.2.1.trans hsi
  obtain ⟨r1, r2, r3⟩ := x_rn C hS hX1 hOP1 hz hr rfl
  have r1 : fb (fi (fpt y P1)) + sO (N j) < nS := r1
  have r2 : SlC S1 tf (fb (fi (fpt y P1)) + sO (N j)) (cv P1 j) := r2
  rw [hv] at r2
  obtain ⟨m2, g20, gv, gw⟩ := r2.2.2.1 rfl
  have gv : v = Int64.ofNat m2 := gv
  have gw : S1.2.1 66 (fb (fi (fpt y P1)) + sO (N j)) = Int64.ofNat (tf P1 j * 32 + m2) := gw
  have hrt := x_rt hX1 ht
  have hkj := (op_tk C hS hOP1 hz hr rfl).1
  have hkj : TkF N L e tO (fp (fi (fpt y P1))) j := hkj
  have hslj := x_slot C hS hA1 hX1 hOP1.2.2.1 hkj
  have hvt3 : VT V y ((4 * j, k) :: P1) (j + 3) := .inr (.inr (.inr ⟨j, x, x', γ, r, hz, .inl rfl, rfl⟩))
  have hvt1 : VT V y ((4 * j, k) :: P1) (j + 1) := .inr (.inr (.inr ⟨j, x, x', γ, r, hz, .inr rfl, rfl⟩))
  have hk3 := (tk_v C hS hL hvt3 hFk hif).1
  have hk1 := (tk_v C hS hL hvt1 hFk hif).1
  have hN3 := (tk_sl C hS hk3).2.1
  have hN1 := (tk_sl C hS hk1).2.1
  have hsl3 := x_slot C hS hA1 hX1 hF1 (t := j + 3) (by rw [hF2]; exact hk3)
  have v3 : vr ((4 * j, k) :: P1) (j + 3) = none := by
    cases hc : vr ((4 * j, k) :: P1) (j + 3) with
    | none => rfl
    | some b => exact absurd (hqa.2.2.2.2.2.1 k b hc).1 n0
  have v1 : vr ((4 * j, k) :: P1) (j + 1) = none := by
    cases hc : vr ((4 * j, k) :: P1) (j + 1) with
    | none => rfl
    | some b => exact absurd (hqa.2.2.2.2.2.2 k b hc).1 n0
  obtain ⟨S2, g1, g2, g3⟩ := x_setv (a := mkN (Int64.ofNat k)) (w := Int64.ofNat k) (vr' := fun F b => if F = (4 * j, k) :: P1 ∧ b = j + 3 then some (mkN (Int64.ofNat k)) else vr F b) hfu C hS hL hX1 hF1 (b0 := j + 3) (by rw [hF2]; exact hvt3) (by rw [hF2]; exact v3) ⟨Nat.le_refl _, by show 1 ≤ 4; omega⟩ (ecw_n (v := mkN (Int64.ofNat k)) (show ¬ 1 = 3 by decide)) (fun q => absurd q (show ¬ 1 = 3 by decide)) (fun F b => by rw [hF2])
  rw [hF2] at g2
  have hA2 := cag_mk hA1 g3
  have hsl1 := x_slot C hS hA2 g2 hF1 (t := j + 1) (by rw [hF2]; exact hk1)
  obtain ⟨S3, k1, k2, k3⟩ := x_setv (a := (3, v, P1, j)) (w := Int64.ofNat (tf P1 j * 32 + m2)) (vr' := fun F b => if F = (4 * j, k) :: P1 ∧ b = j + 1 then some (3, v, P1, j) else (if F = (4 * j, k) :: P1 ∧ b = j + 3 then some (mkN (Int64.ofNat k)) else vr F b)) hfu C hS hL g2 hF1 (b0 := j + 1) (by rw [hF2]; exact hvt1) (by rw [hF2]; show (if (4 * j, k) :: P1 = (4 * j, k) :: P1 ∧ j + 1 = j + 3 then some (mkN (Int64.ofNat k)) else vr ((4 * j, k) :: P1) (j + 1)) = none; rw [if_neg (fun q => by have := q.2; omega)]; exact v1) ⟨by show 1 ≤ 3; omega, by show 3 ≤ 4; omega⟩ ⟨fun _ => ⟨m2, g20, gv, rfl⟩, fun q => absurd rfl q⟩ (fun _ => ⟨m, ht, u2⟩) (fun F b => by rw [hF2])
  rw [hF2] at k2
  obtain ⟨vr2, hvr2⟩ : ∃ vr2 : TPth → Nat → Option TVal, vr2 = fun F b => if F = (4 * j, k) :: P1 ∧ b = j + 1 then some (3, v, P1, j) else (if F = (4 * j, k) :: P1 ∧ b = j + 3 then some (mkN (Int64.ofNat k)) else vr F b) := ⟨_, rfl⟩
  rw [← hvr2] at k2
  have hA3 := cag_mk hA2 k3
  have hAwF : ∀ t, ¬ AwW Aw WV WC ((4 * j, k) :: P1) t := fun t q => n0 (h.1.2.1.2.2.2.2.1 _ t q).1
  obtain ⟨S4, m1, m2', m3⟩ := h_ent (fu := fu) (by omega) X hA3 k2 hOPF (fun t q => by
    refine hAwF t ?_
    rcases q with (q | q) | ⟨F, b, q⟩ | ⟨D, t', q⟩
    · rcases q with q | q
      · exact .inl q
      · exact .inr (.inl ⟨_, _, q⟩)
    · exact .inr (.inl ⟨_, _, q.1⟩)
    · exact .inr (.inl ⟨F, b, q.1.1⟩)
    · exact .inr (.inr ⟨D, t', q⟩)) (R0 := M j) (by omega) (fun t => lv_rg C.1 hz (r1 := 4 * j) (γ1 := (j + 3) :: (j + 1) :: γ) ⟨rfl, rfl⟩ w2 (by omega) (fun z q => htr z (mc _ (mr _ q))) t) (lv_nd w2).1 f17
  rw [hfF] at m1
  have hk4 := MK_t g3 (MK_t k3 m3)
  have hsub : nI (tf P1 j + k) - nI (tf P1 j) = nI k := by
    rw [nI_sub (by omega)]
    congr 1
    omega
  have hrun : f_X5_enterCell fu (nI (fi ((4 * j, k) :: P1))) (nI (N (j + 3))) S1 = some ((), S4) := by
    unfold f_X5_enterCell
    rw [mI_in (a := N (j + 3)) (n := 512) (by omega) (by omega), nI_clamp (show N (j + 3) < 2 ^ 31 by omega), (hA1 10 (N (j + 3)) (by omega) (by omega)).1.trans f8, nI_clamp (show fi ((4 * j, k) :: P1) < 2 ^ 31 by omega), mI_in (a := fi ((4 * j, k) :: P1)) (n := S1.2.2 69) (by omega) (by omega), e69, hslj, mI_in (a := N j) (n := 512) (by omega) (by omega), nI_clamp (show N j < 2 ^ 31 by omega)]
    simp only [gd_t, Option.bind_some]
    rw [mI_in (a := fb (fi (fpt y P1)) + sO (N j)) (n := S1.2.2 66) (by omega) (by omega), nI_clamp (show fb (fi (fpt y P1)) + sO (N j) < 2 ^ 31 by omega), mI_in (a := fi ((4 * j, k) :: P1)) (n := S1.2.2 70) (by omega) (by omega), gw, e70]
    unfold f_X8_firstCell
    simp only [gd_t, Option.bind_some]
    rw [tb_f (by omega) (by omega), hsl3]
    simp only [Option.bind_some]
    rw [hsub, nI64 (show k < 2 ^ 31 by omega), show (1 : Int32) = nI (mkN (Int64.ofNat k)).1 from rfl, g1]
    simp only [Option.bind_some]
    rw [(hA2 13 (N j) (by omega) (by omega)).1.trans f4, hsl1]
    simp only [Option.bind_some]
    have k1 : f_X5_settle fu (nI (fb (fi ((4 * j, k) :: P1)) + sO (N (j + 1)))) 3 (Int64.ofNat (tf P1 j * 32 + m2)) S2 = some ((), S3) := k1
    rw [k1]
    simp only [Option.bind_some]
    rw [(hA3 15 (N j) (by omega) (by omega)).1.trans f11, m1]
    rfl
  have hv2 : ∀ F b u, vr2 F b = some u ↔ vr F b = some u ∨ (F = (4 * j, k) :: P1 ∧ ((b = j + 3 ∧ u = mkN (Int64.ofNat k)) ∨ (b = j + 1 ∧ u = (3, v, P1, j)))) := fun F b u => by
    rw [hvr2]
    show (if F = (4 * j, k) :: P1 ∧ b = j + 1 then some (3, v, P1, j) else (if F = (4 * j, k) :: P1 ∧ b = j + 3 then some (mkN (Int64.ofNat k)) else vr F b)) = some u ↔ _
    by_cases c1 : F = (4 * j, k) :: P1 ∧ b = j + 1
    · rw [if_pos c1]
      refine ⟨fun q => .inr ⟨c1.1, .inr ⟨c1.2, (Option.some.inj q).symm⟩⟩, fun q => ?_⟩
      rcases q with q | ⟨-, q | q⟩
      · rw [c1.1, c1.2, v1] at q
        cases q
      · have := c1.2
        have := q.1
        omega
      · rw [q.2]
    · rw [if_neg c1]
      by_cases c3 : F = (4 * j, k) :: P1 ∧ b = j + 3
      · rw [if_pos c3]
        refine ⟨fun q => .inr ⟨c3.1, .inl ⟨c3.2, (Option.some.inj q).symm⟩⟩, fun q => ?_⟩
        rcases q with q | ⟨-, q | q⟩
        · rw [c3.1, c3.2, v3] at q
          cases q
        · rw [q.2]
        · exact absurd ⟨c3.1, q.1⟩ c1
      · rw [if_neg c3]
        refine ⟨.inl, fun q => ?_⟩
        rcases q with q | ⟨q1, q | q⟩
        · exact q
        · exact absurd ⟨q1, q.1⟩ c3
        · exact absurd ⟨q1, q.1⟩ c1
  have hwv : ∀ F b P t, WV F b P t → vr F b = none := fun F b P t q => (h.1.2.1.2.2.2.2.2.1 F b P t q).1
  have hwc : ∀ D t' P t, WC D t' P t → cv D t' = none := fun D t' P t q => (h.1.2.1.2.2.2.2.2.2.1 D t' P t q).1
  have hnn : ∀ F b P t, WV F b P t → (vr2 F b = none ↔ ¬ (F = (4 * j, k) :: P1 ∧ b = j + 3) ∧ ¬ (F = (4 * j, k) :: P1 ∧ b = j + 1)) := fun F b P t q => by
    have q0 := hwv F b P t q
    refine ⟨fun q1 => ⟨fun q2 => ?_, fun q2 => ?_⟩, fun q1 => ?_⟩
    · rw [(hv2 F b (mkN (Int64.ofNat k))).mpr (.inr ⟨q2.1, .inl ⟨q2.2, rfl⟩⟩)] at q1
      cases q1
    · rw [(hv2 F b (3, v, P1, j)).mpr (.inr ⟨q2.1, .inr ⟨q2.2, rfl⟩⟩)] at q1
      cases q1
    · cases hc : vr2 F b with
      | none => rfl
      | some u =>
        rcases (hv2 F b u).mp hc with q2 | ⟨q2, q3 | q3⟩
        · rw [q0] at q2
          cases q2
        · exact absurd ⟨q2, q3.1⟩ q1.1
        · exact absurd ⟨q2, q3.1⟩ q1.2
  refine ⟨S4, _, vr2, none, _, _, _, R', nS, nF, fb, fp, fi, tf, tb, ow, si, fo, lw, hrun, MI_hn h hev (fun e q => ((hRm e).mp q).1) (fun q => by omega) hOPF (H_cel X.2.2.1 h.1 hz hr hev hRn hRm hv hv2) (MX_cg m2' (fun P t => ⟨fun q => ?_, fun q => ?_⟩) (fun F b P t => ⟨fun q => ?_, fun q => ?_⟩) (fun D P t => ⟨fun ⟨t', q⟩ => ⟨t', q.elim (fun q => q.1) False.elim⟩, fun ⟨t', q⟩ => ⟨t', .inl ⟨q, hwc D t' P t q⟩⟩⟩)) (cag_mk hA3 m3) (mg_mk hG1 hk4) ((hk4.1 38 3 (by omega) (by omega)).trans (hS1.1 38 3 (by omega))) ((hk4.2.1 38 4 (by omega)).trans (by rw [hS1.2])) (fun d D q1 q2 => ?_) (fun P z d q1 q2 q3 q4 => ?_) (fun P j' fs' c' ns' g' γ' r' i q1 q2 => ?_) (fun F b u q => ?_), hcv, htb, fun P t q => her P t ((hRm _).mp q).1, fun _ q => .inl q, [], Nat.zero_le _, fun P t m i q _ => .inl q⟩
  · rcases q with q | ⟨F, b, q1, q2⟩ | ⟨D, t', q1, q2⟩ | q
    · exact .inl (.inl (.inl q.1))
    · by_cases c3 : F = (4 * j, k) :: P1 ∧ b = j + 3
      · rw [c3.1, c3.2] at q1
        exact .inl (.inl (.inr q1))
      · by_cases c1 : F = (4 * j, k) :: P1 ∧ b = j + 1
        · rw [c1.1, c1.2] at q1
          exact .inl (.inr ⟨q1, fun q => by have := q.2; omega⟩)
        · exact absurd ((hnn F b P t q1).mpr ⟨c3, c1⟩) q2
    · exact absurd (hwc D t' P t q1) q2
    · exact .inr q
  · rcases q with ((q | q) | q) | q
    · exact .inl ⟨q, id⟩
    · exact .inr (.inl ⟨_, _, q, fun q' => ((hnn _ _ P t q).mp q').1 ⟨rfl, rfl⟩⟩)
    · exact .inr (.inl ⟨_, _, q.1, fun q' => ((hnn _ _ P t q.1).mp q').2 ⟨rfl, rfl⟩⟩)
    · exact .inr (.inr (.inr q))
  · obtain ⟨u1, u2⟩ := (hnn F b P t q.1).mp q.2
    exact ⟨⟨q.1, u1⟩, u2⟩
  · exact ⟨q.1.1, (hnn F b P t q.1.1).mpr ⟨q.1.2, q.2⟩⟩
  · have : d.1 = 4 * j := congrArg Prod.fst (List.cons.inj q2).1
    rw [this, e44] at q1
    exact hnlp q1
  · have e1 : d = (4 * j, k) := (List.cons.inj q4).1
    have e2 : d.1 / 4 = j := by rw [e1]; exact e44
    rcases tg_no (w := C.1) q1 q3 with q5 | q5
    · rw [e2] at q5
      exact hnft q5
    · rw [e2] at q5
      exact hnlp q5.1
  · have e1 : 4 * j' + 1 = 4 * j := congrArg Prod.fst (List.cons.inj q2).1
    omega
  · rcases (hv2 F b u).mp q with q | q
    · exact h.2.2.2.2.2.2.2.2.2.1 F b u q
    · rw [q.1]
      exact ⟨hF1, hF2⟩
/-- which numbers events have -/
theorem ev_0 (w : PW K y 0 e) (A : AB K V y q0 ar En cv vr mv Aw WV WC R H fl) {P : TPth} {t i : Nat} (hv : (P, t, i) ∈ R) : ∃ z, z ∈ scP y ∧ otk z.1 = t ∧ evK z.1 = true ∧ (i = 0 ∨ t ∈ lpP y ∨ t ∈ tbP y) := by
  refine (A.2.2.1 (fun _ => True) (fun _ _ _ => True) (fun ev => ∃ z, z ∈ scP y ∧ otk z.1 = ev.2.1 ∧ evK z.1 = true ∧ (ev.2.2 = 0 ∨ ev.2.1 ∈ lpP y ∨ ev.2.1 ∈ tbP y)) ⟨trivial, fun r i Q z _ hz hr => ?_⟩).2.2 (P, t, i) (.inl hv)
  have hs := ((tl_P w) z hz).2.1
  have hl := lp_in hz
  have htb : tbK z.1 = true → otk z.1 ∈ tbP y := fun q => List.mem_map.mpr ⟨_, List.mem_filter.mpr ⟨hz, q⟩, rfl⟩
  obtain ⟨x, γ, r'⟩ := z
  have hs : shp x := hs
  rcases hs with ⟨j, rfl⟩ | ⟨j, rfl⟩ | ⟨j, rfl⟩ | ⟨j, as, rfl⟩ | ⟨j, a, b, rfl⟩ | ⟨j, a, b, d, rfl⟩ | ⟨j, fs, d, ns, g, rfl⟩ | ⟨j, a, rfl⟩ | ⟨j, a, b, rfl⟩ | ⟨j, a, b, rfl⟩ | ⟨j, a, b, rfl⟩ | ⟨j, a, rfl⟩
  · exact trivial
  · exact trivial
  · exact fun _ _ _ _ _ _ => trivial
  · exact fun _ _ _ _ _ _ => ⟨⟨_, hz, rfl, rfl, .inl rfl⟩, trivial, fun _ _ => trivial⟩
  · exact fun _ _ => trivial
  · exact fun _ _ => ⟨⟨_, hz, rfl, rfl, .inl rfl⟩, fun _ => trivial, fun _ _ => ⟨trivial, fun _ _ => trivial⟩, fun _ _ => ⟨trivial, fun _ _ => trivial⟩⟩
  · exact ⟨trivial, fun _ _ _ _ => ⟨⟨_, hz, rfl, rfl, .inr (.inl (hl rfl))⟩, fun _ => trivial, fun _ _ => ⟨trivial, trivial⟩, fun _ _ => ⟨trivial, fun _ _ => trivial⟩⟩⟩
  · exact fun _ _ => ⟨⟨_, hz, rfl, rfl, .inl rfl⟩, trivial⟩
  · exact fun _ _ _ _ => ⟨⟨_, hz, rfl, rfl, .inl rfl⟩, trivial⟩
  · exact fun _ _ _ _ => ⟨fun _ _ => ⟨⟨_, hz, rfl, rfl, .inl rfl⟩, trivial⟩, fun _ _ => ⟨⟨_, hz, rfl, rfl, .inl rfl⟩, trivial⟩, fun _ _ _ _ _ _ _ _ _ => ⟨⟨_, hz, rfl, rfl, .inl rfl⟩, trivial⟩⟩
  · exact fun _ _ => ⟨⟨_, hz, rfl, rfl, .inl rfl⟩, fun _ => trivial, fun _ _ => trivial, fun _ _ => ⟨trivial, fun _ _ => ⟨⟨_, hz, rfl, rfl, .inr (.inr (htb rfl))⟩, trivial⟩⟩⟩
  · exact fun _ _ => trivial
set_option maxHeartbeats 4000000 in
/-- AN EVENT HAPPENS IN THE CLASS -/
theorem F_happen (hfu : 600000 ≤ fu) (X : XB K pl V y e N M L n ρ τ G sl tO sO kO crt f W ν) (h20 : nlP y ≤ 20) (hq0 : q0 ∈ (ftP y).map Prod.fst) (h8 : (fuP y).length ≤ 8) (h : MI K V y e N L G sl tO sO kO crt q0 ar S En cv vr none Aw WV WC R H nS nF fb fp fi tf tb ow si fo lw) (hcv : CVS L sl nS nF fb fp tf tb) (htb : TBv cv none tb) (her : ERd y cv R) (hle : R.length + H.length ≤ 1000) (hk : R[k]? = some ev) : FHo K V y e N L G sl tO sO kO crt q0 ar (f_X5_happen fu (nI k) S) En cv H ev tb := by
  have C := X.1
  have hS := X.2.1
  have hL := X.2.2.1.2.2.2.2.1
  have hev := List.mem_of_getElem? hk
  have hnd : R.Nodup := (List.nodup_append.mp h.1.2.1.2.2.1).1
  obtain ⟨R', r1, r2, r3, r4, r5⟩ := g_rmv h.2.2.2.1 hk hnd
  have hkl : k < R.length := by
    rcases Nat.lt_or_ge k R.length with q | q
    · exact q
    · rw [List.getElem?_eq_none q] at hk
      cases hk
  obtain ⟨-, -, h8r, -, h39⟩ := h.2.2.2.1
  have hcode := h39 k ev hk
  obtain ⟨S1, hS1⟩ : ∃ S1, S1 = uI (uI S 38 8 (nI (R.length - 1))) 39 k (S.1 39 (R.length - 1)) := ⟨_, rfl⟩
  rw [← hS1] at r4 r5
  obtain ⟨P1, j, i⟩ := ev
  have Z : HPz K V y e N L G sl tO sO kO crt q0 ar S S1 En cv vr Aw WV WC R R' H nS nF fb fp fi tf tb ow si fo lw (P1, j, i) := ⟨h, r5, r4, r2, r3, hev, hle, hcv, htb, her⟩
  obtain ⟨hE, z, z1, z2, z3, z4⟩ := h.1.2.1.2.2.2.1 P1 j i (.inl hev)
  have hOP := h.2.2.2.2.1 P1 hE
  have hl := x_len h.2.1
  have hf1 := hOP.2.2.1
  have h7 := (nd_P C z1 (z4.trans z3.symm)).2.1
  have hkd := (op_tk C hS hOP z1 z2 (z4.trans z3.symm)).1
  rw [z3] at hkd h7
  have hN := (tk_sl C hS hkd).2.1
  have e41 : S.1 41 (N j) = nI (kdN z.1) := (h.2.2.1 7 (N j) (by omega) (by omega)).1.trans h7
  have hs := ((tl_P C.1) z z1).2.1
  obtain ⟨z', q1, q2, q3, q4⟩ := ev_0 C.1 h.1 hev
  have hzz := (ou_P C.1).2 z' q1 z z1 (q2.trans z3.symm)
  rw [hzz] at q3
  have hpl : lpK z.1 = false → (tbK z.1 = false ∨ i = 0) → f_X5_happen fu (nI k) S = hpD fu (nI (kdN z.1)) (nI (fi (fpt y P1))) (nI (N j)) S1 := fun q1 q2 => by
    have := evc_nd (N := N) (fi := fi) (P := P1) (i := i) C.1 z1 q1 q2
    rw [z3] at this
    rw [this] at hcode
    rw [hap_D h8r hkl (by omega) hcode (by omega) (by omega), e41, hS1]
  have hlpp : lpK z.1 = true → fi ((4 * j, i) :: P1) < nF → f_X5_happen fu (nI k) S = hpD fu (nI (kdN z.1)) (nI (fi ((4 * j, i) :: P1))) (nI (N j)) S1 := fun q1 q2 => by
    have := evc_lp (N := N) (fi := fi) (P := P1) (i := i) z1 q1
    rw [z3] at this
    rw [this] at hcode
    rw [hap_D h8r hkl (by omega) hcode (by omega) (by omega), e41, hS1]
  have h00 : lpK z.1 = false → tbK z.1 = false → i = 0 := fun u1 u2 => by
    rcases q4 with q | q | q
    · exact q
    · rw [← z3] at q
      exact absurd q (lp_no C.1 z1 u1)
    · rw [← z3] at q
      exact absurd q (tb_no C.1 z1 u2)
  have hqa := h.1.2.2.2.2.1 P1 z hE z1 z2
  obtain ⟨kk, hkk⟩ : ∃ kk, kk = kdN z.1 := ⟨_, rfl⟩
  rw [← hkk] at hpl hlpp
  obtain ⟨x, γ, r⟩ := z
  have hs : shp x := hs
  rcases hs with ⟨j0, rfl⟩ | ⟨j0, rfl⟩ | ⟨j0, rfl⟩ | ⟨j0, as, rfl⟩ | ⟨j0, a, b, rfl⟩ | ⟨j0, a, b, d, rfl⟩ | ⟨j0, fs, d, ns, g, rfl⟩ | ⟨j0, a, rfl⟩ | ⟨j0, a, b, rfl⟩ | ⟨j0, a, b, rfl⟩ | ⟨j0, a, b, rfl⟩ | ⟨j0, a, rfl⟩
  · cases q3
  · cases q3
  · cases q3
  · have z3 : j0 = j := z3
    subst z3
    have hi : i = 0 := h00 rfl rfl
    subst hi
    rw [hpl rfl (.inl rfl), show kk = 8 from hkk]
    unfold hpD
    rw [if_neg (show ¬ nI 8 = (4 : Int32) by decide), if_neg (show ¬ nI 8 = (5 : Int32) by decide), if_neg (show ¬ nI 8 = (6 : Int32) by decide), if_neg (show ¬ nI 8 = (7 : Int32) by decide), if_pos (show nI 8 = (8 : Int32) from rfl), bd_u]
    exact fh_call hfu X h20 hq0 h8 Z z1 z2
  · cases q3
  · have z3 : j0 = j := z3
    subst z3
    have hi : i = 0 := h00 rfl rfl
    subst hi
    rw [hpl rfl (.inl rfl), show kk = 7 from hkk]
    unfold hpD
    rw [if_neg (show ¬ nI 7 = (4 : Int32) by decide), if_neg (show ¬ nI 7 = (5 : Int32) by decide), if_neg (show ¬ nI 7 = (6 : Int32) by decide), if_pos (show nI 7 = (7 : Int32) from rfl), bd_u]
    exact fh_if (by omega) X Z z1 z2
  · have z3 : j0 = j := z3
    subst z3
    obtain ⟨hEQ, -⟩ := hqa.2.1 i (.inl hev)
    have hOQ := h.2.2.2.2.1 _ hEQ
    have hif : ifr y (4 * j0) := (ifr_nd C.1 z1 (k := 0) (by omega)).mpr (.inl ⟨rfl, rfl⟩)
    have hfQ : fpt y ((4 * j0, i) :: P1) = (4 * j0, i) :: P1 := fpt_y hif
    have hq := hOQ.2.2.1
    rw [hfQ] at hq
    rw [hlpp rfl hq, show kk = 9 from hkk]
    unfold hpD
    rw [if_neg (show ¬ nI 9 = (4 : Int32) by decide), if_neg (show ¬ nI 9 = (5 : Int32) by decide), if_neg (show ¬ nI 9 = (6 : Int32) by decide), if_neg (show ¬ nI 9 = (7 : Int32) by decide), if_neg (show ¬ nI 9 = (8 : Int32) by decide), if_pos (show nI 9 = (9 : Int32) from rfl), bd_u]
    exact fh_lp hfu X h20 hq0 Z z1 z2
  · have z3 : j0 = j := z3
    subst z3
    have hi : i = 0 := h00 rfl rfl
    subst hi
    rw [hpl rfl (.inl rfl), show kk = 4 from hkk]
    unfold hpD
    rw [if_pos (show nI 4 = (4 : Int32) from rfl), bd_u]
    exact fh_sig X Z z1 z2
  · have z3 : j0 = j := z3
    subst z3
    have hi : i = 0 := h00 rfl rfl
    subst hi
    rw [hpl rfl (.inl rfl), show kk = 5 from hkk]
    unfold hpD
    rw [if_neg (show ¬ nI 5 = (4 : Int32) by decide), if_pos (show nI 5 = (5 : Int32) from rfl), bd_u]
    exact fh_bin X Z z1 z2
  · have z3 : j0 = j := z3
    subst z3
    have hi : i = 0 := h00 rfl rfl
    subst hi
    rw [hpl rfl (.inl rfl), show kk = 6 from hkk]
    unfold hpD
    rw [if_neg (show ¬ nI 6 = (4 : Int32) by decide), if_neg (show ¬ nI 6 = (5 : Int32) by decide), if_pos (show nI 6 = (6 : Int32) from rfl), bd_u]
    exact fh_pick X Z z1 z2
  · have z3 : j0 = j := z3
    subst z3
    cases i with
    | zero =>
      rw [hpl rfl (.inr rfl), show kk = 10 from hkk]
      unfold hpD
      rw [if_neg (show ¬ nI 10 = (4 : Int32) by decide), if_neg (show ¬ nI 10 = (5 : Int32) by decide), if_neg (show ¬ nI 10 = (6 : Int32) by decide), if_neg (show ¬ nI 10 = (7 : Int32) by decide), if_neg (show ¬ nI 10 = (8 : Int32) by decide), if_neg (show ¬ nI 10 = (9 : Int32) by decide), if_pos (show nI 10 = (10 : Int32) from rfl), bd_u]
      exact fh_tb hfu X h20 hq0 Z z1 z2
    | succ i =>
      obtain ⟨m, ht, him⟩ := h.2.2.2.2.2.2.1.2.2 P1 j0 i a b γ r (.inl hev) z1
      obtain ⟨-, -, -, -, -, -, -, hfr⟩ := h.2.2.2.2.2.2.1.2.1 P1 j0 m ht
      obtain ⟨hF1, hF2⟩ := hfr i him
      obtain ⟨f1, f2, f3, f4, f5, f6, -⟩ := cn_P C _ z1
      have hif : ifr y (4 * j0) := (ifr_nd C.1 z1 (k := 0) (by omega)).mpr (.inr rfl)
      have hFk : POk V y ((4 * j0, i) :: P1) := pk_nd hOP.1 z1 ⟨rfl, z2.symm⟩
      have hvt : VT V y ((4 * j0, i) :: P1) (j0 + 3) := .inr (.inr (.inr ⟨j0, a, b, γ, r, z1, .inl rfl, rfl⟩))
      have hN3 := (tk_sl C hS (tk_v C hS hL hvt hFk hif).1).2.1
      have e3 : S.1 41 (N (j0 + 3)) = 3 := (h.2.2.1 7 (N (j0 + 3)) (by omega) (by omega)).1.trans f6.2.1
      have hcl := evc_cl (N := N) (fi := fi) C.1 z1 rfl rfl (P := P1) (i := i)
      have hcl : evc y N fi (P1, j0, i + 1) = fi ((4 * j0, i) :: P1) * 512 + N (j0 + 3) := hcl
      rw [hcl] at hcode
      rw [hap_D h8r hkl (by omega) hcode (by omega) (by omega), e3, ← hS1]
      unfold hpD
      rw [if_neg (show ¬ (3 : Int32) = (4 : Int32) by decide), if_neg (show ¬ (3 : Int32) = (5 : Int32) by decide), if_neg (show ¬ (3 : Int32) = (6 : Int32) by decide), if_neg (show ¬ (3 : Int32) = (7 : Int32) by decide), if_neg (show ¬ (3 : Int32) = (8 : Int32) by decide), if_neg (show ¬ (3 : Int32) = (9 : Int32) by decide), if_neg (show ¬ (3 : Int32) = (10 : Int32) by decide), bd_u]
      exact fh_cel hfu X Z z1 z2
  · cases q3
end HP7
