/-! an event happens, in the class: a branch is entered, a loop's last part -/
section HP2
variable {K pl : Nat → Nat} {V : Nat → Int64} {y : TR} {e : Nat} {N M L : Nat → Nat} {n ρ τ : Nat} {G : im_S} {sl tO sO kO crt : Nat → Nat} {f : Nat} {W : Nat → Int32 × Int32 × Int32} {ν : Nat → Nat} {q0 : Nat} {ar : Nat → Int64} {S S1 S' : im_S} {En : TPth → Prop} {cv vr vr' : TPth → Nat → Option TVal} {Aw : TPth → Nat → Prop} {WV WC : TPth → Nat → TPth → Nat → Prop} {R R' H : List TEv} {nS nF fu : Nat} {fb : Nat → Nat} {fp : Nat → TPth} {fi : TPth → Nat} {tf : TPth → Nat → Nat} {tb : TPth → Nat → Option Nat} {ow si fo : Nat → Int32} {lw : Nat → Int64} {P1 NP : TPth} {j r i : Nat} {γ : List Nat} {ev : TEv} {x x' x'' fs c ns g : TR}
/-- the leaves of a path that is entered -/
theorem h_ent {cc : TPth → Option TVal} {Aw2 : TPth → Nat → Prop} {WV2 : TPth → Nat → TPth → Nat → Prop} {WC2 : TPth → TPth → Nat → Prop} (hfu : 1000 ≤ fu) (X : XB K pl V y e N M L n ρ τ G sl tO sO kO crt f W ν) (hA : CAg G S) (hX : MX V y e N L sl tO sO kO S nS nF fb fp fi tf tb ow si fo lw cv vr cc Aw2 WV2 WC2) (hOP : OP V y nF fp fi NP) (hno : ∀ t, ¬ (Aw2 NP t ∨ (∃ F b, WV2 F b NP t) ∨ ∃ D, WC2 D NP t)) {R0 : Nat} {x1 : TR} (hR : R0 < 512) (hlv : ∀ t, t ∈ lvs x1 ↔ ∃ z, z ∈ scP y ∧ z.2.2 = hdR NP ∧ otk z.1 = t ∧ lfK z.1 = true) (hnd : (lvs x1).Nodup) (hs : Seg G N (G.1 26 R0) (lvs x1) (-1)) : ∃ S' : im_S, f_X5_enter fu (nI (fi (fpt y NP))) (nI R0) S = some ((), S') ∧ MX V y e N L sl tO sO kO S' nS nF fb fp fi tf tb ow si fo lw cv vr cc (fun P t => Aw2 P t ∨ (P = NP ∧ ∃ z, NdA y P t z ∧ lfK z.1 = true)) WV2 WC2 ∧ MK S S' := by
  have C := X.1
  have hlz : ∀ t, t ∈ lvs x1 → ∃ z, NdA y NP t z ∧ lfK z.1 = true := fun t q => by
    obtain ⟨z, u1, u2, u3, u4⟩ := (hlv t).mp q
    exact ⟨z, ⟨u1, u2, u3, (lf_rt ((tl_P C.1) z u1).2.1 u4).trans u3⟩, u4⟩
  obtain ⟨S', m1, m2, m3⟩ := x_enter (fu := fu) (R := R0) (l := lvs x1) hfu C X.2.1 hOP hR (lv_le C X.2.1 hOP.1 hnd (fun t q => by obtain ⟨z, q1, -⟩ := hlz t q; exact ⟨z, q1⟩)) hA hX (fun t q => by obtain ⟨z, q1, -⟩ := hlz t q; exact ⟨z, q1⟩) hnd (fun t _ q => hno t q) hs
  refine ⟨S', m1, MX_cg m2 (fun P t => ⟨fun q => q.imp id (fun ⟨q1, z, q2, q3⟩ => ⟨q1, ?_⟩), fun q => q.imp id (fun ⟨q1, q2⟩ => ⟨q1, ?_⟩)⟩) (fun _ _ _ _ => Iff.rfl) (fun _ _ _ => Iff.rfl), m3⟩
  · rw [q1] at q2
    exact (hlv t).mpr ⟨z, q2.1, q2.2.1, q2.2.2.1, q3⟩
  · rw [q1]
    exact hlz t q2
/-- a path is entered whose frame is there -/
theorem MI_hn (h : MI K V y e N L G sl tO sO kO crt q0 ar S En cv vr none Aw WV WC R H nS nF fb fp fi tf tb ow si fo lw) (hev : ev ∈ R) (hRm : ∀ e, e ∈ R' → e ∈ R) (hfl : 1001 ≤ R.length → 1001 ≤ R'.length) (hOP : OP V y nF fp fi NP)
    (A' : AB K V y q0 ar (fun P => En P ∨ P = NP) cv vr' none (AwN y Aw (fun _ _ => False) WV WC cv vr' (fun P => P = NP)) (WVN WV vr') (WCN WC (fun _ _ _ _ => False) cv) R' (ev :: H) (1001 ≤ R.length)) (X' : MX V y e N L sl tO sO kO S' nS nF fb fp fi tf tb ow si fo lw cv vr' (fun D => cv D (crt (hdR D / 4))) (AwN y Aw (fun _ _ => False) WV WC cv vr' (fun P => P = NP)) (WVN WV vr') (fun D P t => ∃ t', WCN WC (fun _ _ _ _ => False) cv D t' P t)) (hA : CAg G S') (hG : MG y N fi tf S' none R') (h3 : S'.1 38 3 = S.1 38 3) (h4 : S'.2.1 38 4 = S.2.1 38 4)
    (hO : ∀ (d : Nat × Nat) (D : TPth), d.1 / 4 ∈ lpP y → (d.1, d.2 + 1) :: D ≠ NP) (hW1 : ∀ P z d, z ∈ scP y → z.2.2 = hdR P → TgF V y z d → d :: P ≠ NP) (hW2 : ∀ P j' fs' c' ns' g' γ' r' i, (.tag 7 (.tag j' (.append fs' (.append c' (.append ns' g')))), γ', r') ∈ scP y → (4 * j' + 1, 0) :: (4 * j', i) :: P ≠ NP) (hvf : ∀ F b a, vr' F b = some a → fi F < nF ∧ fp (fi F) = F) :
    MI K V y e N L G sl tO sO kO crt q0 ar S' (fun P => En P ∨ P = NP) cv vr' none (AwN y Aw (fun _ _ => False) WV WC cv vr' (fun P => P = NP)) (WVN WV vr') (WCN WC (fun _ _ _ _ => False) cv) R' (ev :: H) nS nF fb fp fi tf tb ow si fo lw := by
  obtain ⟨o1, o2, o3, o4⟩ := h.2.2.2.2.2.1
  obtain ⟨v1, v2⟩ := MW_iff.mp h.2.2.2.2.2.2.2.1
  refine ⟨AB_fl A' hfl, X', hA, hG, fun P q => q.elim (h.2.2.2.2.1 P) (fun q => by rw [q]; exact hOP), ⟨o1, o2, o3, fun f hf h0 => ?_⟩, ⟨fun P t a q q' => ?_, fun P t m q => ?_, fun P j k x x' γ r q q' => ?_⟩, MW_iff.mpr ⟨fun P z d hP hz hr ht => ⟨fun q => (v1 P z d hP hz hr ht).1 (q.resolve_right (hW1 P z d hz hr ht)), fun q => (v1 P z d hP hz hr ht).2 (fun q' => q (.inl q'))⟩, fun P j' fs' c' ns' g' γ' r' i q1 q2 => q2.elim (fun q2 => .inl (v2 P j' fs' c' ns' g' γ' r' i q1 q2)) (fun q2 => absurd q2 (hW2 P j' fs' c' ns' g' γ' r' i q1))⟩, mrs_k h.2.2.2.2.2.2.2.2.1 h3 h4, ⟨hvf, fun F b P t q => h.2.2.2.2.2.2.2.2.2.2 F b P t q.1⟩⟩
  · obtain ⟨d, D, g1, g2, g3, g4, g5, g6, g7, g8⟩ := o4 f hf h0
    exact ⟨d, D, g1, g2, .inl g3, g4, g5, fun q => .inl (g6 q), g7, fun q q' => g8 q (q'.resolve_right (hO d D q))⟩
  · rcases q with q | q
    · exact h.2.2.2.2.2.2.1.1 P t a (.inl q) q'
    · cases q
  · obtain ⟨u1, u2⟩ := h.2.2.2.2.2.2.1.2.1 P t m q
    exact ⟨List.mem_cons_of_mem _ u1, u2⟩
  · refine h.2.2.2.2.2.2.1.2.2 P j k x x' γ r ?_ q'
    rcases q with q | q
    · exact .inl (hRm _ q)
    · rcases List.mem_cons.mp q with q | q
      · rw [q]
        exact .inl hev
      · exact .inr q
/-- a path is entered, nothing else -/
theorem fh_ent (hfu : 1000 ≤ fu) (X : XB K pl V y e N M L n ρ τ G sl tO sO kO crt f W ν) (Z : HPz K V y e N L G sl tO sO kO crt q0 ar S S1 En cv vr Aw WV WC R R' H nS nF fb fp fi tf tb ow si fo lw ev) (n0 : ¬ En NP) (hOP : OP V y nF fp fi NP)
    (A' : AB K V y q0 ar (fun P => En P ∨ P = NP) cv vr none (AwN y Aw (fun _ _ => False) WV WC cv vr (fun P => P = NP)) (WVN WV vr) (WCN WC (fun _ _ _ _ => False) cv) R' (ev :: H) (1001 ≤ R.length))
    (hO : ∀ (d : Nat × Nat) (D : TPth), d.1 / 4 ∈ lpP y → (d.1, d.2 + 1) :: D ≠ NP) (hW1 : ∀ P z d, z ∈ scP y → z.2.2 = hdR P → TgF V y z d → d :: P ≠ NP) (hW2 : ∀ P j' fs' c' ns' g' γ' r' i, (.tag 7 (.tag j' (.append fs' (.append c' (.append ns' g')))), γ', r') ∈ scP y → (4 * j' + 1, 0) :: (4 * j', i) :: P ≠ NP)
    {R0 : Nat} {x1 : TR} (hR : R0 < 512) (hlv : ∀ t, t ∈ lvs x1 ↔ ∃ z, z ∈ scP y ∧ z.2.2 = hdR NP ∧ otk z.1 = t ∧ lfK z.1 = true) (hnd : (lvs x1).Nodup) (hs : Seg G N (G.1 26 R0) (lvs x1) (-1)) {o : Option (Unit × im_S)} (ho : o = f_X5_enter fu (nI (fi (fpt y NP))) (nI R0) S1) : FHo K V y e N L G sl tO sO kO crt q0 ar o En cv H ev tb := by
  obtain ⟨h, hS1, hG1, hRn, hRm, hev, hle, hcv, htb, her⟩ := Z
  have hnw : ∀ t, ¬ (Aw NP t ∨ (∃ F b, WV F b NP t) ∨ ∃ D, (fun D P t => ∃ t', WC D t' P t) D NP t) := fun t q => n0 (h.1.2.1.2.2.2.2.1 NP t (q.imp id (Or.imp id (fun ⟨D, t', q⟩ => ⟨D, t', q⟩)))).1
  obtain ⟨S', m1, m2, m3⟩ := h_ent hfu X (rm_ca hS1 h.2.2.1) (rm_mx hS1 h.2.1) hOP hnw hR hlv hnd hs
  have hwv : ∀ F b P t, WV F b P t → vr F b = none := fun F b P t q => (h.1.2.1.2.2.2.2.2.1 F b P t q).1
  have hwc : ∀ D t' P t, WC D t' P t → cv D t' = none := fun D t' P t q => (h.1.2.1.2.2.2.2.2.2.1 D t' P t q).1
  obtain ⟨w1, w2, w3⟩ := aw_en (y := y) (Aw := Aw) (Sl := fun _ _ => False) (NE := fun P => P = NP) hwv hwc
  refine ⟨S', _, vr, none, _, _, _, R', nS, nF, fb, fp, fi, tf, tb, ow, si, fo, lw, ho.trans m1, MI_hn h hev (fun e q => ((hRm e).mp q).1) (fun q => by omega) hOP A' (MX_cg m2 (fun P t => ?_) w2 w3) (cag_mk (rm_ca hS1 h.2.2.1) m3) (mg_mk hG1 m3) ((m3.1 38 3 (by omega) (by omega)).trans (hS1.1 38 3 (by omega))) ((m3.2.1 38 4 (by omega)).trans (by rw [hS1.2])) hO hW1 hW2 h.2.2.2.2.2.2.2.2.2.1, hcv, htb, fun P t q => her P t ((hRm _).mp q).1, fun _ q => .inl q, [], Nat.zero_le _, fun P t m i q _ => .inl q⟩
  rw [w1 P t]
  exact ⟨fun q => q.imp (fun q => q.1) id, fun q => q.imp (fun q => ⟨q, id⟩) id⟩
theorem M_512 (C : CGd K pl V y e N M L n ρ τ G) {k : Nat} (hje : j < e) (hM : M j + k ≤ M (j + 1)) : M j + k ≤ 512 := by
  have h1 := (C.2.1 (j + 1) e (by omega) (Nat.le_refl _)).2.1
  have h2 := C.2.2.2.1
  have h3 := C.2.2.2.2.2.2.2.1
  omega
theorem fh_if (hfu : 1000 ≤ fu) (X : XB K pl V y e N M L n ρ τ G sl tO sO kO crt f W ν) (Z : HPz K V y e N L G sl tO sO kO crt q0 ar S S1 En cv vr Aw WV WC R R' H nS nF fb fp fi tf tb ow si fo lw (P1, j, 0)) (hz : (.tag 6 (.tag j (.append x (.append x' x''))), γ, r) ∈ scP y) (hr : r = hdR P1) : FHo K V y e N L G sl tO sO kO crt q0 ar (f_X5_choose fu (nI (fi (fpt y P1))) (nI (N j)) S1) En cv H (P1, j, 0) tb := by
  obtain ⟨h, hS1, hG1, hRn, hRm, hev, hle, hcv, htb, her⟩ := id Z
  have C := X.1
  have hS := X.2.1
  have hE1 : En P1 := (h.1.2.1.2.2.2.1 P1 j 0 (.inl hev)).1
  have hOP := h.2.2.2.2.1 P1 hE1
  have hqa := h.1.2.2.2.2.1 P1 _ hE1 hz hr
  obtain ⟨a, ha⟩ := hqa.2.1 (.inl hev)
  have hnH := rh_no h.1.2.1.2.2.1 hev
  obtain ⟨⟨p', e', wz⟩, -, htr⟩ := (tl_P C.1) _ hz
  obtain ⟨hjp, bb, cc, w1, w2, w3⟩ := wz
  have hjp : j = p' := hjp
  have hx := htr _ (mc _ (ml _ (hd_in w1 _ _)))
  obtain ⟨⟨-, f1, f2, f3, -⟩, f4, -, f6, f7, f8, f9, -, -, f12, f13⟩ := cn_P C _ hz
  have hA1 := rm_ca hS1 h.2.2.1
  have hX1 := rm_mx hS1 h.2.1
  have hNj : N j < 500 := (tk_sl C hS (op_tk C hS hOP hz hr rfl).1).2.1
  have hje : j < e := (nd_P C hz rfl).2.2.2
  have hM := M_512 C hje f6
  obtain ⟨s, s1, s2, s3, s4, s5, s6, s7, s8, s9⟩ := h_rd C hS hA1 hX1 hOP hx hr ha
  have hty : tyO (tyV K V x) a := AB_ty X.2.2.1 h.1 hx ha
  have hgd : tyV K V x = 2 ∧ tyV K V x'' = tyV K V x' := X.2.2.1.2.2.2.2.2.1 _ hz
  rw [hgd.1] at hty
  have n3 : a.1 ≠ 3 := fun q => by
    have := hty.2 (by omega)
    omega
  have hw : S1.2.1 66 s = a.2.1 := s6.2 n3
  have hop : f_X5_choose fu (nI (fi (fpt y P1))) (nI (N j)) S1 = (if S1.1 65 s ≠ 4 then (if (lg_cmp a.2.1 1 : Int32) ≠ 0 then ((f_X5_enter fu (nI (fi (fpt y P1))) (nI (M j) + 1) S1).bind (fun q => some ((), q.2))) else ((f_X5_enter fu (nI (fi (fpt y P1))) (nI (M j) + 0) S1).bind (fun q => some ((), q.2)))) else ((f_X5_send (nI (fi (fpt y P1))) (nI (N j)) 4 a.2.1 S1).bind (fun q => some ((), q.2)))) := by
    unfold f_X5_choose
    rw [mI_in (a := N j) (n := 512) (by omega) (by omega), nI_clamp (show N j < 2 ^ 31 by omega), (hA1 12 (N j) (by omega) (by omega)).1.trans f4, s1]
    simp only [gd_t, Option.bind_some]
    rw [s2, s3, s4, (hA1 15 (N j) (by omega) (by omega)).1.trans f7, hw]
    simp only [gd_t]
  by_cases c4 : a.1 = 4
  · have e4 : nI a.1 = 4 := by rw [c4]; rfl
    refine fh_snd Z (H_if0 X.2.2.1 h.1 hz hr hev hRn hRm ha c4) (w := a.2.1) (ecw_n n3) (fun q => absurd q n3) ?_
    rw [hop, if_neg (fun q => q (s5.mpr c4)), bd_u, e4]
  · rw [if_pos (fun q => c4 (s5.mp q))] at hop
    have hnft : ¬ j ∈ (ftP y).map Prod.fst := fun q => (ft_fu C.1).2.2 j q _ hz rfl
    have hnlp : ¬ j ∈ lpP y := lp_no C.1 hz rfl
    have key : ∀ k : Nat, k < 2 → ¬ En ((4 * j + k, 0) :: P1) → AB K V y q0 ar (fun P => En P ∨ P = (4 * j + k, 0) :: P1) cv vr none (AwN y Aw (fun _ _ => False) WV WC cv vr (fun P => P = (4 * j + k, 0) :: P1)) (WVN WV vr) (WCN WC (fun _ _ _ _ => False) cv) R' ((P1, j, 0) :: H) (1001 ≤ R.length) → ∀ x1 : TR, (∀ t, t ∈ lvs x1 ↔ ∃ z, z ∈ scP y ∧ z.2.2 = 4 * j + k ∧ otk z.1 = t ∧ lfK z.1 = true) → (lvs x1).Nodup → Seg G N (G.1 26 (M j + k)) (lvs x1) (-1) → f_X5_choose fu (nI (fi (fpt y P1))) (nI (N j)) S1 = f_X5_enter fu (nI (fi (fpt y P1))) (nI (M j + k)) S1 → FHo K V y e N L G sl tO sO kO crt q0 ar (f_X5_choose fu (nI (fi (fpt y P1))) (nI (N j)) S1) En cv H (P1, j, 0) tb := fun k hk n0 A' x1 hlv hnd hs ho => by
      have hnif : ¬ ifr y (4 * j + k) := fun q => by
        rcases (ifr_nd C.1 hz (k := k) (by omega)).mp q with q | q
        · cases q.1
        · cases q
      have hf : fpt y ((4 * j + k, 0) :: P1) = fpt y P1 := fpt_n hnif
      have hOPn : OP V y nF fp fi ((4 * j + k, 0) :: P1) := ⟨pk_nd hOP.1 hz ⟨by omega, hr.symm⟩, z0_cn hOP.2.1 (.inr rfl), by rw [hf]; exact hOP.2.2.1, by rw [hf]; exact hOP.2.2.2⟩
      refine fh_ent hfu X Z n0 hOPn A' (fun d D q1 q2 => ?_) (fun P z d q1 q2 q3 q4 => ?_) (fun P j' fs' c' ns' g' γ' r' i q1 q2 => ?_) (R0 := M j + k) (by omega) hlv hnd hs (by rw [hf]; exact ho)
      · have : d.2 + 1 = 0 := congrArg Prod.snd (List.cons.inj q2).1
        omega
      · have e1 : d = (4 * j + k, 0) := (List.cons.inj q4).1
        have e2 : d.1 / 4 = j := by
          rw [e1]
          show (4 * j + k) / 4 = j
          omega
        rcases tg_no (w := C.1) q1 q3 with q5 | q5
        · rw [e2] at q5
          exact hnft q5
        · rw [e2] at q5
          exact hnlp q5.1
      · have e1 : 4 * j' + 1 = 4 * j + k := congrArg Prod.fst (List.cons.inj q2).1
        have e2 : j' = j := by omega
        rw [e2] at q1
        exact hnlp (lp_in q1 rfl)
    by_cases c1 : a.2.1 = 1
    · refine key 0 (by omega) (fun q => hnH (hqa.2.2.1 q).1) (H_if1 X.2.2.1 h.1 hz hr hev hRn hRm ha c4 (.inl ⟨c1, rfl⟩)) x' (fun t => lv_rg C.1 hz (r1 := 4 * j) (γ1 := γ) (.inl ⟨rfl, rfl⟩) w2 (by have := Wt_lt w1; omega) (fun z q => htr z (mc _ (mr _ (ml _ q)))) t) (lv_nd w2).1 f12 ?_
      rw [hop, if_neg (fun q => q ((lg_cmp_eq _ _).mpr c1)), bd_u]
      rw [show nI (M j) + 0 = nI (M j + 0) from nI_add (M j) 0]
    · refine key 1 (by omega) (fun q => hnH (hqa.2.2.2.1 q).1) (H_if1 X.2.2.1 h.1 hz hr hev hRn hRm ha c4 (.inr ⟨c1, rfl⟩)) x'' (fun t => lv_rg C.1 hz (r1 := 4 * j + 1) (γ1 := γ) (.inr ⟨rfl, rfl⟩) w3 (by have := Wt_lt w1; have := Wt_lt w2; omega) (fun z q => htr z (mc _ (mr _ (mr _ q)))) t) (lv_nd w3).1 f13 ?_
      rw [hop, if_pos (fun q => c1 ((lg_cmp_eq _ _).mp q)), bd_u]
      rw [show nI (M j) + 1 = nI (M j + 1) from nI_add (M j) 1]
end HP2
