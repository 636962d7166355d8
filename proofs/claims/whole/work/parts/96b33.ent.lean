/-! the class enters a path, and hands in what is there -/
section ENT
variable {K pl : Nat → Nat} {V : Nat → Int64} {y : TR} {e : Nat} {N M L : Nat → Nat} {n ρ τ : Nat} {G : im_S} {sl tO sO kO crt : Nat → Nat} {f : Nat} {W : Nat → Int32 × Int32 × Int32} {ν : Nat → Nat} {nS nF fu : Nat} {fb : Nat → Nat} {fp : Nat → TPth} {fi : TPth → Nat} {tf : TPth → Nat → Nat} {tb : TPth → Nat → Option Nat} {ow si fo : Nat → Int32} {lw : Nat → Int64} {cv : TPth → Nat → Option TVal} {cc : TPth → Option TVal} {WV : TPth → Nat → TPth → Nat → Prop} {WC : TPth → TPth → Nat → Prop}
/-- the leaves of a path wake -/
theorem x_ent (C : CGd K pl V y e N M L n ρ τ G) (hS : SLy G n τ sl tO sO kO) {vr : TPth → Nat → Option TVal} {P1 : TPth} (hP : OP V y nF fp fi P1) {z2 : Int32} : ∀ (l : List Nat) (nf i : Nat) (S : im_S) (w : Int32) (Aw : TPth → Nat → Prop), l.length + i ≤ 511 → l.length < nf → CAg G S → MX V y e N L sl tO sO kO S nS nF fb fp fi tf tb ow si fo lw cv vr cc Aw WV WC → (∀ t, t ∈ l → ∃ z, NdA y P1 t z) → l.Nodup → (∀ t, t ∈ l → ¬ (Aw P1 t ∨ (∃ F b, WV F b P1 t) ∨ ∃ D, WC D P1 t)) → Seg G N w l (-1) → ∃ S' : im_S, f_X5_enter_L16 fu nf (nI (fi (fpt y P1))) z2 w (nI i) S = some ((), S') ∧ MX V y e N L sl tO sO kO S' nS nF fb fp fi tf tb ow si fo lw cv vr cc (fun P t => Aw P t ∨ (P = P1 ∧ t ∈ l)) WV WC ∧ MK S S' := by
  intro l
  induction l with
  | nil =>
    intro nf i S w Aw hi hnf hA hX hz hn hw hs
    obtain ⟨nf, rfl⟩ : ∃ q, nf = q + 1 := ⟨nf - 1, by omega⟩
    have hi : 0 + i ≤ 511 := hi
    have hs : w = -1 := hs
    refine ⟨S, ?_, MX_cg hX (fun P t => ⟨fun q => ?_, .inl⟩) (fun _ _ _ _ => Iff.rfl) (fun _ _ _ => Iff.rfl), MK_r⟩
    · have hlt : ¬ (512 : Int32) ≤ nI i := fun q => by
        have := (mI_le (a := 512) (b := i) (by omega) (by omega)).mp q
        omega
      rw [f_X5_enter_L16, if_neg hlt, if_pos hs]
    · rcases q with q | q
      · exact q
      · exact absurd q.2 List.not_mem_nil
  | cons t l ih =>
    intro nf i S w Aw hi hnf hA hX hz hn hw hs
    obtain ⟨nf, rfl⟩ : ∃ q, nf = q + 1 := ⟨nf - 1, by omega⟩
    have hi : l.length + 1 + i ≤ 511 := hi
    have hnf : l.length + 1 < nf + 1 := hnf
    obtain ⟨s1, s2, s3⟩ := hs
    obtain ⟨n1, n2⟩ := List.nodup_cons.mp hn
    obtain ⟨S1, k, g1, g2, g3⟩ := x_wake C hS hX hP (hz t List.mem_cons_self) (hw t List.mem_cons_self)
    have hN : N t < 500 := by
      obtain ⟨sow, hly⟩ := x_ly hX
      exact (cd_g C hS hly hP (hz t List.mem_cons_self)).2.2.2
    have hA1 := cag_mk hA g3
    have h50 : (uI S1 38 10 (nI k)).1 50 (N t) = G.1 16 (N t) := (hA1 16 (N t) (by omega) (by omega)).1
    obtain ⟨S', k1, k2, k3⟩ := ih nf (i + 1) (uI S1 38 10 (nI k)) (G.1 16 (N t)) (fun P t' => Aw P t' ∨ (P = P1 ∧ t' = t)) (by omega) (by omega) hA1 g2 (fun t' q => hz t' (List.mem_cons_of_mem _ q)) n2 (fun t' q q' => by
      rcases q' with (q' | ⟨-, q'⟩) | q'
      · exact hw t' (List.mem_cons_of_mem _ q) (.inl q')
      · rw [q'] at q
        exact n1 q
      · exact hw t' (List.mem_cons_of_mem _ q) (.inr q')) s3
    refine ⟨S', ?_, MX_cg k2 (fun P t' => ⟨fun q => ?_, fun q => ?_⟩) (fun _ _ _ _ => Iff.rfl) (fun _ _ _ => Iff.rfl), MK_t g3 k3⟩
    · have hlt : ¬ (512 : Int32) ≤ nI i := fun q => by
        have := (mI_le (a := 512) (b := i) (by omega) (by omega)).mp q
        omega
      rw [f_X5_enter_L16, if_neg hlt, s1, if_neg (nI_m1 (show N t < 2 ^ 31 by omega)), w_mk, g1]
      simp only [Option.bind_some]
      have h50' : S1.1 50 (N t) = G.1 16 (N t) := by
        rw [← h50]
        exact (uI_ne (by omega)).symm
      rw [mI_in (a := N t) (n := 512) (by omega) (by omega), nI_clamp (show N t < 2 ^ 31 by omega), h50', show nI i + 1 = nI (i + 1) from nI_add i 1]
      exact k1
    · rcases q with q | ⟨q1, q2⟩
      · exact .inl (.inl q)
      · rcases List.mem_cons.mp q2 with q2 | q2
        · exact .inl (.inr ⟨q1, q2⟩)
        · exact .inr ⟨q1, q2⟩
    · rcases q with (q | ⟨q1, q2⟩) | ⟨q1, q2⟩
      · exact .inl q
      · exact .inr ⟨q1, by rw [q2]; exact List.mem_cons_self⟩
      · exact .inr ⟨q1, List.mem_cons_of_mem _ q2⟩
theorem x_enter (hfu : 1000 ≤ fu) (C : CGd K pl V y e N M L n ρ τ G) (hS : SLy G n τ sl tO sO kO) {vr : TPth → Nat → Option TVal} {S : im_S} {Aw : TPth → Nat → Prop} {P1 : TPth} (hP : OP V y nF fp fi P1) {R : Nat} {l : List Nat} (hR : R < 512) (hl : l.length ≤ 500) (hA : CAg G S) (hX : MX V y e N L sl tO sO kO S nS nF fb fp fi tf tb ow si fo lw cv vr cc Aw WV WC) (hz : ∀ t, t ∈ l → ∃ z, NdA y P1 t z) (hn : l.Nodup) (hw : ∀ t, t ∈ l → ¬ (Aw P1 t ∨ (∃ F b, WV F b P1 t) ∨ ∃ D, WC D P1 t)) (hs : Seg G N (G.1 26 R) l (-1)) : ∃ S' : im_S, f_X5_enter fu (nI (fi (fpt y P1))) (nI R) S = some ((), S') ∧ MX V y e N L sl tO sO kO S' nS nF fb fp fi tf tb ow si fo lw cv vr cc (fun P t => Aw P t ∨ (P = P1 ∧ t ∈ l)) WV WC ∧ MK S S' := by
  have e60 : S.1 60 R = G.1 26 R := (hA 26 R (by omega) (by omega)).1
  obtain ⟨S', k1, k2, k3⟩ := x_ent (z2 := nI R) (fu := fu) C hS hP l fu 0 S (G.1 26 R) Aw (by omega) (by omega) hA hX hz hn hw hs
  refine ⟨S', ?_, k2, k3⟩
  unfold f_X5_enter
  rw [mI_in (a := R) (n := 512) (by omega) hR, nI_clamp (show R < 2 ^ 31 by omega), e60]
  simp only [gd_t]
  exact k1
/-- first values that are there are handed in -/
theorem x_vars (hfu : 600000 ≤ fu) (X : XB K pl V y e N M L n ρ τ G sl tO sO kO crt f W ν) {P0 : TPth} (hP : OP V y nF fp fi P0) {j : Nat} {fs c ns g : TR} {γ : List Nat} {r : Nat} (hz : (.tag 7 (.tag j (.append fs (.append c (.append ns g)))), γ, r) ∈ scP y) (hr : r = hdR P0) (hF : fi ((4 * j, 0) :: P0) < nF) (hF2 : fp (fi ((4 * j, 0) :: P0)) = (4 * j, 0) :: P0) {Aw : TPth → Nat → Prop} (hW : ∀ b P t, ¬ WV ((4 * j, 0) :: P0) b P t) (hPk : POk V y ((4 * j, 0) :: P0)) {z2 z3 : Int32} : ∀ l : TR, LL l → ∀ (p1 e1 nf i : Nat) (S : im_S) (vr0 : TPth → Nat → Option TVal), i + tln l ≤ 4 → tln l < nf → l = .nil ∨ Wt K l p1 e1 102 → (∀ b, b ∈ tks l → b ∈ tks fs) → (∀ b x, rwX l b = some x → b ∈ tks l → rwX fs b = some x) → GF V G N L j (Rg M r) ns l → CAg G S → MX V y e N L sl tO sO kO S nS nF fb fp fi tf tb ow si fo lw cv vr0 cc Aw WV WC → (∀ b, b ∈ tks l → vr0 ((4 * j, 0) :: P0) b = none) → (∀ v, (∃ P t, cv P t = some v) → 1 ≤ v.1 ∧ v.1 ≤ 4) → ∃ (S' : im_S) (vr1 : TPth → Nat → Option TVal), f_X5_beginLoop_L52 fu nf (nI (fi (fpt y P0))) z2 z3 (nI (fi ((4 * j, 0) :: P0))) (hdV N l) (nI i) S = (f_X5_enter fu (nI (fi ((4 * j, 0) :: P0))) z3 S').bind (fun q => some ((), q.2)) ∧ MX V y e N L sl tO sO kO S' nS nF fb fp fi tf tb ow si fo lw cv vr1 cc Aw WV WC ∧ MK S S' ∧ ∀ F' b' v, vr1 F' b' = some v ↔ vr0 F' b' = some v ∨ (F' = (4 * j, 0) :: P0 ∧ b' ∈ tks l ∧ nxX V ns b' ≠ none ∧ ∃ x, rwX l b' = some x ∧ cv P0 (rtk x) = some v) := by
  have C := X.1
  have hS := X.2.1
  have hL := X.2.2.1.2.2.2.2.1
  have hif : ifr y (4 * j) := (ifr_nd C.1 hz (k := 0) (by omega)).mpr (.inl ⟨rfl, rfl⟩)
  obtain ⟨lf, ln⟩ := hL _ _ _ _ _ _ _ hz
  refine LL_ind (fun p1 e1 nf i S vr0 hi hnf w hsub hrw hG hA hX hv hvr => ?_) (fun p x l hl ih p1 e1 nf i S vr0 hi hnf w hsub hrw hG hA hX hv hvr => ?_)
  · obtain ⟨nf, rfl⟩ : ∃ q, nf = q + 1 := ⟨nf - 1, by omega⟩
    refine ⟨S, vr0, ?_, hX, MK_r, fun F' b' v => ⟨.inl, fun q => q.elim id (fun q => absurd q.2.1 List.not_mem_nil)⟩⟩
    have hi : i + 0 ≤ 4 := hi
    rw [f_X5_beginLoop_L52]
    by_cases c4 : (4 : Int32) ≤ nI i
    · rw [if_pos c4]
    · rw [if_neg c4, if_pos (show hdV N .nil = -1 from rfl)]
  · obtain ⟨nf, rfl⟩ : ∃ q, nf = q + 1 := ⟨nf - 1, by omega⟩
    have hi : i + (tln l + 1) ≤ 4 := hi
    have hnf : tln l + 1 < nf + 1 := hnf
    rcases w with w | w
    · cases w
    obtain ⟨-, hp1, -, b1, w1, w2⟩ := w
    have hp1 : p = p1 := hp1
    have w2 : l = .nil ∨ Wt K l (b1 + 1) e1 102 := by rcases w2 with w2 | w2; exact .inl w2.1; exact .inr w2.2
    have hb1 := Wt_lt w1
    have hlt2 : ∀ b, b ∈ tks l → b1 + 1 ≤ b := fun b q => by
      rcases w2 with w2 | w2
      · rw [w2] at q
        exact absurd q List.not_mem_nil
      · exact (tks_in w2 b q).1
    have hpb : p < b1 := by
      have : p ≤ (if (102 : Nat) = 101 then p1 else p1 + 2) := by split <;> omega
      omega
    have hpl : ¬ p ∈ tks l := fun q => by
      have := hlt2 p q
      omega
    obtain ⟨⟨v1, v2, v3, v4, v5, v6, v7, v8⟩, hG2⟩ := hG
    have hpf : p ∈ tks fs := hsub p List.mem_cons_self
    have hrp : rwX fs p = some x := hrw p x (if_pos rfl) List.mem_cons_self
    obtain ⟨⟨p', e', wz⟩, -, htr⟩ := (tl_P C.1) _ hz
    obtain ⟨-, b2, d2, f2, n1, n2, w3, w4, w5, w6⟩ := wz
    have hgd : tyV K V c = 2 ∧ RwT K V fs ∧ DsF V fs [] ∧ RwT K V ns ∧ NsF V (tks fs) ns [] := X.2.2.1.2.2.2.2.2.1 _ hz
    have hxs : (x, γ, r) ∈ scP y := htr _ (mc _ (ml _ ((rwX_in fs lf _ _ (.inr w3) hgd.2.1 x hrp).1 γ r)))
    have hNp : N p < 500 := by
      have hq : TkF N L e tO (fpt y P0) p ∨ TkF N L e tO ((4 * j, 0) :: P0) p := by
        by_cases hnx : nxX V ns p = none
        · exact .inl (tk_v C hS hL (.inr (.inr (.inl ⟨j, fs, c, ns, g, γ, r, hz, hpf, .inr ⟨hnx, P0, hP.1, hr.symm, rfl⟩⟩))) (tp_P C P0 hP.1).2.1 (tp_P C P0 hP.1).2.2).1
        · exact .inr (tk_v C hS hL (.inr (.inr (.inl ⟨j, fs, c, ns, g, γ, r, hz, hpf, .inl ⟨hnx, rfl⟩⟩))) hPk hif).1
      rcases hq with hq | hq
      · exact (tk_sl C hS hq).2.1
      · exact (tk_sl C hS hq).2.1
    have hkx := (x_rx C hS hX hP hxs hr).1
    have hNx := (tk_sl C hS hkx).2.1
    have n4 : ¬ (4 : Int32) ≤ nI i := fun q => by
      have := (mI_le (a := 4) (b := i) (by omega) (by omega)).mp q
      omega
    have e46 : S.1 46 (N p) = nI (N (rtk x)) := (hA 12 (N p) (by omega) (by omega)).1.trans v4
    have e48 : ∀ S' : im_S, CAg G S' → S'.1 48 (N p) = hdV N l := fun S' q => (q 14 (N p) (by omega) (by omega)).1.trans v5
    have e43 : S.1 43 (N (rtk x)) = G.1 9 (N (rtk x)) := (hA 9 (N (rtk x)) (by omega) (by omega)).1
    have hin1 : in_b (nI (N p)) 512 = true := mI_in (a := N p) (n := 512) (by omega) (by omega)
    have hin2 : in_b (nI (N (rtk x))) 512 = true := mI_in (a := N (rtk x)) (n := 512) (by omega) (by omega)
    have hcl1 : (nI (N p)).toNatClampNeg = N p := nI_clamp (by omega)
    have hcl2 : (nI (N (rtk x))).toNatClampNeg = N (rtk x) := nI_clamp (by omega)
    have hni : nI i + 1 = nI (i + 1) := nI_add i 1
    have step : f_X5_beginLoop_L52 fu (nf + 1) (nI (fi (fpt y P0))) z2 z3 (nI (fi ((4 * j, 0) :: P0))) (hdV N (.append (.tag p x) l)) (nI i) S = (if (G.1 9 (N (rtk x)) : Int32) ≠ 5 then f_X5_beginLoop_L52 fu nf (nI (fi (fpt y P0))) z2 z3 (nI (fi ((4 * j, 0) :: P0))) (hdV N l) (nI (i + 1)) S else ((f_X5_handIn fu (nI (fi (fpt y P0))) (nI (N (rtk x))) (nI (fi ((4 * j, 0) :: P0))) S).bind (fun qS10 => f_X5_beginLoop_L52 fu nf (nI (fi (fpt y P0))) z2 z3 (nI (fi ((4 * j, 0) :: P0))) ((qS10.2.1 48) (N p)) (nI (i + 1)) qS10.2))) := by
      show f_X5_beginLoop_L52 fu (nf + 1) (nI (fi (fpt y P0))) z2 z3 (nI (fi ((4 * j, 0) :: P0))) (nI (N p)) (nI i) S = _
      rw [f_X5_beginLoop_L52, if_neg n4, if_neg (nI_m1 (show N p < 2 ^ 31 by omega)), hin1, hcl1, e46, hin2, hcl2, e43, e48 S hA, hni]
      simp only [gd_t]
    have rest : ∀ b' v, (∃ x1, rwX (.append (.tag p x) l) b' = some x1 ∧ cv P0 (rtk x1) = some v) ↔ (b' = p ∧ cv P0 (rtk x) = some v) ∨ (b' ≠ p ∧ ∃ x1, rwX l b' = some x1 ∧ cv P0 (rtk x1) = some v) := fun b' v => by
      show (∃ x1, (if p = b' then some x else rwX l b') = some x1 ∧ cv P0 (rtk x1) = some v) ↔ _
      by_cases cb : p = b'
      · rw [if_pos cb]
        refine ⟨fun ⟨x1, q1, q2⟩ => ?_, fun q => ?_⟩
        · cases q1
          exact .inl ⟨cb.symm, q2⟩
        · rcases q with q | q
          · exact ⟨x, rfl, q.2⟩
          · exact absurd cb.symm q.1
      · rw [if_neg cb]
        refine ⟨fun q => .inr ⟨fun q' => cb q'.symm, q⟩, fun q => ?_⟩
        rcases q with q | q
        · exact absurd q.1.symm cb
        · exact q.2
    have hsub' : ∀ b, b ∈ tks l → b ∈ tks fs := fun b q => hsub b (List.mem_cons_of_mem _ q)
    have hrw' : ∀ b x1, rwX l b = some x1 → b ∈ tks l → rwX fs b = some x1 := fun b x1 q q' => hrw b x1 ((if_neg (fun q2 => hpl (by rw [q2]; exact q'))).trans q) (List.mem_cons_of_mem _ q')
    by_cases hnx : nxX V ns p = none
    · have h9 : G.1 9 (N (rtk x)) = 4 := by
        rw [if_neg (fun q' => (nx_fnd ns ln).mp q' hnx)] at v8
        exact v8.2.1
      obtain ⟨S', vr1, k1, k2, k3, k4⟩ := ih (b1 + 1) e1 nf (i + 1) S vr0 (by omega) (by omega) w2 hsub' hrw' hG2 hA hX (fun b q => hv b (List.mem_cons_of_mem _ q)) hvr
      refine ⟨S', vr1, ?_, k2, k3, fun F' b' v => ?_⟩
      · rw [step, if_pos (by rw [h9]; decide)]
        exact k1
      · rw [k4 F' b' v]
        refine ⟨fun q => q.imp id (fun ⟨q1, q2, q3, q4⟩ => ⟨q1, List.mem_cons_of_mem _ q2, q3, (rest b' v).mpr (.inr ⟨fun q => hpl (by rw [← q]; exact q2), q4⟩)⟩), fun q => q.imp id (fun ⟨q1, q2, q3, q4⟩ => ?_)⟩
        rcases (rest b' v).mp q4 with q5 | q5
        · rw [q5.1] at q3
          exact absurd hnx q3
        · rcases List.mem_cons.mp q2 with q6 | q6
          · exact absurd q6 q5.1
          · exact ⟨q1, q6, q3, q5.2⟩
    · have h9 : G.1 9 (N (rtk x)) = 5 := by
        rw [if_pos ((nx_fnd ns ln).mpr hnx)] at v8
        exact v8.2.1
      have hvt : VT V y ((4 * j, 0) :: P0) p := .inr (.inr (.inl ⟨j, fs, c, ns, g, γ, r, hz, hpf, .inl ⟨hnx, rfl⟩⟩))
      have hkp := (tk_v C hS hL hvt hPk hif).1
      obtain ⟨hi1, hi2⟩ := k_hin (fu := fu) C hS hA hX hP hxs hr hF (by rw [hF2]; exact hkp) v7
      have h11 : ¬ ((G.1 9 (N (rtk x)) : Int32) ≠ 5) := fun q => q h9
      cases hcx : cv P0 (rtk x) with
      | none =>
        obtain ⟨S', vr1, k1, k2, k3, k4⟩ := ih (b1 + 1) e1 nf (i + 1) S vr0 (by omega) (by omega) w2 hsub' hrw' hG2 hA hX (fun b q => hv b (List.mem_cons_of_mem _ q)) hvr
        refine ⟨S', vr1, ?_, k2, k3, fun F' b' v => ?_⟩
        · rw [step, if_neg h11, hi1 hcx]
          simp only [Option.bind_some]
          rw [e48 S hA]
          exact k1
        · rw [k4 F' b' v]
          refine ⟨fun q => q.imp id (fun ⟨q1, q2, q3, q4⟩ => ⟨q1, List.mem_cons_of_mem _ q2, q3, (rest b' v).mpr (.inr ⟨fun q => hpl (by rw [← q]; exact q2), q4⟩)⟩), fun q => q.imp id (fun ⟨q1, q2, q3, q4⟩ => ?_)⟩
          rcases (rest b' v).mp q4 with q5 | q5
          · rw [hcx] at q5
            cases q5.2
          · rcases List.mem_cons.mp q2 with q6 | q6
            · exact absurd q6 q5.1
            · exact ⟨q1, q6, q3, q5.2⟩
      | some a =>
        obtain ⟨-, -, r3, r4⟩ := x_rx C hS hX hP hxs hr
        rw [hcx] at r3
        have h0 : vr0 ((4 * j, 0) :: P0) p = none := hv p List.mem_cons_self
        obtain ⟨S1, g1, g2, g3⟩ := x_setv (vr' := fun F b => if F = (4 * j, 0) :: P0 ∧ b = p then some a else vr0 F b) hfu C hS hL hX hF (by rw [hF2]; exact hvt) (by rw [hF2]; exact h0) r3.2.1 r3.2.2 (r4 a hcx) (fun F b => by rw [hF2])
        rw [hF2] at g2
        have g2' := MX_cg (Aw' := Aw) (WV' := WV) (WC' := WC) g2 (fun P t => ⟨.inl, fun q => q.elim id (fun q => absurd q (hW p P t))⟩) (fun F b P t => ⟨fun q => ⟨q, fun q' => hW b P t (by rw [← q'.1]; exact q)⟩, fun q => q.1⟩) (fun _ _ _ => Iff.rfl)
        have hA1 := cag_mk hA g3
        obtain ⟨S', vr1, k1, k2, k3, k4⟩ := ih (b1 + 1) e1 nf (i + 1) S1 _ (by omega) (by omega) w2 hsub' hrw' hG2 hA1 g2' (fun b q => (if_neg (fun q' => hpl (by rw [← q'.2]; exact q))).trans (hv b (List.mem_cons_of_mem _ q))) hvr
        refine ⟨S', vr1, ?_, k2, MK_t g3 k3, fun F' b' v => ?_⟩
        · rw [step, if_neg h11, hi2 a hcx, g1]
          simp only [Option.bind_some]
          rw [e48 S1 hA1]
          exact k1
        · rw [k4 F' b' v]
          show (if F' = (4 * j, 0) :: P0 ∧ b' = p then some a else vr0 F' b') = some v ∨ _ ↔ _
          by_cases cb : F' = (4 * j, 0) :: P0 ∧ b' = p
          · rw [if_pos cb]
            refine ⟨fun q => ?_, fun q => ?_⟩
            · rcases q with q | ⟨q1, q2, -⟩
              · exact .inr ⟨cb.1, by rw [cb.2]; exact List.mem_cons_self, by rw [cb.2]; exact hnx, (rest b' v).mpr (.inl ⟨cb.2, hcx.trans q⟩)⟩
              · rw [cb.2] at q2
                exact absurd q2 hpl
            · rcases q with q | ⟨q1, q2, q3, q4⟩
              · rw [cb.1, cb.2, h0] at q
                cases q
              · rcases (rest b' v).mp q4 with q5 | q5
                · exact .inl (hcx.symm.trans q5.2)
                · exact absurd cb.2 q5.1
          · rw [if_neg cb]
            refine ⟨fun q => q.imp id (fun ⟨q1, q2, q3, q4⟩ => ⟨q1, List.mem_cons_of_mem _ q2, q3, (rest b' v).mpr (.inr ⟨fun q => hpl (by rw [← q]; exact q2), q4⟩)⟩), fun q => q.imp id (fun ⟨q1, q2, q3, q4⟩ => ?_)⟩
            rcases (rest b' v).mp q4 with q5 | q5
            · exact absurd ⟨q1, q5.1⟩ cb
            · rcases List.mem_cons.mp q2 with q6 | q6
              · exact absurd q6 q5.1
              · exact ⟨q1, q6, q3, q5.2⟩
end ENT
