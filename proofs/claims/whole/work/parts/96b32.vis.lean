/-! the class visits a leaf -/
/-- every slot is a frame's or a cell -/
def CVS (L sl : Nat → Nat) (nS nF : Nat) (fb : Nat → Nat) (fp : Nat → TPth) (tf : TPth → Nat → Nat) (tb : TPth → Nat → Option Nat) : Prop := ∀ s, s < nS → (∃ f o, f < nF ∧ o < sl (L (hdR (fp f) / 4)) ∧ s = fb f + o) ∨ ∃ P t m i, tb P t = some m ∧ i < m ∧ s = tf P t + i
/-- what a visit leaves -/
def FVo (K : Nat → Nat) (V : Nat → Int64) (y : TR) (e : Nat) (N L : Nat → Nat) (G : im_S) (sl tO sO kO crt : Nat → Nat) (q0 : Nat) (ar : Nat → Int64) (o : Option (Unit × im_S)) (En : TPth → Prop) (cv vr : TPth → Nat → Option TVal) (Aw : TPth → Nat → Prop) (WV WC : TPth → Nat → TPth → Nat → Prop) (R H : List TEv) (P0 : TPth) (t0 : Nat) (nS nF : Nat) (fb : Nat → Nat) (fp : Nat → TPth) (tf : TPth → Nat → Nat) (tb : TPth → Nat → Option Nat) : Prop :=
  ∃ (S' : im_S) (En' : TPth → Prop) (vr' : TPth → Nat → Option TVal) (mv' : Option (TPth × Nat × TVal)) (Aw' : TPth → Nat → Prop) (WV' WC' : TPth → Nat → TPth → Nat → Prop) (R' : List TEv) (nS' nF' : Nat) (fb' : Nat → Nat) (fp' : Nat → TPth) (fi' : TPth → Nat) (tf' : TPth → Nat → Nat) (tb' : TPth → Nat → Option Nat) (ow' si' fo' : Nat → Int32) (lw' : Nat → Int64), o = some ((), S') ∧ MI K V y e N L G sl tO sO kO crt q0 ar S' En' cv vr' mv' Aw' WV' WC' R' H nS' nF' fb' fp' fi' tf' tb' ow' si' fo' lw' ∧ (∀ P, En P → En' P) ∧ (∀ F b v, vr F b = some v → vr' F b = some v) ∧ (∀ P t, AwW Aw' WV' WC' P t → AwW Aw WV WC P t ∨ ¬ En P) ∧ (∀ P t, Aw' P t → Aw P t ∨ (∃ F b, WV F b P t ∧ vr' F b ≠ none) ∨ ¬ En P) ∧ (¬ AwW Aw' WV' WC' P0 t0 ∨ ∃ F b, WV' F b P0 t0 ∧ vr' F b = none) ∧ (CVS L sl nS nF fb fp tf tb → CVS L sl nS' nF' fb' fp' tf' tb') ∧ tb' = tb ∧ (∀ F b P t, WV F b P t → WV' F b P t ∨ vr' F b ≠ none) ∧ ∀ P t, (P, t, 0) ∈ R' → (P, t, 0) ∈ R ∨ CelV y cv P t
section VIS
variable {K pl : Nat → Nat} {V : Nat → Int64} {y : TR} {e : Nat} {N M L : Nat → Nat} {n ρ τ : Nat} {G : im_S} {sl tO sO kO crt : Nat → Nat} {f : Nat} {W : Nat → Int32 × Int32 × Int32} {ν : Nat → Nat} {q0 : Nat} {ar : Nat → Int64} {S S2 : im_S} {En : TPth → Prop} {cv vr : TPth → Nat → Option TVal} {Aw : TPth → Nat → Prop} {WV WC : TPth → Nat → TPth → Nat → Prop} {R H : List TEv} {nS nF fu : Nat} {fb : Nat → Nat} {fp : Nat → TPth} {fi : TPth → Nat} {tf : TPth → Nat → Nat} {tb : TPth → Nat → Option Nat} {ow si fo : Nat → Int32} {lw : Nat → Int64} {P0 : TPth} {t0 : Nat} {j r : Nat} {γ : List Nat}
/-- who is visited is asleep behind that -/
theorem slp_no (w : ABw K V y En cv vr none Aw WV WC R H) (hA : Aw P0 t0) : ¬ AwW (fun P t => Aw P t ∧ ¬ (P = P0 ∧ t = t0)) WV WC P0 t0 := fun q => by
  obtain ⟨b1, b2, b3, b4, b5, b6, b7, b8, b9⟩ := w
  obtain ⟨n1, n2⟩ := b8 P0 t0 hA
  rcases q with q | ⟨F, b, q⟩ | ⟨C, t', q⟩
  · exact q.2 ⟨rfl, rfl⟩
  · exact n1 F b q
  · exact n2 C t' q
theorem mg_mk (hG : MG y N fi tf S none R) (hk : MK S S2) : MG y N fi tf S2 none R := by
  obtain ⟨g1, g2, g3, g4, g5⟩ := hG
  exact ⟨fun q => (hk.1 38 11 (by omega) (by omega)).trans (g1 q), fun P t a q => (by cases q), (hk.1 38 8 (by omega) (by omega)).trans g3, g4, fun k ev q => (hk.1 39 k (by omega) (by omega)).trans (g5 k ev q)⟩
/-- a leaf sends its value -/
theorem fv_send (h : MI K V y e N L G sl tO sO kO crt q0 ar S En cv vr none Aw WV WC R H nS nF fb fp fi tf tb ow si fo lw) (hX : MX V y e N L sl tO sO kO S2 nS nF fb fp fi tf tb ow si fo lw cv vr (fun D => cv D (crt (hdR D / 4))) (fun P t => Aw P t ∧ ¬ (P = P0 ∧ t = t0)) WV (fun D P t => ∃ t', WC D t' P t)) (hk : MK S S2) (hA : Aw P0 t0) {a : TVal} {w : Int64} (hE : EcW tf a w) (ht : a.1 = 3 → ∃ m, tb a.2.2.1 a.2.2.2 = some m ∧ a.2.1 = Int64.ofNat m)
    (A' : AB K V y q0 ar En cv vr (some (P0, t0, a)) (fun P t => Aw P t ∧ ¬ (P = P0 ∧ t = t0)) WV WC R H (1001 ≤ R.length)) {o : Option (Unit × im_S)} (ho : o = (f_X5_send (nI (fi (fpt y P0))) (nI (N t0)) (nI a.1) w S2).bind (fun q => some ((), q.2))) : FVo K V y e N L G sl tO sO kO crt q0 ar o En cv vr Aw WV WC R H P0 t0 nS nF fb fp tf tb := by
  obtain ⟨S', g1, g2, g3, g4, g5⟩ := g_send (P := P0) (t := t0) (mg_mk h.2.2.2.1 hk) hE
  refine ⟨S', En, vr, some (P0, t0, a), _, WV, WC, R, nS, nF, fb, fp, fi, tf, tb, ow, si, fo, lw, by rw [ho, g1]; rfl, MI_st h id A' (MX_reg hX (fun b i q1 q2 => g3 b i (by omega)) (g3 38 10 (by omega)) (fun i => g4 66 i (by omega)) g5) (cag_k (cag_mk h.2.2.1 hk) (fun b i q1 q2 => g3 b i (by omega)) (fun b i q1 q2 => g4 b i (by omega))) g2 (fun P t v q => ?_) (fun P j' k x x' γ r q _ => q) (mrs_k h.2.2.2.2.2.2.2.2.1 ((g3 38 3 (by omega)).trans (hk.1 38 3 (by omega) (by omega))) ((g4 38 4 (by omega)).trans (hk.2.1 38 4 (by omega)))) h.2.2.2.2.2.2.2.2.2, fun _ q => q, fun _ _ _ q => q, fun P t q => .inl (q.imp (fun q => q.1) id), fun P t q => .inl q.1, .inl (slp_no h.1.2.1 hA), id, rfl, fun _ _ _ _ q => .inl q, fun _ _ q => .inl q⟩
  rcases q with q | q
  · exact h.2.2.2.2.2.2.1.1 P t v (.inl q)
  · cases q
    exact ht
/-- a call or an element gets ready -/
theorem fv_rdy (X : XB K pl V y e N M L n ρ τ G sl tO sO kO crt f W ν) (h : MI K V y e N L G sl tO sO kO crt q0 ar S En cv vr none Aw WV WC R H nS nF fb fp fi tf tb ow si fo lw) (hX : MX V y e N L sl tO sO kO S2 nS nF fb fp fi tf tb ow si fo lw cv vr (fun D => cv D (crt (hdR D / 4))) (fun P t => Aw P t ∧ ¬ (P = P0 ∧ t = t0)) WV (fun D P t => ∃ t', WC D t' P t)) (hk : MK S S2) (hA : Aw P0 t0) {z0 : TR × List Nat × Nat} (hz : NdA y P0 t0 z0) (hkd : (∃ as, z0.1 = .tag 4 (.tag t0 as)) ∨ ∃ x x', z0.1 = .tag 10 (.tag t0 (.append x x'))) {o : Option (Unit × im_S)} (ho : o = (f_X5_makeReady (nI (fi (fpt y P0))) (nI (N t0)) S2).bind (fun q => some ((), q.2))) : FVo K V y e N L G sl tO sO kO crt q0 ar o En cv vr Aw WV WC R H P0 t0 nS nF fb fp tf tb := by
  have hlt : lpK z0.1 = false ∧ tbK z0.1 = false := by
    rcases hkd with ⟨as, q⟩ | ⟨x, x', q⟩
    · rw [q]; exact ⟨rfl, rfl⟩
    · rw [q]; exact ⟨rfl, rfl⟩
  obtain ⟨z1, z2, z3, z4⟩ := id hz
  have hc : nI (fi (fpt y P0)) * 512 + nI (N t0) = nI (evc y N fi (P0, t0, 0)) := by
    have := evc_nd (N := N) (fi := fi) (P := P0) (i := 0) X.1.1 z1 hlt.1 (.inl hlt.2)
    rw [z3] at this
    rw [w_mk, this]
  obtain ⟨S', R', g1, g2, g3, g4, g5⟩ := g_rdy (mg_mk h.2.2.2.1 hk) hc
  obtain ⟨A1, A2⟩ := A_rdy X.2.2.1 h.1 hA hz hkd
  have A' : AB K V y q0 ar En cv vr none (fun P t => Aw P t ∧ ¬ (P = P0 ∧ t = t0)) WV WC R' H (1001 ≤ R.length) := by
    rcases g2 with g2 | g2
    · rw [g2]; exact A1
    · rw [g2.2]; exact A2 g2.1
  refine ⟨S', En, vr, none, _, WV, WC, R', nS, nF, fb, fp, fi, tf, tb, ow, si, fo, lw, by rw [ho, g1]; rfl, MI_st h (fun q => ?_) A' (MX_reg hX (fun b i q1 q2 => g4 b i (by omega)) (g4 38 10 (by omega)) (fun i => by rw [g5]) (by rw [g5])) (cag_k (cag_mk h.2.2.1 hk) (fun b i q1 q2 => g4 b i (by omega)) (fun b i q1 q2 => by rw [g5])) g3 h.2.2.2.2.2.2.1.1 (fun P j' k x x' γ r q q' => ?_) (mrs_k h.2.2.2.2.2.2.2.2.1 ((g4 38 3 (by omega)).trans (hk.1 38 3 (by omega) (by omega))) (by rw [g5]; exact hk.2.1 38 4 (by omega))) h.2.2.2.2.2.2.2.2.2, fun _ q => q, fun _ _ _ q => q, fun P t q => .inl (q.imp (fun q => q.1) id), fun P t q => .inl q.1, .inl (slp_no h.1.2.1 hA), id, rfl, fun _ _ _ _ q => .inl q, fun P t q => ?_⟩
  · rcases g2 with g2 | g2
    · rw [g2, List.length_append]
      omega
    · rw [g2.2]
      exact q
  · rcases g2 with g2 | g2
    · rw [g2] at q
      rcases List.mem_append.mp q with q | q
      · exact q
      · have q := List.mem_singleton.mp q
        have e1 : k + 1 = 0 := congrArg (fun u : TEv => u.2.2) q
        omega
    · rw [g2.2] at q
      exact q
  · rcases g2 with g2 | g2
    · rw [g2] at q
      rcases List.mem_append.mp q with q | q
      · exact .inl q
      · have q := List.mem_singleton.mp q
        cases q
        refine .inr (fun x x' γ r a a' q3 q4 q5 q6 q7 => ?_)
        obtain ⟨b, b', u, u', γu, ru, v, d1, d2, d3, d4, d5, d6⟩ := h.1.2.1.2.2.2.2.2.2.2.2 P0 t0 x x' γ r hA q3
        rw [q4] at d1
        rw [q5] at d2
        cases d1
        cases d2
        exact ⟨u, u', γu, ru, v, d5, d6⟩
    · rw [g2.2] at q
      exact .inl q
/-- a use -/
theorem fv_use (hfu : 600000 ≤ fu) (X : XB K pl V y e N M L n ρ τ G sl tO sO kO crt f W ν) (hq0 : q0 ∈ (ftP y).map Prod.fst) (h : MI K V y e N L G sl tO sO kO crt q0 ar S En cv vr none Aw WV WC R H nS nF fb fp fi tf tb ow si fo lw) (hX : MX V y e N L sl tO sO kO S2 nS nF fb fp fi tf tb ow si fo lw cv vr (fun D => cv D (crt (hdR D / 4))) (fun P t => Aw P t ∧ ¬ (P = P0 ∧ t = t0)) WV (fun D P t => ∃ t', WC D t' P t)) (hk : MK S S2) (hA : Aw P0 t0) (hz : NdA y P0 t0 (.tag 3 (.tag t0 .nil), γ, r)) : FVo K V y e N L G sl tO sO kO crt q0 ar ((f_X5_lookUp fu (nI (fi (fpt y P0))) (nI (N t0)) S2).bind (fun q => some ((), q.2))) En cv vr Aw WV WC R H P0 t0 nS nF fb fp tf tb := by
  obtain ⟨z1, z2, z3, z4⟩ := id hz
  have hEn : En P0 := (h.1.2.1.2.2.2.2.1 P0 t0 (.inl hA)).1
  have hOP := h.2.2.2.2.1 P0 hEn
  have hA2 := cag_mk h.2.2.1 hk
  obtain ⟨-, b, f1, f2⟩ := cn_P X.1 _ z1
  obtain ⟨r0, u1, u2, u3⟩ := use_up X z1 z2 hOP.1 f1
  obtain ⟨F, hF⟩ : ∃ F, F = fpt y (upF y r0 P0) := ⟨_, rfl⟩
  rw [← hF] at u2 u3
  have hEu := up_En h.1.1 P0 hEn u1
  have hOPu := h.2.2.2.2.1 _ hEu
  rw [OP, ← hF] at hOPu
  obtain ⟨i1, i2⟩ := it_up P0 u1
  rw [← hF] at i2
  have hk0 := (op_tk X.1 X.2.1 hOP z1 z2 z4).1
  rw [hOP.2.2.2] at hk0
  have hk0 : TkF N L e tO (fpt y P0) t0 := hk0
  have w0 := tk_sl X.1 X.2.1 hk0
  have htp := tp_P X.1 (upF y r0 P0) hOPu.1
  rw [← hF] at htp
  have hkb := (tk_v X.1 X.2.1 X.2.2.1.2.2.2.2.1 u3 htp.2.1 htp.2.2).1
  have wb := tk_sl X.1 X.2.1 hkb
  have d1 := dp_P X.1 P0 hOP.1
  have d2 := dp_P X.1 (upF y r0 P0) hOPu.1
  rw [← hF] at d2
  have hτ := X.1.2.2.2.2.2.2.1
  have hl := x_len hX
  have e51 : S2.1 51 (N t0) = nI (L (hdR (fpt y P0) / 4)) := (hA2 17 (N t0) (by omega) (by omega)).1.trans w0.2.2.2.1
  have e46 : S2.1 46 (N t0) = nI (N b) := (hA2 12 (N t0) (by omega) (by omega)).1.trans f2
  have e51b : S2.1 51 (N b) = nI (L (hdR F / 4)) := (hA2 17 (N b) (by omega) (by omega)).1.trans wb.2.2.2.1
  have e63 : S2.1 63 (L (hdR (fpt y P0) / 4)) = nI (dpF y P0) := (hA2 29 _ (by omega) (by omega)).1.trans d1.1
  have e63b : S2.1 63 (L (hdR F / 4)) = nI (dpF y (upF y r0 P0)) := (hA2 29 _ (by omega) (by omega)).1.trans d2.1
  have hout : f_X2_outward fu (nI (fi (fpt y P0))) (nI (dpF y P0 - dpF y (upF y r0 P0))) S2 = some (nI (fi F), S2) := by
    have := k_out (S := S2) (fu := fu) (z1 := nI (fi (fpt y P0))) (D := dpF y P0 - dpF y (upF y r0 P0)) h.2.2.2.2.2.1 h.2.2.2.2.1 hq0 (fun f hf => (x_frd hX hf).2.1) (by omega) (by omega) (by omega) (dpF y P0 - dpF y (upF y r0 P0)) fu (fpt y P0) (Nat.le_refl _) (by omega) hOP.2.2.1 hOP.2.2.2 (fp_fp P0) (by rw [dp_fp]; omega)
    rw [i2, Nat.sub_self] at this
    exact this
  obtain ⟨v1, v2, v3, v4⟩ := x_rv X.1 X.2.1 X.2.2.1.2.2.2.2.1 hX hOPu.2.2.1 (by rw [hOPu.2.2.2]; exact u3)
  rw [hOPu.2.2.2] at v1 v3 v4
  have hsl := x_slot X.1 X.2.1 hA2 hX hOPu.2.2.1 (by rw [hOPu.2.2.2]; exact v1)
  have n1 : in_b (nI (N t0)) 512 = true := mI_in (a := N t0) (n := 512) (by omega) (by omega)
  have n2 : in_b (nI (L (hdR (fpt y P0) / 4))) 512 = true := mI_in (a := L (hdR (fpt y P0) / 4)) (n := 512) (by omega) (by omega)
  have n3 : in_b (nI (N b)) 512 = true := mI_in (a := N b) (n := 512) (by omega) (by omega)
  have n4 : in_b (nI (L (hdR F / 4))) 512 = true := mI_in (a := L (hdR F / 4)) (n := 512) (by omega) (by omega)
  have n5 : in_b (nI (fb (fi F) + sO (N b))) (S2.2.2 65) = true := mI_in (a := fb (fi F) + sO (N b)) (n := S2.2.2 65) (by omega) (by omega)
  have n6 : in_b (nI (fb (fi F) + sO (N b))) (S2.2.2 66) = true := mI_in (a := fb (fi F) + sO (N b)) (n := S2.2.2 66) (by omega) (by omega)
  have c5 : (nI (fb (fi F) + sO (N b))).toNatClampNeg = fb (fi F) + sO (N b) := nI_clamp (by omega)
  have hlk : f_X5_lookUp fu (nI (fi (fpt y P0))) (nI (N t0)) S2 = (if S2.1 65 (fb (fi F) + sO (N b)) ≠ 0 then ((f_X5_send (nI (fi (fpt y P0))) (nI (N t0)) (S2.1 65 (fb (fi F) + sO (N b))) (S2.2.1 66 (fb (fi F) + sO (N b))) S2).bind (fun q => some ((), q.2))) else ((f_X5_await (nI (fb (fi F) + sO (N b))) (nI (fi (fpt y P0))) (nI (N t0)) S2).bind (fun q => some ((), q.2)))) := by
    unfold f_X5_lookUp
    rw [n1, nI_clamp (show N t0 < 2 ^ 31 by omega), e51, e46, n2, n3, nI_clamp (show N b < 2 ^ 31 by omega), e51b, n4, nI_clamp (show L (hdR (fpt y P0) / 4) < 2 ^ 31 by omega), nI_clamp (show L (hdR F / 4) < 2 ^ 31 by omega), e63, e63b, nI_sub (by omega), hout]
    simp only [gd_t, Option.bind_some]
    rw [hsl]
    simp only [Option.bind_some]
    rw [n5, n6, c5]
    simp only [gd_t]
  cases hv : vr F b with
  | none =>
    rw [hv] at v3
    have A' := A_wait X.2.2.1 h.1 hA hz f1 u2 hv
    obtain ⟨S', g1, g2, g3⟩ := x_awv X.1 X.2.1 X.2.2.1.2.2.2.2.1 hX (f := fi F) (b := b) hOP ⟨_, hz⟩ (fun q => by
      refine slp_no h.1.2.1 hA (q.imp id (Or.imp id (fun ⟨D, t', q⟩ => ⟨D, t', q⟩)))) hOPu.2.2.1 (by rw [hOPu.2.2.2]; exact u3) (by rw [hOPu.2.2.2]; exact hv)
    rw [hOPu.2.2.2] at g2
    have hk3 := MK_t hk g3
    refine ⟨S', En, vr, none, _, _, WC, R, nS, nF, fb, fp, fi, tf, tb, ow, si, fo, lw, ?_, MI_st h id A' g2 (cag_mk h.2.2.1 hk3) (mg_mk h.2.2.2.1 hk3) h.2.2.2.2.2.2.1.1 (fun P j' k x x' γ r q _ => q) (mrs_k h.2.2.2.2.2.2.2.2.1 (hk3.1 38 3 (by omega) (by omega)) (hk3.2.1 38 4 (by omega))) ⟨h.2.2.2.2.2.2.2.2.2.1, fun F' b' P t q => q.elim (h.2.2.2.2.2.2.2.2.2.2 F' b' P t) (fun q => by rw [q.1]; exact hOPu.2.2)⟩, fun _ q => q, fun _ _ _ q => q, fun P t q => ?_, fun P t q => .inl q.1, .inr ⟨F, b, .inr ⟨rfl, rfl, rfl, rfl⟩, hv⟩, id, rfl, fun _ _ _ _ q => .inl (.inl q), fun _ _ q => .inl q⟩
    · rw [hlk, if_neg (fun q => q v3), g1]
      rfl
    · rcases q with q | ⟨F', b', q | ⟨-, -, q1, q2⟩⟩ | q
      · exact .inl (.inl q.1)
      · exact .inl (.inr (.inl ⟨F', b', q⟩))
      · rw [q1, q2]
        exact .inl (.inl hA)
      · exact .inl (.inr (.inr q))
  | some a =>
    rw [hv] at v3
    have A' := A_send X.2.2.1 h.1 hA hz (.inr (.inr ⟨t0, b, F, rfl, f1, u2, hv⟩))
    refine fv_send h hX hk hA (a := a) (w := S2.2.1 66 (fb (fi F) + sO (N b))) v3.2.2 (v4 a hv) A' ?_
    have hne : S2.1 65 (fb (fi F) + sO (N b)) ≠ 0 := fun q' => by
      have k31 := v3.1
      rw [q'] at k31
      have := (nI_eq (a := 0) (b := a.1) (by omega) (by have := v3.2.1; omega)).mp k31
      have := v3.2.1
      omega
    rw [hlk, if_pos hne, v3.1]
    cases f_X5_send (nI (fi (fpt y P0))) (nI (N t0)) (nI a.1) (S2.2.1 66 (fb (fi F) + sO (N b))) S2 with
    | none => rfl
    | some q => rfl
end VIS
