/-! a token that moves, in the class: each who takes it -/
def CelV (y : TR) (cv : TPth → Nat → Option TVal) (P : TPth) (t : Nat) : Prop := ∀ x x' γ r a a', (.tag 10 (.tag t (.append x x')), γ, r) ∈ scP y → cv P (rtk x) = some a → cv P (rtk x') = some a' → erV a a' = none → ¬ badI a'.2.1 a.2.1 → ∃ q q' γ' r' v, (.tag 11 (.tag a.2.2.2 (.append q q')), γ', r') ∈ scP y ∧ cv ((4 * a.2.2.2, i64N a'.2.1) :: a.2.2.1) (rtk q') = some v
def FMo (K : Nat → Nat) (V : Nat → Int64) (y : TR) (e : Nat) (N L : Nat → Nat) (G : im_S) (sl tO sO kO crt : Nat → Nat) (q0 : Nat) (ar : Nat → Int64) (o : Option (Unit × im_S)) (En : TPth → Prop) (cv vr : TPth → Nat → Option TVal) (P0 : TPth) (t0 : Nat) (a : TVal) (Aw : TPth → Nat → Prop) (WV WC : TPth → Nat → TPth → Nat → Prop) (R H : List TEv) (nS nF : Nat) (fb : Nat → Nat) (fp : Nat → TPth) (fi : TPth → Nat) (tf : TPth → Nat → Nat) (tb : TPth → Nat → Option Nat) (ow si fo : Nat → Int32) (lw : Nat → Int64) : Prop :=
  ∃ (S' : im_S) (vr' : TPth → Nat → Option TVal) (mv' : Option (TPth × Nat × TVal)) (R' : List TEv) (NW : TPth → Nat → TPth → Nat → Prop), o = some ((), S') ∧ MI K V y e N L G sl tO sO kO crt q0 ar S' En (cvU cv P0 t0 a) vr' mv' (AwN y Aw (fun _ _ => False) WV WC (cvU cv P0 t0 a) vr' (fun _ => False)) (WVN WV vr') (WCN WC NW (cvU cv P0 t0 a)) R' H nS nF fb fp fi tf tb ow si fo lw ∧ (∀ F b v, vr F b = some v → vr' F b = some v) ∧ (∀ D t' P t, NW D t' P t → ∃ x x' γ r, (.tag 10 (.tag t (.append x x')), γ, r) ∈ scP y ∧ (cv P (rtk x) = none ∨ cv P (rtk x') = none)) ∧ ∀ P t, (P, t, 0) ∈ R' → (P, t, 0) ∈ R ∨ CelV y (cvU cv P0 t0 a) P t
section MV2
theorem cel_no {K : Nat → Nat} {y : TR} {e : Nat} (w : PW K y 0 e) {z : TR × List Nat × Nat} (hz : z ∈ scP y) (hk : ∀ u, z.1 ≠ .tag 10 u) {cv : TPth → Nat → Option TVal} {P : TPth} : CelV y cv P (otk z.1) := fun x x' γ r a a' q => by
  have e1 := (ou_P w).2 z hz (.tag 10 (.tag (otk z.1) (.append x x')), γ, r) q rfl
  exact absurd (congrArg Prod.fst e1) (hk _)
variable {K pl : Nat → Nat} {V : Nat → Int64} {y : TR} {e : Nat} {N M L : Nat → Nat} {n ρ τ : Nat} {G : im_S} {sl tO sO kO crt : Nat → Nat} {f : Nat} {W : Nat → Int32 × Int32 × Int32} {ν : Nat → Nat} {q0 : Nat} {ar : Nat → Int64} {S S1 : im_S} {En : TPth → Prop} {cv vr vr' : TPth → Nat → Option TVal} {mv' : Option (TPth × Nat × TVal)} {Aw : TPth → Nat → Prop} {WV WC : TPth → Nat → TPth → Nat → Prop} {R H R' : List TEv} {nS nF fu : Nat} {fb : Nat → Nat} {fp : Nat → TPth} {fi : TPth → Nat} {tf : TPth → Nat → Nat} {tb : TPth → Nat → Option Nat} {ow si fo : Nat → Int32} {lw : Nat → Int64} {P0 P1 : TPth} {t0 : Nat} {a : TVal} {z1 : TR × List Nat × Nat} {j r : Nat} {γ : List Nat} {x x' x'' fs c ns g as : TR}
/-- the role of a node, and to whom it belongs -/
theorem m1_rl (hA : CAg G S) (h1 : M1 V y e N L G sl tO sO kO crt q0 S1 P0 t0 a cv vr Aw WV WC R nS nF fb fp fi tf tb ow si fo lw) {k : Nat} (h : rl G N t0 (nI k) j) : S1.1 43 (N t0) = nI k ∧ S.1 44 (N t0) = nI (N j) := by
  obtain ⟨-, h2, h3⟩ := h
  exact ⟨(h1.2.1 9 (N t0) (by omega) (by omega)).1.trans h2, (hA 10 (N t0) (by omega) (by omega)).1.trans h3⟩
theorem fm_pass (X : XB K pl V y e N M L n ρ τ G sl tO sO kO crt f W ν) (h : MI K V y e N L G sl tO sO kO crt q0 ar S En cv vr (some (P0, t0, a)) Aw WV WC R H nS nF fb fp fi tf tb ow si fo lw) (h1 : M1 V y e N L G sl tO sO kO crt q0 S1 P0 t0 a cv vr Aw WV WC R nS nF fb fp fi tf tb ow si fo lw) (hz : z1 ∈ scP y) (hr : z1.2.2 = hdR P1) (hE : En P1) (hI : Inp V y P1 z1 P0 t0)
    (A' : AB K V y q0 ar En (cvU cv P0 t0 a) vr (some (P1, j, a)) (AwN y Aw (fun _ _ => False) WV WC (cvU cv P0 t0 a) vr (fun _ => False)) (WVN WV vr) (WCN WC (fun _ _ _ _ => False) (cvU cv P0 t0 a)) R H (1001 ≤ R.length)) {o : Option (Unit × im_S)} (ho : o = (f_X5_send (nI (fi (fpt y P1))) (nI (N j)) (S1.1 38 14) (S1.2.1 38 15) S1).bind (fun q => some ((), q.2))) :
    FMo K V y e N L G sl tO sO kO crt q0 ar o En cv vr P0 t0 a Aw WV WC R H nS nF fb fp fi tf tb ow si fo lw := by
  obtain ⟨S', g1, g2⟩ := MV_pass X h h1 hz hr hE hI A'
  exact ⟨S', vr, _, R, fun _ _ _ _ => False, by rw [ho, g1]; rfl, g2, fun _ _ _ q => q, fun _ _ _ _ q => q.elim, fun _ _ q => .inl q⟩
theorem fm_nil (X : XB K pl V y e N M L n ρ τ G sl tO sO kO crt f W ν) (h : MI K V y e N L G sl tO sO kO crt q0 ar S En cv vr (some (P0, t0, a)) Aw WV WC R H nS nF fb fp fi tf tb ow si fo lw) (h1 : M1 V y e N L G sl tO sO kO crt q0 S1 P0 t0 a cv vr Aw WV WC R nS nF fb fp fi tf tb ow si fo lw) (hz : z1 ∈ scP y) (hr : z1.2.2 = hdR P1) (hE : En P1) (hI : Inp V y P1 z1 P0 t0)
    (A' : AB K V y q0 ar En (cvU cv P0 t0 a) vr none (AwN y Aw (fun _ _ => False) WV WC (cvU cv P0 t0 a) vr (fun _ => False)) (WVN WV vr) (WCN WC (fun _ _ _ _ => False) (cvU cv P0 t0 a)) R H (1001 ≤ R.length)) {o : Option (Unit × im_S)} (ho : o = some ((), S1)) :
    FMo K V y e N L G sl tO sO kO crt q0 ar o En cv vr P0 t0 a Aw WV WC R H nS nF fb fp fi tf tb ow si fo lw := ⟨S1, vr, none, R, fun _ _ _ _ => False, ho, MV_nil X h h1 hz hr hE hI A', fun _ _ _ q => q, fun _ _ _ _ q => q.elim, fun _ _ q => .inl q⟩
theorem fm_ev (X : XB K pl V y e N M L n ρ τ G sl tO sO kO crt f W ν) (h : MI K V y e N L G sl tO sO kO crt q0 ar S En cv vr (some (P0, t0, a)) Aw WV WC R H nS nF fb fp fi tf tb ow si fo lw) (h1 : M1 V y e N L G sl tO sO kO crt q0 S1 P0 t0 a cv vr Aw WV WC R nS nF fb fp fi tf tb ow si fo lw) (hz : z1 ∈ scP y) (hr : z1.2.2 = hdR P1) (hE : En P1) (hI : Inp V y P1 z1 P0 t0) {ev : TEv} {x1 x2 : Int32} (hc : x1 * 512 + x2 = nI (evc y N fi ev)) (hv : tbK z1.1 = true → ev.2.2 = 0) (hv2 : ev.2.1 = otk z1.1) (h10 : CelV y (cvU cv P0 t0 a) ev.1 ev.2.1)
    (A' : ∀ R', (R' = R ++ [ev] ∨ (1001 ≤ R.length ∧ R' = R)) → AB K V y q0 ar En (cvU cv P0 t0 a) vr none (AwN y Aw (fun _ _ => False) WV WC (cvU cv P0 t0 a) vr (fun _ => False)) (WVN WV vr) (WCN WC (fun _ _ _ _ => False) (cvU cv P0 t0 a)) R' H (1001 ≤ R.length)) {o : Option (Unit × im_S)} (ho : o = (f_X5_makeReady x1 x2 S1).bind (fun q => some ((), q.2))) :
    FMo K V y e N L G sl tO sO kO crt q0 ar o En cv vr P0 t0 a Aw WV WC R H nS nF fb fp fi tf tb ow si fo lw := by
  obtain ⟨S', R', g1, g2, g3⟩ := MV_ev X h h1 hz hr hE hI hc hv hv2 A'
  refine ⟨S', vr, none, R', fun _ _ _ _ => False, by rw [ho, g1]; rfl, g2, fun _ _ _ q => q, fun _ _ _ _ q => q.elim, fun P t q => ?_⟩
  rcases g3 with g3 | g3
  · rw [g3] at q
    rcases List.mem_append.mp q with q | q
    · exact .inl q
    · have q := List.mem_singleton.mp q
      rw [← q] at h10
      exact .inr h10
  · rw [g3.2] at q
    exact .inl q
theorem fm_var (hfu : 600000 ≤ fu) (X : XB K pl V y e N M L n ρ τ G sl tO sO kO crt f W ν) (h : MI K V y e N L G sl tO sO kO crt q0 ar S En cv vr (some (P0, t0, a)) Aw WV WC R H nS nF fb fp fi tf tb ow si fo lw) (h1 : M1 V y e N L G sl tO sO kO crt q0 S1 P0 t0 a cv vr Aw WV WC R nS nF fb fp fi tf tb ow si fo lw) (hz : z1 ∈ scP y) (hr : z1.2.2 = hdR P1) (hE : En P1) (hI : Inp V y P1 z1 P0 t0) {F0 : TPth} {b0 : Nat} (hf0 : fi F0 < nF) (hfp : fp (fi F0) = F0) (hv0 : VT V y F0 b0) (h0 : vr F0 b0 = none)
    (A' : ∀ vr', (∀ F b v, vr' F b = some v ↔ vr F b = some v ∨ (F = F0 ∧ b = b0 ∧ v = a)) → AB K V y q0 ar En (cvU cv P0 t0 a) vr' none (AwN y Aw (fun _ _ => False) WV WC (cvU cv P0 t0 a) vr' (fun _ => False)) (WVN WV vr') (WCN WC (fun _ _ _ _ => False) (cvU cv P0 t0 a)) R H (1001 ≤ R.length)) {o : Option (Unit × im_S)} (ho : o = (f_X5_settle fu (nI (fb (fi F0) + sO (N b0))) (S1.1 38 14) (S1.2.1 38 15) S1).bind (fun q => some ((), q.2))) :
    FMo K V y e N L G sl tO sO kO crt q0 ar o En cv vr P0 t0 a Aw WV WC R H nS nF fb fp fi tf tb ow si fo lw := by
  have h0' : vr (fp (fi F0)) b0 = none := by rw [hfp]; exact h0
  obtain ⟨S', vr', g1, g2, g3⟩ := MV_var hfu X h h1 hz hr hE hI hf0 (by rw [hfp]; exact hv0) h0' (fun vr' q => A' vr' (fun F b v => by rw [q F b v, hfp]))
  exact ⟨S', vr', none, R, fun _ _ _ _ => False, by rw [ho, g1]; rfl, g2, g3, fun _ _ _ _ q => q.elim, fun _ _ q => .inl q⟩
/-- handing a value in -/
theorem k_hin (C : CGd K pl V y e N M L n ρ τ G) (hS : SLy G n τ sl tO sO kO) (hA : CAg G S) {cv0 vr0 : TPth → Nat → Option TVal} {cc0 : TPth → Option TVal} {Aw0 : TPth → Nat → Prop} {WV0 : TPth → Nat → TPth → Nat → Prop} {WC0 : TPth → TPth → Nat → Prop} (h : MX V y e N L sl tO sO kO S nS nF fb fp fi tf tb ow si fo lw cv0 vr0 cc0 Aw0 WV0 WC0) {P : TPth} (hP : OP V y nF fp fi P) {xa : TR} {γa : List Nat} {ra : Nat} (hxa : (xa, γa, ra) ∈ scP y) (hra : ra = hdR P) {f1 b : Nat} (hf1 : f1 < nF) (hb : TkF N L e tO (fp f1) b) (ht : G.1 11 (N (rtk xa)) = nI (N b)) : (cv0 P (rtk xa) = none → f_X5_handIn fu (nI (fi (fpt y P))) (nI (N (rtk xa))) (nI f1) S = some ((), S)) ∧ ∀ v, cv0 P (rtk xa) = some v → f_X5_handIn fu (nI (fi (fpt y P))) (nI (N (rtk xa))) (nI f1) S = (f_X5_settle fu (nI (fb f1 + sO (N b))) (nI v.1) (S.2.1 66 (fb (fi (fpt y P)) + sO (N (rtk xa)))) S).bind (fun q => some ((), q.2)) := by
  obtain ⟨k1, k2, k3, -⟩ := x_rx C hS h hP hxa hra
  have hl := x_len h
  have w1 := tk_sl C hS k1
  have hsl : f_X5_slotOf (nI (fi (fpt y P))) (nI (N (rtk xa))) S = some (nI (fb (fi (fpt y P)) + sO (N (rtk xa))), S) := x_slot C hS hA h hP.2.2.1 k1
  have hin5 : in_b (nI (fb (fi (fpt y P)) + sO (N (rtk xa)))) (S.2.2 65) = true := mI_in (a := fb (fi (fpt y P)) + sO (N (rtk xa))) (n := S.2.2 65) (by omega) (by omega)
  have hin6 : in_b (nI (fb (fi (fpt y P)) + sO (N (rtk xa)))) (S.2.2 66) = true := mI_in (a := fb (fi (fpt y P)) + sO (N (rtk xa))) (n := S.2.2 66) (by omega) (by omega)
  have hcl : (nI (fb (fi (fpt y P)) + sO (N (rtk xa)))).toNatClampNeg = fb (fi (fpt y P)) + sO (N (rtk xa)) := nI_clamp (by omega)
  refine ⟨fun q => ?_, fun v q => ?_⟩
  · rw [q] at k3
    unfold f_X5_handIn
    rw [hsl]
    simp only [Option.bind_some]
    rw [hin5, hcl]
    simp only [gd_t]
    rw [if_pos (show S.1 65 (fb (fi (fpt y P)) + sO (N (rtk xa))) = 0 from k3)]
  · rw [q] at k3
    have hne : ¬ S.1 65 (fb (fi (fpt y P)) + sO (N (rtk xa))) = 0 := fun q' => by
      have k31 := k3.1
      rw [q'] at k31
      have := (nI_eq (a := 0) (b := v.1) (by omega) (by have := k3.2.1; omega)).mp k31
      have := k3.2.1
      omega
    have h45 : S.1 45 (N (rtk xa)) = nI (N b) := (hA 11 (N (rtk xa)) (by omega) (by omega)).1.trans ht
    unfold f_X5_handIn
    rw [hsl]
    simp only [Option.bind_some]
    rw [hin5, hcl]
    simp only [gd_t]
    rw [if_neg hne, mI_in (a := N (rtk xa)) (n := 512) (by omega) (by omega), nI_clamp (show N (rtk xa) < 2 ^ 31 by omega), h45, x_slot C hS hA h hf1 hb]
    simp only [gd_t, Option.bind_some]
    rw [hin5, hin6, k3.1]
    simp only [gd_t]
end MV2
