/-! memory and paths: where what lies -/
/-- a path whose frame is there -/
def OP (V : Nat → Int64) (y : TR) (nF : Nat) (fp : Nat → TPth) (fi : TPth → Nat) (P : TPth) : Prop := POk V y P ∧ Z0 y P ∧ fi (fpt y P) < nF ∧ fp (fi (fpt y P)) = fpt y P
/-- whose a slot is: (0, frame, offset) or (1, cell, 0) -/
def LY (V : Nat → Int64) (y : TR) (L sl : Nat → Nat) (nS nF : Nat) (fb : Nat → Nat) (fp : Nat → TPth) (fi : TPth → Nat) (tf : TPth → Nat → Nat) (tb : TPth → Nat → Option Nat) (sow : Nat → Nat × TPth × Nat) : Prop :=
  (∀ f, f < nF → fi (fp f) = f ∧ POk V y (fp f) ∧ Z0 y (fp f) ∧ ifr y (hdR (fp f)) ∧ ∀ o, o < sl (L (hdR (fp f) / 4)) → fb f + o < nS ∧ sow (fb f + o) = (0, fp f, o)) ∧
  ∀ P t n, tb P t = some n → (n ≤ 20 ∧ tf P t ≤ nS) ∧ ∀ i, i < n → tf P t + i < nS ∧ sow (tf P t + i) = (1, (4 * t, i) :: P, 0)
def MX (V : Nat → Int64) (y : TR) (e : Nat) (N L sl tO sO kO : Nat → Nat) (S : im_S) (nS nF : Nat) (fb : Nat → Nat) (fp : Nat → TPth) (fi : TPth → Nat) (tf : TPth → Nat → Nat) (tb : TPth → Nat → Option Nat) (ow si fo : Nat → Int32) (lw : Nat → Int64) (cv vr : TPth → Nat → Option TVal) (cc : TPth → Option TVal) (Aw : TPth → Nat → Prop) (WV : TPth → Nat → TPth → Nat → Prop) (WC : TPth → TPth → Nat → Prop) : Prop :=
  ∃ (ct : Nat → Option TVal) (isL : Nat → Prop) (aw : List Nat) (wa : Nat → List Nat) (sow : Nat → Nat × TPth × Nat),
    MS S nS nF fb ow si fo ct tf isL lw aw wa ∧ LkI (fun c => fb (c / 512) + sO (c % 512)) nS ct isL aw wa ∧ LY V y L sl nS nF fb fp fi tf tb sow ∧
    (∀ s, isL s ↔ ∃ f t, f < nF ∧ TkF N L e tO (fp f) t ∧ wk (kO (N t)) = 2 ∧ s = fb f + sO (N t) + 1) ∧
    ((∀ P z, OP V y nF fp fi P → z ∈ scP y → z.2.2 = hdR P → rtk z.1 = otk z.1 → ct (fb (fi (fpt y P)) + sO (N (otk z.1))) = cv P (otk z.1)) ∧ (∀ f b, f < nF → VT V y (fp f) b → ct (fb f + sO (N b)) = vr (fp f) b) ∧ ∀ P t n i, tb P t = some n → i < n → ct (tf P t + i) = cc ((4 * t, i) :: P)) ∧
    (∀ s a, ct s = some a → a.1 = 3 → ∃ n, tb a.2.2.1 a.2.2.2 = some n ∧ a.2.1 = Int64.ofNat n) ∧
    (∀ c, c ∈ aw ↔ ∃ P t, Aw P t ∧ c = fi (fpt y P) * 512 + N t) ∧ (∀ f b c, f < nF → VT V y (fp f) b → ct (fb f + sO (N b)) = none → (c ∈ wa (fb f + sO (N b)) ↔ ∃ P t, WV (fp f) b P t ∧ c = fi (fpt y P) * 512 + N t)) ∧ (∀ P t n i c, tb P t = some n → i < n → ct (tf P t + i) = none → (c ∈ wa (tf P t + i) ↔ ∃ P' t', WC ((4 * t, i) :: P) P' t' ∧ c = fi (fpt y P') * 512 + N t')) ∧
    (∀ s, s < nS → ct s = none → wa s ≠ [] → (∃ f b, f < nF ∧ VT V y (fp f) b ∧ s = fb f + sO (N b)) ∨ ∃ P t n i, tb P t = some n ∧ i < n ∧ s = tf P t + i) ∧
    ∀ P t, (Aw P t ∨ (∃ F b, WV F b P t) ∨ ∃ C, WC C P t) → OP V y nF fp fi P ∧ ∃ z, NdA y P t z
section MXS
variable {K pl : Nat → Nat} {V : Nat → Int64} {y : TR} {e : Nat} {N M L : Nat → Nat} {n ρ τ : Nat} {G : im_S} {sl tO sO kO : Nat → Nat} {S : im_S} {nS nF fu : Nat} {fb : Nat → Nat} {fp : Nat → TPth} {fi : TPth → Nat} {tf : TPth → Nat → Nat} {tb : TPth → Nat → Option Nat} {sow : Nat → Nat × TPth × Nat} {ow si fo : Nat → Int32} {lw : Nat → Int64} {cv vr : TPth → Nat → Option TVal} {cc : TPth → Option TVal} {Aw : TPth → Nat → Prop} {WV : TPth → Nat → TPth → Nat → Prop} {WC : TPth → TPth → Nat → Prop}
/-- slots in frames -/
theorem ly_ff (C : CGd K pl V y e N M L n ρ τ G) (hS : SLy G n τ sl tO sO kO) (h : LY V y L sl nS nF fb fp fi tf tb sow) {f f' t t' d d' : Nat} (hf : f < nF) (hf' : f' < nF) (ht : TkF N L e tO (fp f) t) (ht' : TkF N L e tO (fp f') t') (hd : d < wk (kO (N t))) (hd' : d' < wk (kO (N t'))) (q : fb f + (sO (N t) + d) = fb f' + (sO (N t') + d')) : f = f' ∧ t = t' ∧ d = d' := by
  obtain ⟨a1, -, -, -, a5⟩ := h.1 f hf
  obtain ⟨b1, -, -, -, b5⟩ := h.1 f' hf'
  have w1 := (tk_sl C hS ht).1
  have w2 := (tk_sl C hS ht').1
  have e1 := (a5 (sO (N t) + d) (by omega)).2
  have e2 := (b5 (sO (N t') + d') (by omega)).2
  rw [q, e2] at e1
  have e3 : fp f' = fp f := congrArg (fun u : Nat × TPth × Nat => u.2.1) e1
  have e4 : sO (N t') + d' = sO (N t) + d := congrArg (fun u : Nat × TPth × Nat => u.2.2) e1
  have e5 : f = f' := by rw [← a1, ← b1, e3]
  subst e5
  exact ⟨rfl, tk_inj C hS ht ht' hd hd' e4.symm⟩
theorem ly_fc (C : CGd K pl V y e N M L n ρ τ G) (hS : SLy G n τ sl tO sO kO) (h : LY V y L sl nS nF fb fp fi tf tb sow) {f t d : Nat} (hf : f < nF) (ht : TkF N L e tO (fp f) t) (hd : d < wk (kO (N t))) {P : TPth} {t' n' i : Nat} (hb : tb P t' = some n') (hi : i < n') : fb f + (sO (N t) + d) ≠ tf P t' + i := fun q => by
  obtain ⟨-, -, -, -, a5⟩ := h.1 f hf
  have w1 := (tk_sl C hS ht).1
  have e1 := (a5 (sO (N t) + d) (by omega)).2
  have e2 := ((h.2 P t' n' hb).2 i hi).2
  rw [q, e2] at e1
  have : (1 : Nat) = 0 := congrArg (fun u : Nat × TPth × Nat => u.1) e1
  omega
theorem ly_cc (h : LY V y L sl nS nF fb fp fi tf tb sow) {P P' : TPth} {t t' m m' i i' : Nat} (hb : tb P t = some m) (hi : i < m) (hb' : tb P' t' = some m') (hi' : i' < m') (q : tf P t + i = tf P' t' + i') : P = P' ∧ t = t' ∧ i = i' := by
  have e1 := ((h.2 P t m hb).2 i hi).2
  have e2 := ((h.2 P' t' m' hb').2 i' hi').2
  rw [q, e2] at e1
  have e3 : (4 * t', i') :: P' = (4 * t, i) :: P := congrArg (fun u : Nat × TPth × Nat => u.2.1) e1
  have e4 : 4 * t' = 4 * t := congrArg Prod.fst (List.cons.inj e3).1
  exact ⟨(List.cons.inj e3).2.symm, by omega, (congrArg Prod.snd (List.cons.inj e3).1).symm⟩
theorem op_tk (C : CGd K pl V y e N M L n ρ τ G) (hS : SLy G n τ sl tO sO kO) {P : TPth} (h : OP V y nF fp fi P) {z : TR × List Nat × Nat} (hz : z ∈ scP y) (hr : z.2.2 = hdR P) (hb : rtk z.1 = otk z.1) : TkF N L e tO (fp (fi (fpt y P))) (otk z.1) ∧ kO (N (otk z.1)) = kdN z.1 := by
  rw [h.2.2.2]
  exact tk_n C hS hz hb h.1 hr
theorem wk_pos (c : Nat) : 0 < wk c := (wk_r c).1
/-- two nodes, two slots -/
theorem ly_nn (C : CGd K pl V y e N M L n ρ τ G) (hS : SLy G n τ sl tO sO kO) (h : LY V y L sl nS nF fb fp fi tf tb sow) {P P' : TPth} (hP : OP V y nF fp fi P) (hP' : OP V y nF fp fi P') {z z' : TR × List Nat × Nat} (hz : z ∈ scP y) (hr : z.2.2 = hdR P) (hb : rtk z.1 = otk z.1) (hz' : z' ∈ scP y) (hr' : z'.2.2 = hdR P') (hb' : rtk z'.1 = otk z'.1) (q : fb (fi (fpt y P)) + sO (N (otk z.1)) = fb (fi (fpt y P')) + sO (N (otk z'.1))) : P = P' ∧ otk z.1 = otk z'.1 := by
  obtain ⟨e1, e2, -⟩ := ly_ff C hS h hP.2.2.1 hP'.2.2.1 (op_tk C hS hP hz hr hb).1 (op_tk C hS hP' hz' hr' hb').1 (wk_pos _) (wk_pos _) (show fb (fi (fpt y P)) + (sO (N (otk z.1)) + 0) = fb (fi (fpt y P')) + (sO (N (otk z'.1)) + 0) from q)
  have hz2 := (ou_P C.1).2 z hz z' hz' e2
  refine ⟨P_uq (V := V) C.1 P P' hP.1 hP'.1 hP.2.1 hP'.2.1 ?_ ?_, e2⟩
  · rw [← hP.2.2.2, ← hP'.2.2.2, e1]
  · rw [← hr, ← hr', hz2]
theorem fp_op (h : LY V y L sl nS nF fb fp fi tf tb sow) {f : Nat} (hf : f < nF) : fpt y (fp f) = fp f ∧ OP V y nF fp fi (fp f) := by
  obtain ⟨a1, a2, a3, a4, -⟩ := h.1 f hf
  have e1 : fpt y (fp f) = fp f := by
    cases hc : fp f with
    | nil => rw [hc] at a2; exact a2.elim
    | cons c Q => rw [hc] at a4; exact fpt_y a4
  refine ⟨e1, a2, a3, ?_, ?_⟩
  · rw [e1, a1]; exact hf
  · rw [e1, a1]
theorem vt_tk (C : CGd K pl V y e N M L n ρ τ G) (hS : SLy G n τ sl tO sO kO) (hL : ∀ j fs c ns g γ r, (.tag 7 (.tag j (.append fs (.append c (.append ns g)))), γ, r) ∈ scP y → LL fs ∧ LL ns) (h : LY V y L sl nS nF fb fp fi tf tb sow) {f b : Nat} (hf : f < nF) (hb : VT V y (fp f) b) : TkF N L e tO (fp f) b ∧ kO (N b) = 3 := by
  obtain ⟨a1, a2, a3, a4, -⟩ := h.1 f hf
  exact tk_v C hS hL hb a2 a4
theorem ly_nv (C : CGd K pl V y e N M L n ρ τ G) (hS : SLy G n τ sl tO sO kO) (hL : ∀ j fs c ns g γ r, (.tag 7 (.tag j (.append fs (.append c (.append ns g)))), γ, r) ∈ scP y → LL fs ∧ LL ns) (h : LY V y L sl nS nF fb fp fi tf tb sow) {P : TPth} (hP : OP V y nF fp fi P) {z : TR × List Nat × Nat} (hz : z ∈ scP y) (hr : z.2.2 = hdR P) (hb : rtk z.1 = otk z.1) {f b : Nat} (hf : f < nF) (hv : VT V y (fp f) b) : fb (fi (fpt y P)) + sO (N (otk z.1)) ≠ fb f + sO (N b) := fun q => by
  obtain ⟨-, e2, -⟩ := ly_ff C hS h hP.2.2.1 hf (op_tk C hS hP hz hr hb).1 (vt_tk C hS hL h hf hv).1 (wk_pos _) (wk_pos _) (show fb (fi (fpt y P)) + (sO (N (otk z.1)) + 0) = fb f + (sO (N b) + 0) from q)
  exact VT_no C hL hv hz hb e2
theorem ly_vv (C : CGd K pl V y e N M L n ρ τ G) (hS : SLy G n τ sl tO sO kO) (hL : ∀ j fs c ns g γ r, (.tag 7 (.tag j (.append fs (.append c (.append ns g)))), γ, r) ∈ scP y → LL fs ∧ LL ns) (h : LY V y L sl nS nF fb fp fi tf tb sow) {f b f' b' : Nat} (hf : f < nF) (hv : VT V y (fp f) b) (hf' : f' < nF) (hv' : VT V y (fp f') b') (q : fb f + sO (N b) = fb f' + sO (N b')) : f = f' ∧ b = b' := by
  obtain ⟨e1, e2, -⟩ := ly_ff C hS h hf hf' (vt_tk C hS hL h hf hv).1 (vt_tk C hS hL h hf' hv').1 (wk_pos _) (wk_pos _) (show fb f + (sO (N b) + 0) = fb f' + (sO (N b') + 0) from q)
  exact ⟨e1, e2⟩
/-- codes -/
theorem cd_inj (C : CGd K pl V y e N M L n ρ τ G) (hS : SLy G n τ sl tO sO kO) {P P' : TPth} (hP : OP V y nF fp fi P) (hP' : OP V y nF fp fi P') {t t' : Nat} (hz : ∃ z, NdA y P t z) (hz' : ∃ z, NdA y P' t' z) (q : fi (fpt y P) * 512 + N t = fi (fpt y P') * 512 + N t') : P = P' ∧ t = t' := by
  obtain ⟨z, z1, z2, z3, z4⟩ := hz
  obtain ⟨z', z1', z2', z3', z4'⟩ := hz'
  obtain ⟨k1, -⟩ := op_tk C hS hP z1 z2 (z4.trans z3.symm)
  obtain ⟨k1', -⟩ := op_tk C hS hP' z1' z2' (z4'.trans z3'.symm)
  rw [z3] at k1
  rw [z3'] at k1'
  have b1 := (tk_sl C hS k1).2.1
  have b2 := (tk_sl C hS k1').2.1
  have e1 : fi (fpt y P) = fi (fpt y P') := by omega
  have e2 : N t = N t' := by omega
  have e3 := Nt_inj C.2.1 k1.1 k1'.1 k1.2.1 k1'.2.1 e2
  subst e3
  have hz2 := (ou_P C.1).2 z z1 z' z1' (z3.trans z3'.symm)
  refine ⟨P_uq (V := V) C.1 P P' hP.1 hP'.1 hP.2.1 hP'.2.1 ?_ ?_, rfl⟩
  · rw [← hP.2.2.2, ← hP'.2.2.2, e1]
  · rw [← z2, ← z2', hz2]
theorem cd_g (C : CGd K pl V y e N M L n ρ τ G) (hS : SLy G n τ sl tO sO kO) (h : LY V y L sl nS nF fb fp fi tf tb sow) {P : TPth} (hP : OP V y nF fp fi P) {t : Nat} (hz : ∃ z, NdA y P t z) : (fi (fpt y P) * 512 + N t) / 512 = fi (fpt y P) ∧ (fi (fpt y P) * 512 + N t) % 512 = N t ∧ fb (fi (fpt y P)) + sO (N t) < nS ∧ N t < 500 := by
  obtain ⟨z, z1, z2, z3, z4⟩ := hz
  obtain ⟨k1, -⟩ := op_tk C hS hP z1 z2 (z4.trans z3.symm)
  rw [z3] at k1
  have b1 := tk_sl C hS k1
  have w1 := wk_pos (kO (N t))
  refine ⟨by omega, by omega, ?_, b1.2.1⟩
  exact ((h.1 _ hP.2.2.1).2.2.2.2 (sO (N t)) (by omega)).1
/-- codes of nodes have slots of their own -/
theorem cd_gi (C : CGd K pl V y e N M L n ρ τ G) (hS : SLy G n τ sl tO sO kO) (h : LY V y L sl nS nF fb fp fi tf tb sow) {P P' : TPth} (hP : OP V y nF fp fi P) (hP' : OP V y nF fp fi P') {t t' : Nat} (hz : ∃ z, NdA y P t z) (hz' : ∃ z, NdA y P' t' z) (q : fb ((fi (fpt y P) * 512 + N t) / 512) + sO ((fi (fpt y P) * 512 + N t) % 512) = fb ((fi (fpt y P') * 512 + N t') / 512) + sO ((fi (fpt y P') * 512 + N t') % 512)) : fi (fpt y P) * 512 + N t = fi (fpt y P') * 512 + N t' := by
  obtain ⟨g1, g2, -, -⟩ := cd_g C hS h hP hz
  obtain ⟨g1', g2', -, -⟩ := cd_g C hS h hP' hz'
  rw [g1, g2, g1', g2'] at q
  obtain ⟨z, z1, z2, z3, z4⟩ := hz
  obtain ⟨z', z1', z2', z3', z4'⟩ := hz'
  have := ly_nn C hS h hP hP' z1 z2 (z4.trans z3.symm) z1' z2' (z4'.trans z3'.symm) (by rw [z3, z3']; exact q)
  rw [z3, z3'] at this
  rw [this.1, this.2]
end MXS
