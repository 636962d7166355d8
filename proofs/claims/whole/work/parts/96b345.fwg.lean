/-! a new frame: the numbers beside calls and loops; who is awake where paths are entered -/
/-- where a call, a loop leads -/
def TgF (V : Nat → Int64) (y : TR) (z : TR × List Nat × Nat) (c : Nat × Nat) : Prop := (∃ j as i p cnt xf, z.1 = .tag 4 (.tag j as) ∧ idx V ((ftP y).map Prod.fst) j = some i ∧ (fuP y)[i]? = some (p, cnt, xf) ∧ c = (4 * p, j)) ∨ ∃ j fs d ns g, z.1 = .tag 7 (.tag j (.append fs (.append d (.append ns g)))) ∧ c = (4 * j, 0)
def MWt (V : Nat → Int64) (y : TR) (N sO : Nat → Nat) (En : TPth → Prop) (nF : Nat) (fb : Nat → Nat) (fp : Nat → TPth) (fi : TPth → Nat) (lw : Nat → Int64) : Prop := ∀ P z c, OP V y nF fp fi P → z ∈ scP y → z.2.2 = hdR P → TgF V y z c → (En (c :: P) → lw (fb (fi (fpt y P)) + sO (N (otk z.1)) + 1) = (nI (fi (c :: P))).toInt64) ∧ (¬ En (c :: P) → lw (fb (fi (fpt y P)) + sO (N (otk z.1)) + 1) = 0)
section FWG
variable {K pl : Nat → Nat} {V : Nat → Int64} {y : TR} {e : Nat} {N M L : Nat → Nat} {n ρ τ : Nat} {G : im_S} {sl tO sO kO : Nat → Nat} {q0 : Nat} {S S' : im_S} {En En' : TPth → Prop} {cv vr cv' vr' : TPth → Nat → Option TVal} {mv : Option (TPth × Nat × TVal)} {Aw Sl : TPth → Nat → Prop} {WV WC : TPth → Nat → TPth → Nat → Prop} {R H : List TEv} {nS nF : Nat} {fb : Nat → Nat} {fp : Nat → TPth} {fi fi' : TPth → Nat} {tf : TPth → Nat → Nat} {tb : TPth → Nat → Option Nat} {sow : Nat → Nat × TPth × Nat} {lw lw' : Nat → Int64} {F P0 : TPth} {NE : TPth → Prop}
theorem MW_iff : MW V y N sO En nF fb fp fi lw ↔ MWt V y N sO En nF fb fp fi lw ∧ ∀ P j fs c ns g γ r i, (.tag 7 (.tag j (.append fs (.append c (.append ns g)))), γ, r) ∈ scP y → En ((4 * j + 1, 0) :: (4 * j, i) :: P) → En ((4 * j, i + 1) :: P) := by
  constructor
  · rintro ⟨h1, h2, h3⟩
    refine ⟨fun P z c hP hz hr ht => ?_, h2⟩
    obtain ⟨x, γ, r⟩ := z
    rcases ht with ⟨j, as, i, p, cnt, xf, q1, q2, q3, q4⟩ | ⟨j, fs, d, ns, g, q1, q2⟩
    · have q1 : x = .tag 4 (.tag j as) := q1
      subst q1
      subst q4
      exact h1 P j as γ r i p cnt xf hP hz hr q2 q3
    · have q1 : x = .tag 7 (.tag j (.append fs (.append d (.append ns g)))) := q1
      subst q1
      subst q2
      exact h3 P j fs d ns g γ r hP hz hr
  · intro h
    exact ⟨fun P j as γ r i p cnt xf hP hz hr q2 q3 => h.1 P _ _ hP hz hr (.inl ⟨j, as, i, p, cnt, xf, rfl, q2, q3, rfl⟩), h.2, fun P j fs c ns g γ r hP hz hr => h.1 P _ _ hP hz hr (.inr ⟨j, fs, c, ns, g, rfl, rfl⟩)⟩
theorem tg_k {z : TR × List Nat × Nat} {c : Nat × Nat} (h : TgF V y z c) : rtk z.1 = otk z.1 ∧ (kdN z.1 = 8 ∨ kdN z.1 = 9) := by
  rcases h with ⟨j, as, i, p, cnt, xf, q1, -⟩ | ⟨j, fs, d, ns, g, q1, -⟩
  · rw [q1]; exact ⟨rfl, .inl rfl⟩
  · rw [q1]; exact ⟨rfl, .inr rfl⟩
theorem tg_uq {z : TR × List Nat × Nat} {c c' : Nat × Nat} (h : TgF V y z c) (h' : TgF V y z c') : c = c' := by
  rcases h with ⟨j, as, i, p, cnt, xf, q1, q2, q3, q4⟩ | ⟨j, fs, d, ns, g, q1, q2⟩
  · rcases h' with ⟨j', as', i', p', cnt', xf', v1, v2, v3, v4⟩ | ⟨j', fs', d', ns', g', v1, v2⟩
    · rw [q1] at v1
      cases v1
      rw [q2] at v2
      cases v2
      rw [q3] at v3
      cases v3
      rw [q4, v4]
    · rw [q1] at v1
      cases v1
  · rcases h' with ⟨j', as', i', p', cnt', xf', v1, v2, v3, v4⟩ | ⟨j', fs', d', ns', g', v1, v2⟩
    · rw [q1] at v1
      cases v1
    · rw [q1] at v1
      cases v1
      rw [q2, v2]
theorem fn_MW (hW : MWt V y N sO En nF fb fp fi lw) (hE : ∀ P, En P → OP V y nF fp fi P) (hn : ∀ f, f < nF → fp f ≠ F) (hta : ∀ c Q, En (c :: Q) → Q ≠ [] → En Q) (h1 : ∀ P c, En' (c :: P) → En (c :: P) ∨ c :: P = F ∨ ∀ z, z ∈ scP y → z.2.2 = hdR P → ¬ TgF V y z c) (h1' : ∀ P, En P → En' P) (h2 : ∀ P z c, OP V y nF fp fi P → z ∈ scP y → z.2.2 = hdR P → TgF V y z c → c :: P = F → En' F ∧ lw' (fb (fi (fpt y P)) + sO (N (otk z.1)) + 1) = (nI nF).toInt64) (h3 : ∀ P z c, OP V y nF fp fi P → z ∈ scP y → z.2.2 = hdR P → TgF V y z c → c :: P ≠ F → lw' (fb (fi (fpt y P)) + sO (N (otk z.1)) + 1) = lw (fb (fi (fpt y P)) + sO (N (otk z.1)) + 1)) (h4 : ∀ s, nS ≤ s → lw' s = 0) : MWt V y N sO En' (nF + 1) (upN fb nF nS) (upN fp nF F) (fun Q => if Q = F then nF else fi Q) lw' := by
  intro P z c hP hz hr ht
  rcases fn_opI hn hP with ho | hF
  · obtain ⟨e1, e2, e3⟩ := fn_fi (fb := fb) (nS := nS) hn ho.2.2.1 ho.2.2.2
    show (En' (c :: P) → lw' (upN fb nF nS (if fpt y P = F then nF else fi (fpt y P)) + sO (N (otk z.1)) + 1) = (nI (if c :: P = F then nF else fi (c :: P))).toInt64) ∧ (¬ En' (c :: P) → lw' (upN fb nF nS (if fpt y P = F then nF else fi (fpt y P)) + sO (N (otk z.1)) + 1) = 0)
    rw [e1, e3]
    by_cases cF : c :: P = F
    · obtain ⟨u1, u2⟩ := h2 P z c ho hz hr ht cF
      rw [if_pos cF]
      exact ⟨fun _ => u2, fun q => absurd (by rw [cF]; exact u1) q⟩
    · rw [if_neg cF, h3 P z c ho hz hr ht cF]
      refine ⟨fun q => (hW P z c ho hz hr ht).1 ?_, fun q => (hW P z c ho hz hr ht).2 (fun q' => q (h1' _ q'))⟩
      rcases h1 P c q with q | q | q
      · exact q
      · exact absurd q cF
      · exact absurd ht (q z hz hr)
  · have e1 : (if fpt y P = F then nF else fi (fpt y P)) = nF := if_pos hF
    have hno : ¬ En' (c :: P) := fun q => by
      rcases h1 P c q with q | q | q
      · have := hE P (hta c P q (pk_ne hP.1))
        exact hn _ this.2.2.1 (this.2.2.2.trans hF)
      · have h7 := fp_len (y := y) P
        rw [hF, ← q, List.length_cons] at h7
        omega
      · exact q z hz hr ht
    show (En' (c :: P) → lw' (upN fb nF nS (if fpt y P = F then nF else fi (fpt y P)) + sO (N (otk z.1)) + 1) = (nI (if c :: P = F then nF else fi (c :: P))).toInt64) ∧ (¬ En' (c :: P) → lw' (upN fb nF nS (if fpt y P = F then nF else fi (fpt y P)) + sO (N (otk z.1)) + 1) = 0)
    rw [e1, upN_eq]
    exact ⟨fun q => absurd q hno, fun _ => h4 _ (by omega)⟩
/-- second slots lie where slots do -/
theorem tg_lt (C : CGd K pl V y e N M L n ρ τ G) (hS : SLy G n τ sl tO sO kO) (hly : LY V y L sl nS nF fb fp fi tf tb sow) {P : TPth} {z : TR × List Nat × Nat} {c : Nat × Nat} (hP : OP V y nF fp fi P) (hz : z ∈ scP y) (hr : z.2.2 = hdR P) (ht : TgF V y z c) : fb (fi (fpt y P)) + sO (N (otk z.1)) + 1 < nS := by
  obtain ⟨t1, t2⟩ := tg_k ht
  obtain ⟨k1, k2⟩ := op_tk C hS hP hz hr t1
  have w1 := (tk_sl C hS k1).1
  have w2 : wk (kO (N (otk z.1))) = 2 := by rw [k2]; unfold wk; rw [if_pos t2]
  have := ((hly.1 _ hP.2.2.1).2.2.2.2 (sO (N (otk z.1)) + 1) (by omega)).1
  omega
theorem fn_lw (C : CGd K pl V y e N M L n ρ τ G) (hS : SLy G n τ sl tO sO kO) (hly : LY V y L sl nS nF fb fp fi tf tb sow) {z0 : TR × List Nat × Nat} {c0 : Nat × Nat} {w : Int64} (hP0 : OP V y nF fp fi P0) (hz0 : z0 ∈ scP y) (hr0 : z0.2.2 = hdR P0) (ht0 : TgF V y z0 c0) : ∀ P z c, OP V y nF fp fi P → z ∈ scP y → z.2.2 = hdR P → TgF V y z c → c :: P ≠ c0 :: P0 → upN (fun s => if s < nS then lw s else 0) (fb (fi (fpt y P0)) + sO (N (otk z0.1)) + 1) w (fb (fi (fpt y P)) + sO (N (otk z.1)) + 1) = lw (fb (fi (fpt y P)) + sO (N (otk z.1)) + 1) := by
  intro P z c hP hz hr ht hne
  have hlt := tg_lt C hS hly hP hz hr ht
  rw [upN_ne (fun q => hne ?_)]
  · exact if_pos hlt
  · obtain ⟨e1, e2⟩ := ly_nn C hS hly hP hP0 hz hr (tg_k ht).1 hz0 hr0 (tg_k ht0).1 (by omega)
    have e3 := (ou_P C.1).2 z hz z0 hz0 e2
    subst e3
    rw [e1, tg_uq ht ht0]
/-- no call, no loop leads there -/
theorem tg_no {w : PW K y 0 e} {z : TR × List Nat × Nat} {c : Nat × Nat} (hz : z ∈ scP y) (ht : TgF V y z c) : c.1 / 4 ∈ (ftP y).map Prod.fst ∨ (c.1 / 4 ∈ lpP y ∧ c.1 % 4 = 0 ∧ c.2 = 0) := by
  rcases ht with ⟨j, as, i, p, cnt, xf, q1, q2, q3, q4⟩ | ⟨j, fs, d, ns, g, q1, q2⟩
  · rw [q4]
    refine .inl ?_
    show 4 * p / 4 ∈ _
    rw [show 4 * p / 4 = p by omega]
    exact fu_ft w (List.mem_of_getElem? q3)
  · rw [q2]
    refine .inr ⟨?_, by show 4 * j % 4 = 0; omega, rfl⟩
    show 4 * j / 4 ∈ _
    rw [show 4 * j / 4 = j by omega]
    have := lp_in hz (by rw [q1]; rfl)
    rw [q1] at this
    exact this
/-- who is awake, who waits, where no value comes -/
theorem aw_en (hv : ∀ F b P t, WV F b P t → vr' F b = none) (hc : ∀ D t' P t, WC D t' P t → cv' D t' = none) : (∀ P t, AwN y Aw Sl WV WC cv' vr' NE P t ↔ (Aw P t ∧ ¬ Sl P t) ∨ (NE P ∧ ∃ z, NdA y P t z ∧ lfK z.1 = true)) ∧ (∀ F b P t, WVN WV vr' F b P t ↔ WV F b P t) ∧ ∀ D P t, (∃ t', WCN WC (fun _ _ _ _ => False) cv' D t' P t) ↔ ∃ t', WC D t' P t := by
  refine ⟨fun P t => ⟨fun q => ?_, fun q => q.imp id (fun q => .inr (.inr q))⟩, fun F b P t => ⟨fun q => q.1, fun q => ⟨q, hv F b P t q⟩⟩, fun D P t => ⟨fun ⟨t', q⟩ => ⟨t', q.elim (fun q => q.1) False.elim⟩, fun ⟨t', q⟩ => ⟨t', .inl ⟨q, hc D t' P t q⟩⟩⟩⟩
  rcases q with q | ⟨F, b, q1, q2⟩ | ⟨D, t', q1, q2⟩ | q
  · exact .inl q
  · exact absurd (hv F b P t q1) q2
  · exact absurd (hc D t' P t q1) q2
  · exact .inr q
/-- the list of what is ready, with other numbers of frames -/
theorem mg_fr (hG : MG y N fi tf S none R) (hk : MK S S') (h : ∀ ev, ev ∈ R → ∃ Q, evFr y ev Q ∧ fi' Q = fi Q) : MG y N fi' tf S' none R := by
  obtain ⟨g1, g2, g3, g4, g5⟩ := hG
  refine ⟨fun q => (hk.1 38 11 (by omega) (by omega)).trans (g1 q), fun P t a q => (by cases q), (hk.1 38 8 (by omega) (by omega)).trans g3, g4, fun k ev q => ?_⟩
  obtain ⟨Q, q1, q2⟩ := h ev (List.mem_of_getElem? q)
  rw [evc_cg q1 q2]
  exact (hk.1 39 k (by omega) (by omega)).trans (g5 k ev q)
/-- a region has at most 500 leaves -/
theorem lv_le (C : CGd K pl V y e N M L n ρ τ G) (hS : SLy G n τ sl tO sO kO) {P1 : TPth} (hP : POk V y P1) {l : List Nat} (hl : l.Nodup) (hz : ∀ t, t ∈ l → ∃ z, NdA y P1 t z) : l.length ≤ 500 := by
  have ht : ∀ t, t ∈ l → TkF N L e tO (fpt y P1) t := fun t q => by
    obtain ⟨z, z1, z2, z3, z4⟩ := hz t q
    have := (tk_n C hS z1 (z4.trans z3.symm) hP z2).1
    rw [z3] at this
    exact this
  have h1 := nd_len (l.map N) 500 (nd_mapI l hl (fun a qa b qb q => Nt_inj C.2.1 (ht a qa).1 (ht b qb).1 (ht a qa).2.1 (ht b qb).2.1 q)) (fun k q => by
    obtain ⟨t, q1, q2⟩ := List.mem_map.mp q
    rw [← q2]
    exact (tk_sl C hS (ht t q1)).2.1)
  rw [List.length_map] at h1
  exact h1
end FWG
