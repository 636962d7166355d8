/-! a new frame: what is known of the others stays -/
section FNW
variable {K pl : Nat → Nat} {V : Nat → Int64} {y : TR} {e : Nat} {N M L : Nat → Nat} {q0 : Nat} {En En' : TPth → Prop} {nS nF : Nat} {sO : Nat → Nat} {fb : Nat → Nat} {fp : Nat → TPth} {fi : TPth → Nat} {tf : TPth → Nat → Nat} {tb : TPth → Nat → Option Nat} {ow si fo : Nat → Int32} {lw : Nat → Int64} {cv vr : TPth → Nat → Option TVal} {mv : Option (TPth × Nat × TVal)} {WV : TPth → Nat → TPth → Nat → Prop} {R H : List TEv} {F : TPth}
theorem fn_fi (hn : ∀ f, f < nF → fp f ≠ F) {Q : TPth} (h1 : fi Q < nF) (h2 : fp (fi Q) = Q) : (if Q = F then nF else fi Q) = fi Q ∧ upN fp nF F (fi Q) = Q ∧ upN fb nF nS (fi Q) = fb (fi Q) := by
  have hne : Q ≠ F := fun q => hn (fi Q) h1 (h2.trans q)
  exact ⟨if_neg hne, (upN_ne (by omega)).trans h2, upN_ne (by omega)⟩
theorem fn_op (hn : ∀ f, f < nF → fp f ≠ F) {P : TPth} (h : OP V y nF fp fi P) : OP V y (nF + 1) (upN fp nF F) (fun Q => if Q = F then nF else fi Q) P := by
  obtain ⟨h1, h2, h3, h4⟩ := h
  obtain ⟨e1, e2, -⟩ := fn_fi (fb := fun _ => 0) (nS := 0) hn h3 h4
  refine ⟨h1, h2, ?_, ?_⟩
  · show (if fpt y P = F then nF else fi (fpt y P)) < nF + 1
    rw [e1]
    omega
  · show upN fp nF F (if fpt y P = F then nF else fi (fpt y P)) = fpt y P
    rw [e1]
    exact e2
theorem fn_opF (hF : POk V y F) (hZ : Z0 y F) (hfF : fpt y F = F) : OP V y (nF + 1) (upN fp nF F) (fun Q => if Q = F then nF else fi Q) F := by
  refine ⟨hF, hZ, ?_, ?_⟩
  · show (if fpt y F = F then nF else fi (fpt y F)) < nF + 1
    rw [if_pos hfF]
    omega
  · show upN fp nF F (if fpt y F = F then nF else fi (fpt y F)) = fpt y F
    rw [if_pos hfF, upN_eq, hfF]
theorem fn_opI (hn : ∀ f, f < nF → fp f ≠ F) {P : TPth} (h : OP V y (nF + 1) (upN fp nF F) (fun Q => if Q = F then nF else fi Q) P) : OP V y nF fp fi P ∨ fpt y P = F := by
  by_cases c : fpt y P = F
  · exact .inr c
  · obtain ⟨q1, q2, q3, q4⟩ := h
    have e1 : (if fpt y P = F then nF else fi (fpt y P)) = fi (fpt y P) := if_neg c
    have q3 : (if fpt y P = F then nF else fi (fpt y P)) < nF + 1 := q3
    have q4 : upN fp nF F (if fpt y P = F then nF else fi (fpt y P)) = fpt y P := q4
    rw [e1] at q3 q4
    have hlt : fi (fpt y P) < nF := by
      rcases Nat.lt_or_ge (fi (fpt y P)) nF with u | u
      · exact u
      · have : fi (fpt y P) = nF := by omega
        rw [this, upN_eq] at q4
        exact absurd q4.symm c
    rw [upN_ne (show fi (fpt y P) ≠ nF by omega)] at q4
    exact .inl ⟨q1, q2, hlt, q4⟩
/-- the event's frame -/
def evFr (y : TR) (ev : TEv) (Q : TPth) : Prop := (ev.2.1 ∈ lpP y ∧ Q = (4 * ev.2.1, ev.2.2) :: ev.1) ∨ (¬ ev.2.1 ∈ lpP y ∧ (ev.2.1 ∈ tbP y ∧ ev.2.2 ≠ 0) ∧ Q = (4 * ev.2.1, ev.2.2 - 1) :: ev.1) ∨ (¬ ev.2.1 ∈ lpP y ∧ ¬ (ev.2.1 ∈ tbP y ∧ ev.2.2 ≠ 0) ∧ Q = fpt y ev.1)
theorem evc_cg {fi' : TPth → Nat} {ev : TEv} {Q : TPth} (h : evFr y ev Q) (q : fi' Q = fi Q) : evc y N fi' ev = evc y N fi ev := by
  unfold evc
  rcases h with ⟨h1, h2⟩ | ⟨h1, h2, h3⟩ | ⟨h1, h2, h3⟩
  · rw [if_pos h1, if_pos h1, ← h2, q]
  · rw [if_neg h1, if_neg h1, if_pos h2, if_pos h2, ← h3, q]
  · rw [if_neg h1, if_neg h1, if_neg h2, if_neg h2, ← h3, q]
theorem evF_ex (ev : TEv) : ∃ Q, evFr y ev Q := by
  by_cases h1 : ev.2.1 ∈ lpP y
  · exact ⟨_, .inl ⟨h1, rfl⟩⟩
  · by_cases h2 : ev.2.1 ∈ tbP y ∧ ev.2.2 ≠ 0
    · exact ⟨_, .inr (.inl ⟨h1, h2, rfl⟩)⟩
    · exact ⟨_, .inr (.inr ⟨h1, h2, rfl⟩)⟩
/-- owners: a new frame of a path that is entered, or of a cell -/
theorem fn_MO (hO : MO y q0 N En nF fp fi tf tb ow si fo) (hE : ∀ P, En P → OP V y nF fp fi P) (hn : ∀ f, f < nF → fp f ≠ F) (hE' : ∀ P, En P → En' P) {c : Nat × Nat} {Q : TPth} (hF : F = c :: Q) (hQ : Q ≠ []) (hEQ : En Q) {o x : Int32} (ho : o = nI (fi (fpt y Q))) (hx : c.1 / 4 ∈ (ftP y).map Prod.fst → x = nI (N c.2)) (hEF : ¬ c.1 / 4 ∈ tbP y → En' F) (hxt : c.1 / 4 ∈ tbP y → ∃ m, tb Q (c.1 / 4) = some m ∧ c.2 < m ∧ x = nI (tf Q (c.1 / 4) + c.2)) (hlp : ∀ (d : Nat × Nat) (D : TPth), d.1 / 4 ∈ lpP y → En' ((d.1, d.2 + 1) :: D) → En ((d.1, d.2 + 1) :: D) ∧ fpt y ((d.1, d.2 + 1) :: D) = (d.1, d.2 + 1) :: D) (hF0 : c.1 / 4 ∈ lpP y → ¬ En ((c.1, c.2 + 1) :: Q)) : MO y q0 N En' (nF + 1) (upN fp nF F) (fun Q => if Q = F then nF else fi Q) tf tb (upN ow nF o) (upN si nF x) (upN fo nF 0) := by
  obtain ⟨h1, h2, h3, h4⟩ := hO
  refine ⟨by omega, (upN_ne (by omega)).trans h2, (upN_ne (by omega)).trans h3, fun f hf h0 => ?_⟩
  by_cases cf : f = nF
  · subst cf
    rw [upN_eq, upN_eq, upN_eq]
    refine ⟨c, Q, hF, hQ, hE' Q hEQ, ?_, hx, fun q => by rw [← hF]; exact hEF q, hxt, fun q q' => absurd (hlp c Q q q').1 (hF0 q)⟩
    obtain ⟨e1, -, -⟩ := fn_fi (fb := fun _ => 0) (nS := 0) hn (hE Q hEQ).2.2.1 (hE Q hEQ).2.2.2
    show o = nI (if fpt y Q = F then f else fi (fpt y Q))
    rw [e1]
    exact ho
  · have hlt : f < nF := by omega
    rw [upN_ne cf, upN_ne cf, upN_ne cf, upN_ne cf]
    obtain ⟨d, D, g1, g2, g3, g4, g5, g6, g7, g8⟩ := h4 f hlt h0
    refine ⟨d, D, g1, g2, hE' D g3, ?_, g5, fun q => hE' _ (g6 q), g7, fun q q' => ?_⟩
    · obtain ⟨e1, -, -⟩ := fn_fi (fb := fun _ => 0) (nS := 0) hn (hE D g3).2.2.1 (hE D g3).2.2.2
      show ow f = nI (if fpt y D = F then nF else fi (fpt y D))
      rw [e1]
      exact g4
    · obtain ⟨u1, u2⟩ := hlp d D q q'
      have hOP := hE _ u1
      rw [OP, u2] at hOP
      obtain ⟨e1, -, -⟩ := fn_fi (fb := fun _ => 0) (nS := 0) hn hOP.2.2.1 hOP.2.2.2
      show fo f = nI (if (d.1, d.2 + 1) :: D = F then nF else fi ((d.1, d.2 + 1) :: D))
      rw [e1]
      exact g8 q u1
theorem fn_MT (hT : MT y cv mv R H nF fp fi tb) (hn : ∀ f, f < nF → fp f ≠ F) : MT y cv mv R H (nF + 1) (upN fp nF F) (fun Q => if Q = F then nF else fi Q) tb := by
  obtain ⟨h1, h2, h3⟩ := hT
  refine ⟨h1, fun P t m q => ?_, h3⟩
  obtain ⟨u1, x, x', γ, r, u2, u3, u4⟩ := h2 P t m q
  refine ⟨u1, x, x', γ, r, u2, u3, fun i hi => ?_⟩
  obtain ⟨v1, v2⟩ := u4 i hi
  obtain ⟨e1, e2, -⟩ := fn_fi (fb := fun _ => 0) (nS := 0) hn v1 v2
  show (if (4 * t, i) :: P = F then nF else fi ((4 * t, i) :: P)) < nF + 1 ∧ upN fp nF F (if (4 * t, i) :: P = F then nF else fi ((4 * t, i) :: P)) = (4 * t, i) :: P
  rw [e1]
  exact ⟨by omega, e2⟩
theorem fn_MV (hV : MVf nF fp fi vr WV) (hn : ∀ f, f < nF → fp f ≠ F) : MVf (nF + 1) (upN fp nF F) (fun Q => if Q = F then nF else fi Q) vr WV := by
  have key : ∀ Q, fi Q < nF ∧ fp (fi Q) = Q → (if Q = F then nF else fi Q) < nF + 1 ∧ upN fp nF F (if Q = F then nF else fi Q) = Q := fun Q q => by
    obtain ⟨e1, e2, -⟩ := fn_fi (fb := fun _ => 0) (nS := 0) hn q.1 q.2
    rw [e1]
    exact ⟨by omega, e2⟩
  exact ⟨fun Q b a q => key Q (hV.1 Q b a q), fun Q b P t q => key Q (hV.2 Q b P t q)⟩
end FNW
