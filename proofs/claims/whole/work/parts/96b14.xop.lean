/-! what the machine does to its memory, told by paths -/
theorem w_mk (f k : Nat) : nI f * 512 + nI k = nI (f * 512 + k) := by rw [show nI f * 512 = nI (f * 512) from nI_mul f 512, nI_add]
section LKX
variable {g : Nat → Nat} {nS : Nat} {ct : Nat → Option TVal} {isL : Nat → Prop} {aw : List Nat} {wa : Nat → List Nat}
theorem lk_tl {c : Nat} (h : LkI g nS ct isL (c :: aw) wa) : LkI g nS ct isL aw wa := by
  obtain ⟨i1, i2, i3, i4, i5, i6⟩ := h
  have m : ∀ {d : Nat}, (d ∈ aw ∨ ∃ s, s < nS ∧ ct s = none ∧ ¬ isL s ∧ d ∈ wa s) → (d ∈ c :: aw ∨ ∃ s, s < nS ∧ ct s = none ∧ ¬ isL s ∧ d ∈ wa s) := fun q => q.imp (List.mem_cons_of_mem _) id
  exact ⟨(List.nodup_cons.mp i1).2, i2, fun s d q1 q2 q3 q4 q5 => i3 s d q1 q2 q3 q4 (List.mem_cons_of_mem _ q5), i4, fun d q => i5 d (m q), fun d d' q q' => i6 d d' (m q) (m q')⟩
theorem lk_cn {c : Nat} (h : LkI g nS ct isL aw wa) (hc : ¬ c ∈ aw) (hw : ∀ s, s < nS → ct s = none → ¬ isL s → ¬ c ∈ wa s) (hb : c < 2 ^ 31 ∧ g c < nS) (hi : ∀ d, (d ∈ aw ∨ ∃ s, s < nS ∧ ct s = none ∧ ¬ isL s ∧ d ∈ wa s) → g c = g d → c = d) : LkI g nS ct isL (c :: aw) wa := by
  obtain ⟨i1, i2, i3, i4, i5, i6⟩ := h
  have m : ∀ {d : Nat}, (d ∈ c :: aw ∨ ∃ s, s < nS ∧ ct s = none ∧ ¬ isL s ∧ d ∈ wa s) → d = c ∨ (d ∈ aw ∨ ∃ s, s < nS ∧ ct s = none ∧ ¬ isL s ∧ d ∈ wa s) := fun q => by
    rcases q with q | q
    · rcases List.mem_cons.mp q with q | q
      · exact .inl q
      · exact .inr (.inl q)
    · exact .inr (.inr q)
  refine ⟨List.nodup_cons.mpr ⟨hc, i1⟩, i2, fun s d q1 q2 q3 q4 q5 => ?_, i4, fun d q => ?_, fun d d' q q' e => ?_⟩
  · rcases List.mem_cons.mp q5 with q5 | q5
    · rw [q5] at q4
      exact hw s q1 q2 q3 q4
    · exact i3 s d q1 q2 q3 q4 q5
  · rcases m q with q | q
    · rw [q]; exact hb
    · exact i5 d q
  · rcases m q with q | q
    · rcases m q' with q' | q'
      · rw [q, q']
      · rw [q] at e ⊢
        exact hi d' q' e
    · rcases m q' with q' | q'
      · rw [q'] at e ⊢
        exact (hi d q e.symm).symm
      · exact i6 d d' q q' e
theorem lk_mv {c s : Nat} (h : LkI g nS ct isL (c :: aw) wa) (hs : s < nS) (h0 : ct s = none) (hl : ¬ isL s) : LkI g nS ct isL aw (upN wa s (c :: wa s)) := by
  obtain ⟨i1, i2, i3, i4, i5, i6⟩ := id h
  obtain ⟨n1, n2⟩ := List.nodup_cons.mp i1
  have hcw : ∀ s', s' < nS → ct s' = none → ¬ isL s' → ¬ c ∈ wa s' := fun s' q1 q2 q3 q => i3 s' c q1 q2 q3 q List.mem_cons_self
  have mw : ∀ {s' d : Nat}, d ∈ upN wa s (c :: wa s) s' → (s' = s ∧ d = c) ∨ d ∈ wa s' := fun {s' d} q => by
    by_cases e : s' = s
    · subst e
      rw [upN_eq] at q
      rcases List.mem_cons.mp q with q | q
      · exact .inl ⟨rfl, q⟩
      · exact .inr q
    · rw [upN_ne e] at q
      exact .inr q
  have m : ∀ {d : Nat}, (d ∈ aw ∨ ∃ s', s' < nS ∧ ct s' = none ∧ ¬ isL s' ∧ d ∈ upN wa s (c :: wa s) s') → (d ∈ c :: aw ∨ ∃ s', s' < nS ∧ ct s' = none ∧ ¬ isL s' ∧ d ∈ wa s') := fun q => by
    rcases q with q | ⟨s', q1, q2, q3, q4⟩
    · exact .inl (List.mem_cons_of_mem _ q)
    · rcases mw q4 with ⟨-, q5⟩ | q5
      · rw [q5]; exact .inl List.mem_cons_self
      · exact .inr ⟨s', q1, q2, q3, q5⟩
  refine ⟨n2, fun s' q1 q2 q3 => ?_, fun s' d q1 q2 q3 q4 q5 => ?_, fun s1 s2 d q1 q2 q3 q4 q5 q6 q7 q8 => ?_, fun d q => i5 d (m q), fun d d' q q' => i6 d d' (m q) (m q')⟩
  · by_cases e : s' = s
    · subst e
      rw [upN_eq]
      exact List.nodup_cons.mpr ⟨hcw s' q1 q2 q3, i2 s' q1 q2 q3⟩
    · rw [upN_ne e]
      exact i2 s' q1 q2 q3
  · rcases mw q4 with ⟨-, q6⟩ | q6
    · rw [q6] at q5
      exact n1 q5
    · exact i3 s' d q1 q2 q3 q6 (List.mem_cons_of_mem _ q5)
  · rcases mw q7 with ⟨e1, e2⟩ | q7
    · rcases mw q8 with ⟨e3, e4⟩ | q8
      · rw [e1, e3]
      · rw [e2] at q8
        exact absurd q8 (hcw s2 q4 q5 q6)
    · rcases mw q8 with ⟨e3, e4⟩ | q8
      · rw [e4] at q7
        exact absurd q7 (hcw s1 q1 q2 q3)
      · exact i4 s1 s2 d q1 q2 q3 q4 q5 q6 q7 q8
theorem lk_st {s : Nat} {a : TVal} (h : LkI g nS ct isL aw wa) (hs : s < nS) (h0 : ct s = none) (hl : ¬ isL s) : LkI g nS (upN ct s (some a)) isL ((wa s).reverse ++ aw) wa := by
  obtain ⟨i1, i2, i3, i4, i5, i6⟩ := id h
  have hc : ∀ {s' : Nat}, upN ct s (some a) s' = none → s' ≠ s ∧ ct s' = none := fun {s'} q => by
    by_cases e : s' = s
    · rw [e, upN_eq] at q
      cases q
    · rw [upN_ne e] at q
      exact ⟨e, q⟩
  have ma : ∀ {d : Nat}, d ∈ (wa s).reverse ++ aw → d ∈ wa s ∨ d ∈ aw := fun q => by
    rcases List.mem_append.mp q with q | q
    · exact .inl (List.mem_reverse.mp q)
    · exact .inr q
  have m : ∀ {d : Nat}, (d ∈ (wa s).reverse ++ aw ∨ ∃ s', s' < nS ∧ upN ct s (some a) s' = none ∧ ¬ isL s' ∧ d ∈ wa s') → (d ∈ aw ∨ ∃ s', s' < nS ∧ ct s' = none ∧ ¬ isL s' ∧ d ∈ wa s') := fun q => by
    rcases q with q | ⟨s', q1, q2, q3, q4⟩
    · rcases ma q with q | q
      · exact .inr ⟨s, hs, h0, hl, q⟩
      · exact .inl q
    · exact .inr ⟨s', q1, (hc q2).2, q3, q4⟩
  refine ⟨List.nodup_append.mpr ⟨List.pairwise_reverse.mpr ((i2 s hs h0 hl).imp (fun q => q.symm)), i1, fun u q1 v q2 e => ?_⟩, fun s' q1 q2 q3 => i2 s' q1 (hc q2).2 q3, fun s' d q1 q2 q3 q4 q5 => ?_, fun s1 s2 d q1 q2 q3 q4 q5 q6 => i4 s1 s2 d q1 (hc q2).2 q3 q4 (hc q5).2 q6, fun d q => i5 d (m q), fun d d' q q' => i6 d d' (m q) (m q')⟩
  · rw [← e] at q2
    exact i3 s u hs h0 hl (List.mem_reverse.mp q1) q2
  · rcases ma q5 with q5 | q5
    · exact (hc q2).1 (i4 s' s d q1 (hc q2).2 q3 hs h0 hl q4 q5)
    · exact i3 s' d q1 (hc q2).2 q3 q4 q5
theorem lk_pt {s : Nat} {a : TVal} (h : LkI g nS ct isL aw wa) : LkI g nS (upN ct s (some a)) isL aw wa := by
  obtain ⟨i1, i2, i3, i4, i5, i6⟩ := id h
  have hc : ∀ {s' : Nat}, upN ct s (some a) s' = none → ct s' = none := fun {s'} q => by
    by_cases e : s' = s
    · rw [e, upN_eq] at q
      cases q
    · rw [upN_ne e] at q
      exact q
  have m : ∀ {d : Nat}, (d ∈ aw ∨ ∃ s', s' < nS ∧ upN ct s (some a) s' = none ∧ ¬ isL s' ∧ d ∈ wa s') → (d ∈ aw ∨ ∃ s', s' < nS ∧ ct s' = none ∧ ¬ isL s' ∧ d ∈ wa s') := fun q => by
    rcases q with q | ⟨s', q1, q2, q3, q4⟩
    · exact .inl q
    · exact .inr ⟨s', q1, hc q2, q3, q4⟩
  exact ⟨i1, fun s' q1 q2 q3 => i2 s' q1 (hc q2) q3, fun s' d q1 q2 => i3 s' d q1 (hc q2), fun s1 s2 d q1 q2 q3 q4 q5 => i4 s1 s2 d q1 (hc q2) q3 q4 (hc q5), fun d q => i5 d (m q), fun d d' q q' => i6 d d' (m q) (m q')⟩
theorem lk_gr {g' : Nat → Nat} {nS' : Nat} {ct' : Nat → Option TVal} {isL' : Nat → Prop} (h : LkI g nS ct isL aw wa) (hb : nS ≤ nS') (hct : ∀ s, s < nS → ct' s = ct s) (hL : ∀ s, s < nS → (isL' s ↔ isL s)) (hg : ∀ c, (c ∈ aw ∨ ∃ s, s < nS ∧ ct s = none ∧ ¬ isL s ∧ c ∈ wa s) → g' c = g c) : LkI g' nS' ct' isL' aw (fun s => if s < nS then wa s else []) := by
  obtain ⟨i1, i2, i3, i4, i5, i6⟩ := id h
  have mw : ∀ {s d : Nat}, d ∈ (if s < nS then wa s else []) → s < nS ∧ d ∈ wa s := fun {s d} q => by
    by_cases c : s < nS
    · rw [if_pos c] at q
      exact ⟨c, q⟩
    · rw [if_neg c] at q
      exact absurd q List.not_mem_nil
  have m : ∀ {d : Nat}, (d ∈ aw ∨ ∃ s', s' < nS' ∧ ct' s' = none ∧ ¬ isL' s' ∧ d ∈ (if s' < nS then wa s' else [])) → (d ∈ aw ∨ ∃ s', s' < nS ∧ ct s' = none ∧ ¬ isL s' ∧ d ∈ wa s') := fun q => by
    rcases q with q | ⟨s', q1, q2, q3, q4⟩
    · exact .inl q
    · obtain ⟨c, q4⟩ := mw q4
      exact .inr ⟨s', c, by rw [← hct s' c]; exact q2, fun q => q3 ((hL s' c).mpr q), q4⟩
  refine ⟨i1, fun s q1 q2 q3 => ?_, fun s d q1 q2 q3 q4 q5 => ?_, fun s1 s2 d q1 q2 q3 q4 q5 q6 q7 q8 => ?_, fun d q => ?_, fun d d' q q' e => ?_⟩
  · show (if s < nS then wa s else []).Nodup
    by_cases c : s < nS
    · rw [if_pos c]
      exact i2 s c (by rw [← hct s c]; exact q2) (fun q => q3 ((hL s c).mpr q))
    · rw [if_neg c]
      exact List.nodup_nil
  · obtain ⟨c, q4⟩ := mw q4
    exact i3 s d c (by rw [← hct s c]; exact q2) (fun q => q3 ((hL s c).mpr q)) q4 q5
  · obtain ⟨c, q7⟩ := mw q7
    obtain ⟨c', q8⟩ := mw q8
    exact i4 s1 s2 d c (by rw [← hct s1 c]; exact q2) (fun q => q3 ((hL s1 c).mpr q)) c' (by rw [← hct s2 c']; exact q5) (fun q => q6 ((hL s2 c').mpr q)) q7 q8
  · have := i5 d (m q)
    rw [hg d (m q)]
    exact ⟨this.1, by omega⟩
  · rw [hg d (m q), hg d' (m q')] at e
    exact i6 d d' (m q) (m q') e
end LKX
section XOP
variable {K pl : Nat → Nat} {V : Nat → Int64} {y : TR} {e : Nat} {N M L : Nat → Nat} {n ρ τ : Nat} {G : im_S} {sl tO sO kO : Nat → Nat} {S : im_S} {nS nF fu : Nat} {fb : Nat → Nat} {fp : Nat → TPth} {fi : TPth → Nat} {tf : TPth → Nat → Nat} {tb : TPth → Nat → Option Nat} {ow si fo : Nat → Int32} {lw : Nat → Int64} {cv vr : TPth → Nat → Option TVal} {cc : TPth → Option TVal} {Aw : TPth → Nat → Prop} {WV : TPth → Nat → TPth → Nat → Prop} {WC : TPth → TPth → Nat → Prop}
theorem x_pop (C : CGd K pl V y e N M L n ρ τ G) (hS : SLy G n τ sl tO sO kO) (h : MX V y e N L sl tO sO kO S nS nF fb fp fi tf tb ow si fo lw cv vr cc Aw WV WC) : (S.1 38 10 = 0 ∧ ∀ P t, ¬ Aw P t) ∨ ∃ (k : Nat) (P0 : TPth) (t0 : Nat) (S' : im_S), Aw P0 t0 ∧ S.1 38 10 = nI k ∧ 1 ≤ k ∧ k < 2 ^ 31 ∧ k < S.2.2 73 ∧ k < S.2.2 74 ∧ S.1 73 k = nI (fi (fpt y P0) * 512 + N t0) ∧ f_X0_release (nI k) (uI S 38 10 (S.1 74 k)) = some ((), S') ∧ MX V y e N L sl tO sO kO S' nS nF fb fp fi tf tb ow si fo lw cv vr cc (fun P t => Aw P t ∧ ¬ (P = P0 ∧ t = t0)) WV WC ∧ MK S S' := by
  obtain ⟨ct, isL, aw, wa, sow, m1, m2, m3, m4, m5, m6, m7, m8, m9, m10, m11⟩ := h
  cases aw with
  | nil =>
    refine .inl ⟨o_nil m1, fun P t q => ?_⟩
    exact absurd ((m7 _).mpr ⟨P, t, q, rfl⟩) List.not_mem_nil
  | cons c aw =>
    obtain ⟨P0, t0, q1, q2⟩ := (m7 c).mp List.mem_cons_self
    obtain ⟨k, g1, g2, g3, g4, g5, g6, S', g7, g8, g9⟩ := o_pop m1
    refine .inr ⟨k, P0, t0, S', q1, g1, g2, g3, g4, g5, by rw [← q2]; exact g6, g7, ⟨ct, isL, aw, wa, sow, g8, lk_tl m2, m3, m4, m5, m6, fun d => ⟨fun q => ?_, fun q => ?_⟩, m8, m9, m10, fun P t q => m11 P t (q.imp (fun q => q.1) id)⟩, g9⟩
    · obtain ⟨P, t, u1, u2⟩ := (m7 d).mp (List.mem_cons_of_mem _ q)
      refine ⟨P, t, ⟨u1, fun ⟨e1, e2⟩ => ?_⟩, u2⟩
      rw [e1, e2, ← q2] at u2
      rw [u2] at q
      exact (List.nodup_cons.mp m2.1).1 q
    · obtain ⟨P, t, ⟨u1, u3⟩, u2⟩ := q
      have := (m7 d).mpr ⟨P, t, u1, u2⟩
      rcases List.mem_cons.mp this with q | q
      · rw [q, q2] at u2
        have := cd_inj C hS (m11 P0 t0 (.inl q1)).1 (m11 P t (.inl u1)).1 (m11 P0 t0 (.inl q1)).2 (m11 P t (.inl u1)).2 u2
        exact absurd ⟨this.1.symm, this.2.symm⟩ u3
      · exact q
/-- a node that neither is awake nor waits: its code is new -/
theorem x_new (C : CGd K pl V y e N M L n ρ τ G) (hS : SLy G n τ sl tO sO kO) {ct : Nat → Option TVal} {isL : Nat → Prop} {aw : List Nat} {wa : Nat → List Nat} {sow : Nat → Nat × TPth × Nat}
    (m2 : LkI (fun c => fb (c / 512) + sO (c % 512)) nS ct isL aw wa) (m3 : LY V y L sl nS nF fb fp fi tf tb sow) (hF : nF ≤ 32768)
    (m7 : ∀ c, c ∈ aw ↔ ∃ P t, Aw P t ∧ c = fi (fpt y P) * 512 + N t) (m8 : ∀ f b c, f < nF → VT V y (fp f) b → ct (fb f + sO (N b)) = none → (c ∈ wa (fb f + sO (N b)) ↔ ∃ P t, WV (fp f) b P t ∧ c = fi (fpt y P) * 512 + N t)) (m9 : ∀ P t n i c, tb P t = some n → i < n → ct (tf P t + i) = none → (c ∈ wa (tf P t + i) ↔ ∃ P' t', WC ((4 * t, i) :: P) P' t' ∧ c = fi (fpt y P') * 512 + N t'))
    (m10 : ∀ s, s < nS → ct s = none → wa s ≠ [] → (∃ f b, f < nF ∧ VT V y (fp f) b ∧ s = fb f + sO (N b)) ∨ ∃ P t n i, tb P t = some n ∧ i < n ∧ s = tf P t + i) (m11 : ∀ P t, (Aw P t ∨ (∃ F b, WV F b P t) ∨ ∃ C, WC C P t) → OP V y nF fp fi P ∧ ∃ z, NdA y P t z)
    {P0 : TPth} {t0 : Nat} (hP : OP V y nF fp fi P0) (hz : ∃ z, NdA y P0 t0 z) (hn : ¬ (Aw P0 t0 ∨ (∃ F b, WV F b P0 t0) ∨ ∃ C, WC C P0 t0)) :
    ¬ (fi (fpt y P0) * 512 + N t0) ∈ aw ∧ (∀ s, s < nS → ct s = none → ¬ isL s → ¬ (fi (fpt y P0) * 512 + N t0) ∈ wa s) ∧ LkI (fun c => fb (c / 512) + sO (c % 512)) nS ct isL ((fi (fpt y P0) * 512 + N t0) :: aw) wa := by
  have lv : ∀ d, (d ∈ aw ∨ ∃ s, s < nS ∧ ct s = none ∧ ¬ isL s ∧ d ∈ wa s) → ∃ P t, (Aw P t ∨ (∃ F b, WV F b P t) ∨ ∃ C, WC C P t) ∧ d = fi (fpt y P) * 512 + N t := fun d q => by
    rcases q with q | ⟨s, q1, q2, q3, q4⟩
    · obtain ⟨P, t, u1, u2⟩ := (m7 d).mp q
      exact ⟨P, t, .inl u1, u2⟩
    · rcases m10 s q1 q2 (fun q => by rw [q] at q4; exact absurd q4 List.not_mem_nil) with ⟨f, b, v1, v2, v3⟩ | ⟨P, t, n', i, v1, v2, v3⟩
      · subst v3
        obtain ⟨P, t, u1, u2⟩ := (m8 f b d v1 v2 q2).mp q4
        exact ⟨P, t, .inr (.inl ⟨_, _, u1⟩), u2⟩
      · subst v3
        obtain ⟨P', t', u1, u2⟩ := (m9 P t n' i d v1 v2 q2).mp q4
        exact ⟨P', t', .inr (.inr ⟨_, u1⟩), u2⟩
  have no : ∀ d, (d ∈ aw ∨ ∃ s, s < nS ∧ ct s = none ∧ ¬ isL s ∧ d ∈ wa s) → fi (fpt y P0) * 512 + N t0 ≠ d := fun d q e => by
    obtain ⟨P, t, u1, u2⟩ := lv d q
    obtain ⟨w1, w2⟩ := m11 P t u1
    have := cd_inj C hS hP w1 hz w2 (e.trans u2)
    rw [← this.1, ← this.2] at u1
    exact hn u1
  obtain ⟨c1, c2, c3, c4⟩ := cd_g C hS m3 hP hz
  have hca : ¬ (fi (fpt y P0) * 512 + N t0) ∈ aw := fun q => no _ (.inl q) rfl
  have hcw : ∀ s, s < nS → ct s = none → ¬ isL s → ¬ (fi (fpt y P0) * 512 + N t0) ∈ wa s := fun s q1 q2 q3 q => no _ (.inr ⟨s, q1, q2, q3, q⟩) rfl
  refine ⟨hca, hcw, lk_cn m2 hca hcw ⟨?_, ?_⟩ (fun d q e => ?_)⟩
  · have := hP.2.2.1
    omega
  · show fb ((fi (fpt y P0) * 512 + N t0) / 512) + sO ((fi (fpt y P0) * 512 + N t0) % 512) < nS
    rw [c1, c2]
    exact c3
  · obtain ⟨P, t, u1, u2⟩ := lv d q
    obtain ⟨w1, w2⟩ := m11 P t u1
    rw [u2] at e ⊢
    exact cd_gi C hS m3 hP w1 hz w2 e
theorem ms_nF {ct : Nat → Option TVal} {isL : Nat → Prop} {aw : List Nat} {wa : Nat → List Nat} (h : MS S nS nF fb ow si fo ct tf isL lw aw wa) : nF ≤ 32768 ∧ nF ≤ S.2.2 68 ∧ S.2.2 68 ≤ 32768 ∧ S.2.2 69 = S.2.2 68 ∧ S.2.2 70 = S.2.2 68 ∧ S.2.2 71 = S.2.2 68 := by
  obtain ⟨f1, ⟨a, ha, l1, l2, l3, l4⟩, f3⟩ := h.2.1
  have h9 : (2 : Nat) ^ a ≤ 2 ^ 9 := p2_le ha
  have h9' : (2 : Nat) ^ 9 = 512 := rfl
  omega
/-- a leaf wakes -/
theorem x_wake (C : CGd K pl V y e N M L n ρ τ G) (hS : SLy G n τ sl tO sO kO) (h : MX V y e N L sl tO sO kO S nS nF fb fp fi tf tb ow si fo lw cv vr cc Aw WV WC) {P0 : TPth} {t0 : Nat} (hP : OP V y nF fp fi P0) (hz : ∃ z, NdA y P0 t0 z) (hn : ¬ (Aw P0 t0 ∨ (∃ F b, WV F b P0 t0) ∨ ∃ C, WC C P0 t0)) : ∃ (S' : im_S) (k : Nat), f_X0_add (nI (fi (fpt y P0) * 512 + N t0)) (S.1 38 10) S = some (nI k, S') ∧ MX V y e N L sl tO sO kO (uI S' 38 10 (nI k)) nS nF fb fp fi tf tb ow si fo lw cv vr cc (fun P t => Aw P t ∨ (P = P0 ∧ t = t0)) WV WC ∧ MK S (uI S' 38 10 (nI k)) := by
  obtain ⟨ct, isL, aw, wa, sow, m1, m2, m3, m4, m5, m6, m7, m8, m9, m10, m11⟩ := h
  obtain ⟨n1, n2, n3⟩ := x_new C hS m2 m3 (ms_nF m1).1 m7 m8 m9 m10 m11 hP hz hn
  obtain ⟨S', k, g1, g2, g3⟩ := o_wake m1 n3
  refine ⟨S', k, g1, ⟨ct, isL, _, wa, sow, g2, n3, m3, m4, m5, m6, fun d => ⟨fun q => ?_, fun q => ?_⟩, m8, m9, m10, fun P t q => ?_⟩, g3⟩
  · rcases List.mem_cons.mp q with q | q
    · exact ⟨P0, t0, .inr ⟨rfl, rfl⟩, q⟩
    · obtain ⟨P, t, u1, u2⟩ := (m7 d).mp q
      exact ⟨P, t, .inl u1, u2⟩
  · obtain ⟨P, t, u1 | ⟨u1, u3⟩, u2⟩ := q
    · exact List.mem_cons_of_mem _ ((m7 d).mpr ⟨P, t, u1, u2⟩)
    · rw [u2, u1, u3]
      exact List.mem_cons_self
  · rcases q with (q | ⟨q1, q2⟩) | q
    · exact m11 P t (.inl q)
    · rw [q1, q2]
      exact ⟨hP, hz⟩
    · exact m11 P t (.inr q)
/-- a use waits for a variable -/
theorem x_awv (C : CGd K pl V y e N M L n ρ τ G) (hS : SLy G n τ sl tO sO kO) (hL : ∀ j fs c ns g γ r, (.tag 7 (.tag j (.append fs (.append c (.append ns g)))), γ, r) ∈ scP y → LL fs ∧ LL ns) (h : MX V y e N L sl tO sO kO S nS nF fb fp fi tf tb ow si fo lw cv vr cc Aw WV WC) {P0 : TPth} {t0 f b : Nat} (hP : OP V y nF fp fi P0) (hz : ∃ z, NdA y P0 t0 z) (hn : ¬ (Aw P0 t0 ∨ (∃ F b, WV F b P0 t0) ∨ ∃ C, WC C P0 t0)) (hf : f < nF) (hv : VT V y (fp f) b) (h0 : vr (fp f) b = none) : ∃ S' : im_S, f_X5_await (nI (fb f + sO (N b))) (nI (fi (fpt y P0))) (nI (N t0)) S = some ((), S') ∧ MX V y e N L sl tO sO kO S' nS nF fb fp fi tf tb ow si fo lw cv vr cc Aw (fun F' b' P t => WV F' b' P t ∨ (F' = fp f ∧ b' = b ∧ P = P0 ∧ t = t0)) WC ∧ MK S S' := by
  obtain ⟨ct, isL, aw, wa, sow, m1, m2, m3, m4, m5, m6, m7, m8, m9, m10, m11⟩ := h
  obtain ⟨n1, n2, n3⟩ := x_new C hS m2 m3 (ms_nF m1).1 m7 m8 m9 m10 m11 hP hz hn
  have hv1 := vt_tk C hS hL m3 hf hv
  have w1 := (tk_sl C hS hv1.1).1
  have wp := wk_pos (kO (N b))
  have hs : fb f + sO (N b) < nS := ((m3.1 f hf).2.2.2.2 (sO (N b)) (by omega)).1
  have hct : ct (fb f + sO (N b)) = none := by rw [m5.2.1 f b hf hv]; exact h0
  have hl : ¬ isL (fb f + sO (N b)) := fun q => by
    obtain ⟨f', t', q1, q2, q3, q4⟩ := (m4 _).mp q
    have := ly_ff C hS m3 hf q1 hv1.1 q2 wp (show 1 < wk (kO (N t')) by omega) (show fb f + (sO (N b) + 0) = fb f' + (sO (N t') + 1) by omega)
    omega
  have hx : nI (fi (fpt y P0)) * 512 + nI (N t0) = nI (fi (fpt y P0) * 512 + N t0) := w_mk _ _
  obtain ⟨S', g1, g2, g3⟩ := o_await m1 hx hs hct hl n1 n2 n3
  refine ⟨S', g1, ⟨ct, isL, aw, _, sow, g2, lk_mv n3 hs hct hl, m3, m4, m5, m6, m7, fun f' b' c q1 q2 q3 => ?_, fun P t n' i c q1 q2 q3 => ?_, fun s q1 q2 q3 => ?_, fun P t q => ?_⟩, g3⟩
  · by_cases ee : fb f' + sO (N b') = fb f + sO (N b)
    · obtain ⟨e1, e2⟩ := ly_vv C hS hL m3 q1 q2 hf hv ee
      subst e1
      subst e2
      rw [upN_eq]
      refine ⟨fun q => ?_, fun q => ?_⟩
      · rcases List.mem_cons.mp q with q | q
        · exact ⟨P0, t0, .inr ⟨rfl, rfl, rfl, rfl⟩, q⟩
        · obtain ⟨P, t, u1, u2⟩ := (m8 f' b' c q1 q2 q3).mp q
          exact ⟨P, t, .inl u1, u2⟩
      · obtain ⟨P, t, u1 | ⟨-, -, u1, u3⟩, u2⟩ := q
        · exact List.mem_cons_of_mem _ ((m8 f' b' c q1 q2 q3).mpr ⟨P, t, u1, u2⟩)
        · rw [u2, u1, u3]
          exact List.mem_cons_self
    · rw [upN_ne ee]
      refine ⟨fun q => ?_, fun q => ?_⟩
      · obtain ⟨P, t, u1, u2⟩ := (m8 f' b' c q1 q2 q3).mp q
        exact ⟨P, t, .inl u1, u2⟩
      · obtain ⟨P, t, u1 | ⟨u1, u3, -⟩, u2⟩ := q
        · exact (m8 f' b' c q1 q2 q3).mpr ⟨P, t, u1, u2⟩
        · have ef : f' = f := by rw [← (m3.1 f' q1).1, ← (m3.1 f hf).1, u1]
          exact absurd (by rw [ef, u3]) ee
  · have ee : tf P t + i ≠ fb f + sO (N b) := fun q => ly_fc C hS m3 hf hv1.1 wp q1 q2 q.symm
    rw [upN_ne ee]
    exact m9 P t n' i c q1 q2 q3
  · by_cases ee : s = fb f + sO (N b)
    · exact .inl ⟨f, b, hf, hv, ee⟩
    · rw [upN_ne ee] at q3
      exact m10 s q1 q2 q3
  · rcases q with q | ⟨F, b', q | ⟨-, -, q1, q2⟩⟩ | q
    · exact m11 P t (.inl q)
    · exact m11 P t (.inr (.inl ⟨F, b', q⟩))
    · rw [q1, q2]
      exact ⟨hP, hz⟩
    · exact m11 P t (.inr (.inr q))
end XOP
