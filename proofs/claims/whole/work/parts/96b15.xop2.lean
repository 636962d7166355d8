/-! what the machine does to its memory, told by paths: values -/
section XO2
variable {K pl : Nat → Nat} {V : Nat → Int64} {y : TR} {e : Nat} {N M L : Nat → Nat} {n ρ τ : Nat} {G : im_S} {sl tO sO kO : Nat → Nat} {S : im_S} {nS nF fu : Nat} {fb : Nat → Nat} {fp : Nat → TPth} {fi : TPth → Nat} {tf : TPth → Nat → Nat} {tb : TPth → Nat → Option Nat} {ow si fo : Nat → Int32} {lw : Nat → Int64} {cv vr cv' vr' : TPth → Nat → Option TVal} {cc cc' : TPth → Option TVal} {Aw : TPth → Nat → Prop} {WV : TPth → Nat → TPth → Nat → Prop} {WC : TPth → TPth → Nat → Prop} {a : TVal} {w : Int64}
/-- an element waits for a cell -/
theorem x_awc (C : CGd K pl V y e N M L n ρ τ G) (hS : SLy G n τ sl tO sO kO) (hL : ∀ j fs c ns g γ r, (.tag 7 (.tag j (.append fs (.append c (.append ns g)))), γ, r) ∈ scP y → LL fs ∧ LL ns) (h : MX V y e N L sl tO sO kO S nS nF fb fp fi tf tb ow si fo lw cv vr cc Aw WV WC) {P0 : TPth} {t0 : Nat} (hP : OP V y nF fp fi P0) (hz : ∃ z, NdA y P0 t0 z) (hn : ¬ (Aw P0 t0 ∨ (∃ F b, WV F b P0 t0) ∨ ∃ C, WC C P0 t0)) {P : TPth} {t m i : Nat} (hb : tb P t = some m) (hi : i < m) (h0 : cc ((4 * t, i) :: P) = none) : ∃ S' : im_S, f_X5_await (nI (tf P t + i)) (nI (fi (fpt y P0))) (nI (N t0)) S = some ((), S') ∧ MX V y e N L sl tO sO kO S' nS nF fb fp fi tf tb ow si fo lw cv vr cc Aw WV (fun C' P' t' => WC C' P' t' ∨ (C' = (4 * t, i) :: P ∧ P' = P0 ∧ t' = t0)) ∧ MK S S' := by
  obtain ⟨ct, isL, aw, wa, sow, m1, m2, m3, m4, m5, m6, m7, m8, m9, m10, m11⟩ := h
  obtain ⟨n1, n2, n3⟩ := x_new C hS m2 m3 (ms_nF m1).1 m7 m8 m9 m10 m11 hP hz hn
  have hs : tf P t + i < nS := ((m3.2 P t m hb).2 i hi).1
  have hct : ct (tf P t + i) = none := by rw [m5.2.2 P t m i hb hi]; exact h0
  have hl : ¬ isL (tf P t + i) := fun q => by
    obtain ⟨f', t', q1, q2, q3, q4⟩ := (m4 _).mp q
    exact ly_fc C hS m3 q1 q2 (show 1 < wk (kO (N t')) by omega) hb hi (by omega)
  obtain ⟨S', g1, g2, g3⟩ := o_await m1 (w_mk _ _) hs hct hl n1 n2 n3
  refine ⟨S', g1, ⟨ct, isL, aw, _, sow, g2, lk_mv n3 hs hct hl, m3, m4, m5, m6, m7, fun f' b' c q1 q2 q3 => ?_, fun P1 t1 n' i1 c q1 q2 q3 => ?_, fun s q1 q2 q3 => ?_, fun P1 t1 q => ?_⟩, g3⟩
  · have hv1 := vt_tk C hS hL m3 q1 q2
    have ee : fb f' + sO (N b') ≠ tf P t + i := fun q => ly_fc C hS m3 q1 hv1.1 (wk_pos _) hb hi q
    rw [upN_ne ee]
    exact m8 f' b' c q1 q2 q3
  · by_cases ee : tf P1 t1 + i1 = tf P t + i
    · obtain ⟨e1, e2, e3⟩ := ly_cc m3 q1 q2 hb hi ee
      subst e1
      subst e2
      subst e3
      rw [upN_eq]
      refine ⟨fun q => ?_, fun q => ?_⟩
      · rcases List.mem_cons.mp q with q | q
        · exact ⟨P0, t0, .inr ⟨rfl, rfl, rfl⟩, q⟩
        · obtain ⟨P', t', u1, u2⟩ := (m9 P1 t1 n' i1 c q1 q2 q3).mp q
          exact ⟨P', t', .inl u1, u2⟩
      · obtain ⟨P', t', u1 | ⟨-, u1, u3⟩, u2⟩ := q
        · exact List.mem_cons_of_mem _ ((m9 P1 t1 n' i1 c q1 q2 q3).mpr ⟨P', t', u1, u2⟩)
        · rw [u2, u1, u3]
          exact List.mem_cons_self
    · rw [upN_ne ee]
      refine ⟨fun q => ?_, fun q => ?_⟩
      · obtain ⟨P', t', u1, u2⟩ := (m9 P1 t1 n' i1 c q1 q2 q3).mp q
        exact ⟨P', t', .inl u1, u2⟩
      · obtain ⟨P', t', u1 | ⟨u1, -⟩, u2⟩ := q
        · exact (m9 P1 t1 n' i1 c q1 q2 q3).mpr ⟨P', t', u1, u2⟩
        · have e4 : 4 * t1 = 4 * t := congrArg Prod.fst (List.cons.inj u1).1
          have e5 : i1 = i := congrArg Prod.snd (List.cons.inj u1).1
          have e6 : P1 = P := (List.cons.inj u1).2
          have e7 : t1 = t := by omega
          exact absurd (by rw [e5, e6, e7]) ee
  · by_cases ee : s = tf P t + i
    · exact .inr ⟨P, t, m, i, hb, hi, ee⟩
    · rw [upN_ne ee] at q3
      exact m10 s q1 q2 q3
  · rcases q with q | q | ⟨C', q | ⟨-, q1, q2⟩⟩
    · exact m11 P1 t1 (.inl q)
    · exact m11 P1 t1 (.inr (.inl q))
    · exact m11 P1 t1 (.inr (.inr ⟨C', q⟩))
    · rw [q1, q2]
      exact ⟨hP, hz⟩
/-- a node's value is put down -/
theorem x_put (C : CGd K pl V y e N M L n ρ τ G) (hS : SLy G n τ sl tO sO kO) (hL : ∀ j fs c ns g γ r, (.tag 7 (.tag j (.append fs (.append c (.append ns g)))), γ, r) ∈ scP y → LL fs ∧ LL ns) (h : MX V y e N L sl tO sO kO S nS nF fb fp fi tf tb ow si fo lw cv vr cc Aw WV WC) {P0 : TPth} {t0 : Nat} (hP : OP V y nF fp fi P0) (hz : ∃ z, NdA y P0 t0 z) (h0 : cv P0 t0 = none) (ha : 1 ≤ a.1 ∧ a.1 ≤ 4) (hE : EcW tf a w) (ht : a.1 = 3 → ∃ m, tb a.2.2.1 a.2.2.2 = some m ∧ a.2.1 = Int64.ofNat m) (hcv : ∀ P t, cv' P t = if P = P0 ∧ t = t0 then some a else cv P t) :
    f_X8_put (nI (fb (fi (fpt y P0)) + sO (N t0))) (nI a.1) w S = some ((), uJ (uI S 65 (fb (fi (fpt y P0)) + sO (N t0)) (nI a.1)) 66 (fb (fi (fpt y P0)) + sO (N t0)) w) ∧ MX V y e N L sl tO sO kO (uJ (uI S 65 (fb (fi (fpt y P0)) + sO (N t0)) (nI a.1)) 66 (fb (fi (fpt y P0)) + sO (N t0)) w) nS nF fb fp fi tf tb ow si fo lw cv' vr cc Aw WV WC ∧ MK S (uJ (uI S 65 (fb (fi (fpt y P0)) + sO (N t0)) (nI a.1)) 66 (fb (fi (fpt y P0)) + sO (N t0)) w) := by
  obtain ⟨ct, isL, aw, wa, sow, m1, m2, m3, m4, m5, m6, m7, m8, m9, m10, m11⟩ := h
  obtain ⟨z, z1, z2, z3, z4⟩ := hz
  have hb : rtk z.1 = otk z.1 := z4.trans z3.symm
  subst z3
  have k1 := op_tk C hS hP z1 z2 hb
  have hs := (cd_g C hS m3 hP ⟨z, z1, z2, rfl, hb⟩).2.2.1
  have hct : ct (fb (fi (fpt y P0)) + sO (N (otk z.1))) = none := by rw [m5.1 P0 z hP z1 z2 hb]; exact h0
  have hl : ¬ isL (fb (fi (fpt y P0)) + sO (N (otk z.1))) := fun q => by
    obtain ⟨f', t', q1, q2, q3, q4⟩ := (m4 _).mp q
    have := ly_ff C hS m3 hP.2.2.1 q1 k1.1 q2 (wk_pos _) (show 1 < wk (kO (N t')) by omega) (show fb (fi (fpt y P0)) + (sO (N (otk z.1)) + 0) = fb f' + (sO (N t') + 1) by omega)
    omega
  have hv : ∀ {f b : Nat}, f < nF → VT V y (fp f) b → fb f + sO (N b) ≠ fb (fi (fpt y P0)) + sO (N (otk z.1)) := fun q1 q2 q => ly_nv C hS hL m3 hP z1 z2 hb q1 q2 q.symm
  have hc : ∀ {P : TPth} {t m i : Nat}, tb P t = some m → i < m → tf P t + i ≠ fb (fi (fpt y P0)) + sO (N (otk z.1)) := fun q1 q2 q => ly_fc C hS m3 hP.2.2.1 k1.1 (wk_pos _) q1 q2 q.symm
  have hw : wa (fb (fi (fpt y P0)) + sO (N (otk z.1))) = [] := by
    cases hq : wa (fb (fi (fpt y P0)) + sO (N (otk z.1))) with
    | nil => rfl
    | cons u l =>
      rcases m10 _ hs hct (by rw [hq]; exact List.cons_ne_nil _ _) with ⟨f, b, q1, q2, q3⟩ | ⟨P, t, m, i, q1, q2, q3⟩
      · exact absurd q3.symm (hv q1 q2)
      · exact absurd q3.symm (hc q1 q2)
  obtain ⟨g1, g2, g3⟩ := o_put m1 hs hct hl hw ha hE
  refine ⟨g1, ⟨_, isL, aw, wa, sow, g2, lk_pt m2, m3, m4, ⟨fun P z' q1 q2 q3 q4 => ?_, fun f b q1 q2 => ?_, fun P t m i q1 q2 => ?_⟩, fun s a' q => ?_, m7, fun f b c q1 q2 q3 => ?_, fun P t m i c q1 q2 q3 => ?_, fun s q1 q2 q3 => ?_, m11⟩, g3⟩
  · rw [hcv]
    by_cases ee : fb (fi (fpt y P)) + sO (N (otk z'.1)) = fb (fi (fpt y P0)) + sO (N (otk z.1))
    · obtain ⟨e1, e2⟩ := ly_nn C hS m3 q1 hP q2 q3 q4 z1 z2 hb ee
      rw [ee, upN_eq, if_pos ⟨e1, e2⟩]
    · rw [upN_ne ee, if_neg (fun q => ee (by rw [q.1, q.2]))]
      exact m5.1 P z' q1 q2 q3 q4
  · rw [upN_ne (hv q1 q2)]
    exact m5.2.1 f b q1 q2
  · rw [upN_ne (hc q1 q2)]
    exact m5.2.2 P t m i q1 q2
  · by_cases ee : s = fb (fi (fpt y P0)) + sO (N (otk z.1))
    · rw [ee, upN_eq] at q
      cases q
      exact ht
    · rw [upN_ne ee] at q
      exact m6 s a' q
  · rw [upN_ne (hv q1 q2)] at q3
    exact m8 f b c q1 q2 q3
  · rw [upN_ne (hc q1 q2)] at q3
    exact m9 P t m i c q1 q2 q3
  · by_cases ee : s = fb (fi (fpt y P0)) + sO (N (otk z.1))
    · rw [ee, upN_eq] at q2
      cases q2
    · rw [upN_ne ee] at q2
      exact m10 s q1 q2 q3
/-- a variable's value is settled -/
theorem x_setv (hfu : 600000 ≤ fu) (C : CGd K pl V y e N M L n ρ τ G) (hS : SLy G n τ sl tO sO kO) (hL : ∀ j fs c ns g γ r, (.tag 7 (.tag j (.append fs (.append c (.append ns g)))), γ, r) ∈ scP y → LL fs ∧ LL ns) (h : MX V y e N L sl tO sO kO S nS nF fb fp fi tf tb ow si fo lw cv vr cc Aw WV WC) {f0 b0 : Nat} (hf0 : f0 < nF) (hv0 : VT V y (fp f0) b0) (h0 : vr (fp f0) b0 = none) (ha : 1 ≤ a.1 ∧ a.1 ≤ 4) (hE : EcW tf a w) (ht : a.1 = 3 → ∃ m, tb a.2.2.1 a.2.2.2 = some m ∧ a.2.1 = Int64.ofNat m) (hvr : ∀ F b, vr' F b = if F = fp f0 ∧ b = b0 then some a else vr F b) :
    ∃ S' : im_S, f_X5_settle fu (nI (fb f0 + sO (N b0))) (nI a.1) w S = some ((), S') ∧ MX V y e N L sl tO sO kO S' nS nF fb fp fi tf tb ow si fo lw cv vr' cc (fun P t => Aw P t ∨ WV (fp f0) b0 P t) (fun F b P t => WV F b P t ∧ ¬ (F = fp f0 ∧ b = b0)) WC ∧ MK S S' := by
  obtain ⟨ct, isL, aw, wa, sow, m1, m2, m3, m4, m5, m6, m7, m8, m9, m10, m11⟩ := h
  have k1 := vt_tk C hS hL m3 hf0 hv0
  have w1 := (tk_sl C hS k1.1).1
  have wp := wk_pos (kO (N b0))
  have hs : fb f0 + sO (N b0) < nS := ((m3.1 f0 hf0).2.2.2.2 (sO (N b0)) (by omega)).1
  have hct : ct (fb f0 + sO (N b0)) = none := by rw [m5.2.1 f0 b0 hf0 hv0]; exact h0
  have hl : ¬ isL (fb f0 + sO (N b0)) := fun q => by
    obtain ⟨f', t', q1, q2, q3, q4⟩ := (m4 _).mp q
    have := ly_ff C hS m3 hf0 q1 k1.1 q2 wp (show 1 < wk (kO (N t')) by omega) (show fb f0 + (sO (N b0) + 0) = fb f' + (sO (N t') + 1) by omega)
    omega
  have hfe : ∀ {f : Nat}, f < nF → fp f = fp f0 → f = f0 := fun q1 q2 => by rw [← (m3.1 _ q1).1, ← (m3.1 f0 hf0).1, q2]
  obtain ⟨S', g1, g2, g3⟩ := o_settle hfu m1 hs hct hl ha hE
  refine ⟨S', g1, ⟨_, isL, _, wa, sow, g2, lk_st m2 hs hct hl, m3, m4, ⟨fun P z' q1 q2 q3 q4 => ?_, fun f b q1 q2 => ?_, fun P t m i q1 q2 => ?_⟩, fun s a' q => ?_, fun c => ⟨fun q => ?_, fun q => ?_⟩, fun f b c q1 q2 q3 => ?_, fun P t m i c q1 q2 q3 => ?_, fun s q1 q2 q3 => ?_, fun P t q => ?_⟩, g3⟩
  · rw [upN_ne (ly_nv C hS hL m3 q1 q2 q3 q4 hf0 hv0)]
    exact m5.1 P z' q1 q2 q3 q4
  · rw [hvr]
    by_cases ee : fb f + sO (N b) = fb f0 + sO (N b0)
    · obtain ⟨e1, e2⟩ := ly_vv C hS hL m3 q1 q2 hf0 hv0 ee
      rw [ee, upN_eq, if_pos ⟨by rw [e1], e2⟩]
    · rw [upN_ne ee, if_neg (fun q => ee (by rw [hfe q1 q.1, q.2]))]
      exact m5.2.1 f b q1 q2
  · rw [upN_ne (show tf P t + i ≠ fb f0 + sO (N b0) from fun q => ly_fc C hS m3 hf0 k1.1 wp q1 q2 q.symm)]
    exact m5.2.2 P t m i q1 q2
  · by_cases ee : s = fb f0 + sO (N b0)
    · rw [ee, upN_eq] at q
      cases q
      exact ht
    · rw [upN_ne ee] at q
      exact m6 s a' q
  · rcases List.mem_append.mp q with q | q
    · obtain ⟨P, t, u1, u2⟩ := (m8 f0 b0 c hf0 hv0 hct).mp (List.mem_reverse.mp q)
      exact ⟨P, t, .inr u1, u2⟩
    · obtain ⟨P, t, u1, u2⟩ := (m7 c).mp q
      exact ⟨P, t, .inl u1, u2⟩
  · obtain ⟨P, t, u1 | u1, u2⟩ := q
    · exact List.mem_append_right _ ((m7 c).mpr ⟨P, t, u1, u2⟩)
    · exact List.mem_append_left _ (List.mem_reverse.mpr ((m8 f0 b0 c hf0 hv0 hct).mpr ⟨P, t, u1, u2⟩))
  · have ee : fb f + sO (N b) ≠ fb f0 + sO (N b0) := fun q => by
      rw [q, upN_eq] at q3
      cases q3
    rw [upN_ne ee] at q3
    rw [m8 f b c q1 q2 q3]
    refine ⟨fun ⟨P, t, u1, u2⟩ => ⟨P, t, ⟨u1, fun q => ee (by rw [hfe q1 q.1, q.2])⟩, u2⟩, fun ⟨P, t, u1, u2⟩ => ⟨P, t, u1.1, u2⟩⟩
  · rw [upN_ne (show tf P t + i ≠ fb f0 + sO (N b0) from fun q => ly_fc C hS m3 hf0 k1.1 wp q1 q2 q.symm)] at q3
    exact m9 P t m i c q1 q2 q3
  · by_cases ee : s = fb f0 + sO (N b0)
    · exact .inl ⟨f0, b0, hf0, hv0, ee⟩
    · rw [upN_ne ee] at q2
      exact m10 s q1 q2 q3
  · rcases q with (q | q) | ⟨F, b, q⟩ | q
    · exact m11 P t (.inl q)
    · exact m11 P t (.inr (.inl ⟨_, _, q⟩))
    · exact m11 P t (.inr (.inl ⟨F, b, q.1⟩))
    · exact m11 P t (.inr (.inr q))
/-- a cell's value is settled -/
theorem x_setc (hfu : 600000 ≤ fu) (C : CGd K pl V y e N M L n ρ τ G) (hS : SLy G n τ sl tO sO kO) (hL : ∀ j fs c ns g γ r, (.tag 7 (.tag j (.append fs (.append c (.append ns g)))), γ, r) ∈ scP y → LL fs ∧ LL ns) (h : MX V y e N L sl tO sO kO S nS nF fb fp fi tf tb ow si fo lw cv vr cc Aw WV WC) {P0 : TPth} {t0 m0 i0 : Nat} (hb0 : tb P0 t0 = some m0) (hi0 : i0 < m0) (h0 : cc ((4 * t0, i0) :: P0) = none) (ha : 1 ≤ a.1 ∧ a.1 ≤ 4) (hE : EcW tf a w) (ht : a.1 = 3 → ∃ m, tb a.2.2.1 a.2.2.2 = some m ∧ a.2.1 = Int64.ofNat m) (hcc : ∀ D, cc' D = if D = (4 * t0, i0) :: P0 then some a else cc D) :
    ∃ S' : im_S, f_X5_settle fu (nI (tf P0 t0 + i0)) (nI a.1) w S = some ((), S') ∧ MX V y e N L sl tO sO kO S' nS nF fb fp fi tf tb ow si fo lw cv vr cc' (fun P t => Aw P t ∨ WC ((4 * t0, i0) :: P0) P t) WV (fun D P t => WC D P t ∧ D ≠ (4 * t0, i0) :: P0) ∧ MK S S' := by
  obtain ⟨ct, isL, aw, wa, sow, m1, m2, m3, m4, m5, m6, m7, m8, m9, m10, m11⟩ := h
  have hs : tf P0 t0 + i0 < nS := ((m3.2 P0 t0 m0 hb0).2 i0 hi0).1
  have hct : ct (tf P0 t0 + i0) = none := by rw [m5.2.2 P0 t0 m0 i0 hb0 hi0]; exact h0
  have hl : ¬ isL (tf P0 t0 + i0) := fun q => by
    obtain ⟨f', t', q1, q2, q3, q4⟩ := (m4 _).mp q
    exact ly_fc C hS m3 q1 q2 (show 1 < wk (kO (N t')) by omega) hb0 hi0 (by omega)
  have hce : ∀ {P : TPth} {t i : Nat}, (4 * t, i) :: P = (4 * t0, i0) :: P0 → tf P t + i = tf P0 t0 + i0 := fun {P t i} q => by
    have e4 : 4 * t = 4 * t0 := congrArg Prod.fst (List.cons.inj q).1
    have e5 : i = i0 := congrArg Prod.snd (List.cons.inj q).1
    have e6 : P = P0 := (List.cons.inj q).2
    have e7 : t = t0 := by omega
    rw [e5, e6, e7]
  obtain ⟨S', g1, g2, g3⟩ := o_settle hfu m1 hs hct hl ha hE
  refine ⟨S', g1, ⟨_, isL, _, wa, sow, g2, lk_st m2 hs hct hl, m3, m4, ⟨fun P z' q1 q2 q3 q4 => ?_, fun f b q1 q2 => ?_, fun P t m i q1 q2 => ?_⟩, fun s a' q => ?_, fun c => ⟨fun q => ?_, fun q => ?_⟩, fun f b c q1 q2 q3 => ?_, fun P t m i c q1 q2 q3 => ?_, fun s q1 q2 q3 => ?_, fun P t q => ?_⟩, g3⟩
  · rw [upN_ne (show fb (fi (fpt y P)) + sO (N (otk z'.1)) ≠ tf P0 t0 + i0 from fun q => ly_fc C hS m3 q1.2.2.1 (op_tk C hS q1 q2 q3 q4).1 (wk_pos _) hb0 hi0 q)]
    exact m5.1 P z' q1 q2 q3 q4
  · rw [upN_ne (show fb f + sO (N b) ≠ tf P0 t0 + i0 from fun q => ly_fc C hS m3 q1 (vt_tk C hS hL m3 q1 q2).1 (wk_pos _) hb0 hi0 q)]
    exact m5.2.1 f b q1 q2
  · rw [hcc]
    by_cases ee : tf P t + i = tf P0 t0 + i0
    · obtain ⟨e1, e2, e3⟩ := ly_cc m3 q1 q2 hb0 hi0 ee
      rw [ee, upN_eq, if_pos (by rw [e1, e2, e3])]
    · rw [upN_ne ee, if_neg (fun q => ee (hce q))]
      exact m5.2.2 P t m i q1 q2
  · by_cases ee : s = tf P0 t0 + i0
    · rw [ee, upN_eq] at q
      cases q
      exact ht
    · rw [upN_ne ee] at q
      exact m6 s a' q
  · rcases List.mem_append.mp q with q | q
    · obtain ⟨P, t, u1, u2⟩ := (m9 P0 t0 m0 i0 c hb0 hi0 hct).mp (List.mem_reverse.mp q)
      exact ⟨P, t, .inr u1, u2⟩
    · obtain ⟨P, t, u1, u2⟩ := (m7 c).mp q
      exact ⟨P, t, .inl u1, u2⟩
  · obtain ⟨P, t, u1 | u1, u2⟩ := q
    · exact List.mem_append_right _ ((m7 c).mpr ⟨P, t, u1, u2⟩)
    · exact List.mem_append_left _ (List.mem_reverse.mpr ((m9 P0 t0 m0 i0 c hb0 hi0 hct).mpr ⟨P, t, u1, u2⟩))
  · rw [upN_ne (show fb f + sO (N b) ≠ tf P0 t0 + i0 from fun q => ly_fc C hS m3 q1 (vt_tk C hS hL m3 q1 q2).1 (wk_pos _) hb0 hi0 q)] at q3
    exact m8 f b c q1 q2 q3
  · have ee : tf P t + i ≠ tf P0 t0 + i0 := fun q => by
      rw [q, upN_eq] at q3
      cases q3
    rw [upN_ne ee] at q3
    rw [m9 P t m i c q1 q2 q3]
    refine ⟨fun ⟨P', t', u1, u2⟩ => ⟨P', t', ⟨u1, fun q => ee (hce q)⟩, u2⟩, fun ⟨P', t', u1, u2⟩ => ⟨P', t', u1.1, u2⟩⟩
  · by_cases ee : s = tf P0 t0 + i0
    · exact .inr ⟨P0, t0, m0, i0, hb0, hi0, ee⟩
    · rw [upN_ne ee] at q2
      exact m10 s q1 q2 q3
  · rcases q with (q | q) | q | ⟨D, q⟩
    · exact m11 P t (.inl q)
    · exact m11 P t (.inr (.inr ⟨_, q⟩))
    · exact m11 P t (.inr (.inl q))
    · exact m11 P t (.inr (.inr ⟨D, q.1⟩))
/-- the number of a frame beside a call or loop -/
theorem x_sec (C : CGd K pl V y e N M L n ρ τ G) (hS : SLy G n τ sl tO sO kO) (h : MX V y e N L sl tO sO kO S nS nF fb fp fi tf tb ow si fo lw cv vr cc Aw WV WC) {P0 : TPth} (hP : OP V y nF fp fi P0) {z : TR × List Nat × Nat} (z1 : z ∈ scP y) (z2 : z.2.2 = hdR P0) (hb : rtk z.1 = otk z.1) (hk : kdN z.1 = 8 ∨ kdN z.1 = 9) : MX V y e N L sl tO sO kO (uJ S 66 (fb (fi (fpt y P0)) + sO (N (otk z.1)) + 1) w) nS nF fb fp fi tf tb ow si fo (upN lw (fb (fi (fpt y P0)) + sO (N (otk z.1)) + 1) w) cv vr cc Aw WV WC ∧ MK S (uJ S 66 (fb (fi (fpt y P0)) + sO (N (otk z.1)) + 1) w) := by
  obtain ⟨ct, isL, aw, wa, sow, m1, m2, m3, m4, mr⟩ := h
  obtain ⟨k1, k2⟩ := op_tk C hS hP z1 z2 hb
  obtain ⟨g1, g2⟩ := o_sec (w := w) m1 (s := fb (fi (fpt y P0)) + sO (N (otk z.1)) + 1) ((m4 _).mpr ⟨_, _, hP.2.2.1, k1, by rw [k2]; unfold wk; rw [if_pos hk], rfl⟩)
  exact ⟨⟨ct, isL, aw, wa, sow, g1, m2, m3, m4, mr⟩, g2⟩
end XO2
