/-! the law's steps: compile, and the calls that only read -/
section STP
variable {fu : Nat} {c : Nat → Int32} {S S2 : im_S}
theorem comp_len (hc : (c 0 &&& 15) = (1 : Int32)) (h : lw_step fu c S S2) : ∀ a, 64 ≤ a → S2.2.2 a = S.2.2 a := by
  unfold lw_step at h
  rw [if_neg (show ¬ (c 0 &&& 15) = (0 : Int32) by rw [hc]; decide), if_pos hc] at h
  obtain ⟨o1, S1, r2, S3, r3, S4, h1, -, h2, h3, -, -, -, -, h4⟩ := h
  have k3 := f_X11_thrown_k S3 r3 S4 h3
  have k2 := f_X11_compile_k fu (hs_compile o1 S1) r2 S3 h2
  unfold f_X10_compile at h1
  obtain ⟨q, hq, hb⟩ := bd_some h1
  have kX := f_X7_read_k fu (S.1 0 4) (uI S 0 4 0) q.1 q.2 hq
  intro a ha
  have e1 : S1.2.2 a = S.2.2 a := by
    by_cases c0 : (q.1 : Int32) ≠ 0
    · rw [if_pos c0] at hb
      cases hb
      show q.2.2.2 (sw a) = S.2.2 a
      rw [sw_id (by omega)]
      exact kX.2 a rfl
    · rw [if_neg c0] at hb
      cases hb
      exact kX.2 a rfl
  have e2 : (hs_compile o1 S1).2.2 a = S1.2.2 a := by
    cases o1 with
    | inl E => rfl
    | inr x => rfl
  rw [← h4]
  exact ((k3.2 a rfl).trans (k2.2 a rfl)).trans (e2.trans e1)
theorem pg_cnt (h : PgI S) : S.1 56 3 = S.1 75 35 := by
  obtain ⟨K, pl, V, m, y, e, N, M, L, n, ρ, τ, fr, n', r', ν, ρ', W, G, T, g1, g2, g3, -⟩ := h
  exact ((g2 22 3 (by omega) (by omega)).1.trans g1.2.2.2.2.2.2.2.2.2.2.2.2.1).trans g3.2.2.2.2.2.2.2.1.symm
/-- compile -/
theorem law_s1 (hfu : 600 ≤ fu) (hc : (c 0 &&& 15) = (1 : Int32)) (h : LwI S) : ∃ S', lw_step fu c S S' ∧ gP S ≤ gP S' ∧ gP S' ≤ lw_B ∧ LwI S' := by
  obtain ⟨⟨hT, ⟨s, s1, s2⟩, e1, e2⟩, ⟨e3, e4, e5, e6, t, t1, t2⟩, hl, hp, hr⟩ := h
  obtain ⟨S2, f, g1, g2, g3, g4, g5, g6, g7, g8⟩ := step_c hfu c hc hT s2 s1
  have hln := comp_len hc g1
  obtain ⟨q1, q2⟩ := FSg_f g4 g5
  refine ⟨S2, g1, Nat.le_of_eq g2.symm, by rw [g2]; exact ln_gP hl, ?_⟩
  by_cases cf : f = 4000
  · obtain ⟨p1, ⟨d1, d2, d3, d4, d5, d6, d7⟩, p3⟩ := g8 cf
    have z : ∀ i : Nat, i = 75 ∨ i = 76 → S2.1 75 i = S.1 75 i := fun i q => (d7 75 i (by omega) (by omega) (by unfold kc; omega) (by omega) (by omega) (by omega)).1
    refine ⟨⟨g6, ⟨1 - s, by omega, p3⟩, q1, q2⟩, ⟨pg_cnt p1, d2.trans d6.symm, ?_, ?_, t, t1, (z 75 (by omega)).trans t2⟩, lng_cg hl (fun i => (d1 65 i (by omega) (by omega) (by omega)).1) (fun a q1 _ => hln a q1), .inl p1, .inl ⟨d3, d5⟩⟩
    · rw [(d1 0 5 (by omega) (by omega) (by omega)).1, z 75 (by omega)]
      exact e5
    · rw [(d1 0 6 (by omega) (by omega) (by omega)).1, z 76 (by omega)]
      exact e6
  · have F := g7 (by omega)
    obtain ⟨F1, F2, F3⟩ := id F
    have z : ∀ i : Nat, i = 35 ∨ i = 37 ∨ i = 40 ∨ i = 57 ∨ i = 64 ∨ i = 68 ∨ (72 ≤ i ∧ i ≤ 76) → S2.1 75 i = S.1 75 i := fun i q => (F3 75 i (by omega) (by unfold kc; omega) (by omega)).1
    refine ⟨⟨g6, ⟨s, s1, (z 37 (by omega)).trans s2⟩, q1, q2⟩, ⟨by rw [(F1 56 3 (by omega) (by omega)).1, z 35 (by omega)]; exact e3, by rw [(F1 38 2 (by omega) (by omega)).1, z 74 (by omega)]; exact e4, by rw [(F1 0 5 (by omega) (by omega)).1, z 75 (by omega)]; exact e5, by rw [(F1 0 6 (by omega) (by omega)).1, z 76 (by omega)]; exact e6, t, t1, (z 75 (by omega)).trans t2⟩, lng_cg hl (fun i => (F1 65 i (by omega) (by omega)).1) (fun a q1 _ => hln a q1), ?_, ?_⟩
    · rcases hp with hp | hp
      · exact .inl (PgI_fl hp s2 s1 F)
      · exact .inr ((z 35 (by omega)).trans hp)
    · rcases hr with hr | hr
      · exact .inl ⟨(F1 38 9 (by omega) (by omega)).1.trans hr.1, (z 73 (by omega)).trans hr.2⟩
      · obtain ⟨K, pl, V, m, y, e, N, M, L, n, ρ, τ, fr, n', r', ν, ρ', W, G, sl, tO, sO, kO, crt, q0, cnt, xf, ar, ev, nA, nB, nT, A, b, vals, lk, Mt, Lv, f1, f2, ⟨T, X, g2, g3, g4⟩, ⟨u1, u2, u3, u4⟩, I, I2⟩ := hr
        have hfr : fr = 8 * s := by
          have h9 := g3.2.2.2.2.2.2.2.2.1
          have h5 := g3.2.2.2.2.1
          rw [s2, show (8 : Int32) * nI s = nI (8 * s) from by rw [show (8 : Int32) = nI 8 from rfl, nI_mul]] at h9
          exact ((nI_eq (by omega) (by omega)).mp h9).symm
        refine .inr ⟨K, pl, V, m, y, e, N, M, L, n, ρ, τ, fr, n', r', ν, ρ', W, G, sl, tO, sO, kO, crt, q0, cnt, xf, ar, ev, nA, nB, nT, A, b, vals, lk, Mt, Lv, f1, f2, ⟨T, X, fun a k q1 q2 => ?_, RHd_ag g3 (fun a i q1 q2 => F2 a i (by unfold Pr; omega)) (fun a i q => F2 a i (by unfold Pr; omega)) (fun a i q => (F3 a i (by omega) (by unfold kc; omega) (by omega)).1) (fun i q => z i (by omega)), g4⟩, ⟨u1, rni_cg u2 (fun a i q1 q2 => F1 a i (by omega) (by omega)) (fun a q1 _ => hln a q1), (z 73 (by omega)).trans u3, (z 74 (by omega)).trans u4⟩, RI_c2 I (fun i q => z i (by omega)) (fun a i q1 q2 => (F3 a i (by omega) (by unfold kc; omega) (by omega)).1) (fun i => (F3 127 i (by omega) (by unfold kc; omega) (by omega)).2), I2⟩
        obtain ⟨t1, t2⟩ := F1 (a + 34) k (by omega) (by omega)
        obtain ⟨v1, v2⟩ := g2 a k q1 q2
        exact ⟨t1.trans v1, t2.trans v2⟩
/-- the state, whatever has been thrown -/
theorem rb_st (h : LwI S) (v : Int32) : ∃ k : Int32, f_X5_condition S = some (k, S) ∧ f_X11_stateOf (uI S 75 0 v) = some (k, uI S 75 0 v) ∧ (k = 2 → ∃ (s nT : Nat) (a : TVal) (Mt : Nat → TPth × Nat) (tf : TPth → Nat → Nat), f_X11_rootSlot 0 (uI S 75 0 v) = some (nI s, uI S 75 0 v) ∧ s < 496496 ∧ Sl (uI S 75 0 v) Mt nT s (some a) ∧ nT ≤ 1021 ∧ S.1 38 3 = nI a.1 ∧ EcW tf a (S.2.1 38 4)) := by
  rcases h.2.2.2.2 with hr | hr
  · refine ⟨0, ?_, ?_, fun q => absurd q (by decide)⟩
    · unfold f_X5_condition
      rw [hr.1, if_neg (by decide)]
    · unfold f_X11_stateOf
      rw [uI_ne (by omega), hr.2, if_neg (by decide)]
  · obtain ⟨K, pl, V, m, y, e, N, M, L, n, ρ, τ, fr, n', r', ν, ρ', W, G, sl, tO, sO, kO, crt, q0, cnt, xf, ar, ev, nA, nB, nT, A, b, vals, lk, Mt, Lv, f1, f2, ⟨T, X, g2, g3, g4⟩, ⟨u1, u2, u3, u4⟩, I, I2, I3⟩ := hr
    have Rd := RHd_ag (S' := uI S 75 0 v) g3 (fun a i q1 q2 => ⟨uI_ne (by omega), rfl⟩) (fun a i q => ⟨uI_ne (by omega), rfl⟩) (fun a i q => uI_ne (by omega)) (fun i q => uI_ne (by omega))
    have I' := RI_c2 (S' := uI S 75 0 v) I (fun i q => uI_ne (by omega)) (fun a i q1 q2 => uI_ne (by omega)) (fun i => rfl)
    have h73 : (uI S 75 0 v).1 75 73 ≠ 0 := by rw [uI_ne (by omega), u3]; decide
    have h74 : (uI S 75 0 v).1 75 74 = nI ev := by rw [uI_ne (by omega)]; exact u4
    have hnT : nT ≤ 1021 := by
      have := I.2.2.2.2.2.2.2.2.2.2.2
      omega
    rcases st_cmp T X Rd I' I2 I3 u1 h73 h74 u2 with ⟨-, c1, c2⟩ | ⟨-, ⟨c1, c2⟩ | ⟨c1, c2⟩ | ⟨c1, c2, s, a, d1, d2, d3, d4, tf, d5⟩⟩
    · exact ⟨1, c1, c2, fun q => absurd q (by decide)⟩
    · exact ⟨4, c1, c2, fun q => absurd q (by decide)⟩
    · exact ⟨3, c1, c2, fun q => absurd q (by decide)⟩
    · exact ⟨2, c1, c2, fun _ => ⟨s, nT, a, Mt, tf, d1, d2, d3, hnT, d4, d5⟩⟩
theorem fault_gd (x : Int32) (h0 : S.1 5 0 = S.1 75 3) (h1 : S.1 5 1 = S.1 75 4) : ∃ r : Int32, f_X10_fault x S = some (r, S) ∧ f_X11_fault x S = some (r, uI S 75 0 0) := by
  by_cases b0 : x = 0
  · exact ⟨S.1 5 0, by rw [f_X10_fault, if_pos b0], by rw [f_X11_fault, if_neg (fun q => q b0), h0]⟩
  by_cases b1 : x = 1
  · exact ⟨S.1 5 1, by rw [f_X10_fault, if_neg b0, if_pos b1], by rw [f_X11_fault, if_pos b0, if_neg (fun q => q b1), h1]⟩
  · exact ⟨-1, by rw [f_X10_fault, if_neg b0, if_neg b1], by rw [f_X11_fault, if_pos b0, if_pos b1]⟩
theorem count_gd (x : Int32) (h0 : S.1 38 2 = S.1 75 74) (h1 : S.1 0 5 = S.1 75 75) (h2 : S.1 56 3 = S.1 75 35) (h3 : S.1 0 6 = S.1 75 76) : ∃ r : Int32, f_X10_count x S = some (r, S) ∧ f_X11_count x S = some (r, uI S 75 0 0) := by
  by_cases b0 : x = 0
  · exact ⟨S.1 38 2, by rw [f_X10_count, if_pos b0], by rw [f_X11_count, if_neg (fun q => q b0), h0]⟩
  by_cases b1 : x = 1
  · exact ⟨S.1 0 5, by rw [f_X10_count, if_neg b0, if_pos b1], by rw [f_X11_count, if_pos b0, if_neg (fun q => q b1), h1]⟩
  by_cases b2 : x = 2
  · exact ⟨S.1 56 3, by rw [f_X10_count, if_neg b0, if_neg b1, if_pos b2], by rw [f_X11_count, if_pos b0, if_pos b1, if_neg (fun q => q b2), h2]⟩
  by_cases b3 : x = 3
  · exact ⟨S.1 0 6, by rw [f_X10_count, if_neg b0, if_neg b1, if_neg b2, if_pos b3], by rw [f_X11_count, if_pos b0, if_pos b1, if_pos b2, if_neg (fun q => q b3), h3]⟩
  · exact ⟨-1, by rw [f_X10_count, if_neg b0, if_neg b1, if_neg b2, if_neg b3], by rw [f_X11_count, if_pos b0, if_pos b1, if_pos b2, if_pos b3]⟩
theorem state_gd (h : LwI S) : ∃ r : Int32, f_X10_state S = some (r, S) ∧ f_X11_state S = some (r, uI S 75 0 0) := by
  obtain ⟨k, k1, k2, -⟩ := rb_st h 0
  exact ⟨k, by rw [f_X10_state, k1]; rfl, by rw [f_X11_state, k2]; rfl⟩
theorem kind_gd (h : LwI S) : ∃ r : Int32, f_X10_kind S = some (r, S) ∧ f_X11_kind S = some (r, uI S 75 0 0) := by
  obtain ⟨k, k1, k2, k3⟩ := rb_st h 0
  by_cases c2 : k = 2
  · obtain ⟨s, nT, a, Mt, tf, d1, d2, d3, -, d4, d5⟩ := k3 c2
    refine ⟨nI a.1, ?_, ?_⟩
    · rw [f_X10_kind, k1]
      simp only [Option.bind_some]
      rw [if_neg (fun q => q c2), d4]
    · rw [f_X11_kind, k2]
      simp only [Option.bind_some]
      rw [if_neg (fun q => q c2), d1]
      simp only [Option.bind_some]
      rw [mI_in (a := s) (n := 520000) (by omega) (by omega), nI_clamp (show s < 2 ^ 31 by omega), d3.1]
      rfl
  · refine ⟨0, ?_, ?_⟩
    · rw [f_X10_kind, k1]
      simp only [Option.bind_some]
      rw [if_pos c2]
    · rw [f_X11_kind, k2]
      simp only [Option.bind_some]
      rw [if_pos c2]
end STP
