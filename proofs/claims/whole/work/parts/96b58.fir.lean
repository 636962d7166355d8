/-! the law's steps: fire -/
section FIR
variable {fu : Nat} {c : Nat → Int32} {S S' : im_S}
theorem lim_e {E : Nat} (h72 : S.1 75 72 = nI E) (hE : E ≤ 1021) : f_X11_limit S = some (nI (min E 1000), S) := by
  unfold f_X11_limit
  rw [h72]
  by_cases c : E ≤ 1000
  · rw [if_pos (show nI E ≤ 1000 from (mI_le (a := E) (b := 1000) (by omega) (by omega)).mpr c), Nat.min_eq_left c]
  · rw [if_neg (show ¬ nI E ≤ 1000 from fun q => c ((mI_le (a := E) (b := 1000) (by omega) (by omega)).mp q)), Nat.min_eq_right (by omega)]
    rfl
theorem ref_fire {x ev t E l d : Nat} {x2 : Int64} (hst : f_X11_stateOf S = some (1, S)) (hx : 1 ≤ x) (hx2 : x ≤ 2000) (h72 : S.1 75 72 = nI E) (h74 : S.1 75 74 = nI ev) (h75 : S.1 75 75 = nI t) (ht : t < 5000) (hE : E ≤ 1021) (hl : l = min E 1000) (hev : ev < l) (hd : (x ≤ l - ev ∧ x ≤ 5000 - t ∧ d = x) ∨ (5000 - t < x ∧ 5000 - t ≤ l - ev ∧ d = 5000 - t) ∨ (l - ev < x ∧ l - ev < 5000 - t ∧ d = l - ev)) : f_X11_fire (nI x) x2 S = some (nI (ev + d), uI (uI (uI S 75 0 0) 75 74 (nI (ev + d))) 75 75 (nI (t + d))) := by
  have hl1 : l ≤ 1000 := by rw [hl]; exact Nat.min_le_right _ _
  have u72 : (uI S 75 0 0).1 75 72 = nI E := by rw [uI_ne (by omega)]; exact h72
  have u74 : (uI S 75 0 0).1 75 74 = nI ev := by rw [uI_ne (by omega)]; exact h74
  have u75 : (uI S 75 0 0).1 75 75 = nI t := by rw [uI_ne (by omega)]; exact h75
  have hlim := lim_e u72 hE
  rw [← hl] at hlim
  have d1 : nI l - nI ev = nI (l - ev) := nI_sub (by omega)
  have d2 : (5000 : Int32) - nI t = nI (5000 - t) := nI_sub (a := 5000) (b := t) (by omega)
  have n1 : ¬ nI x < 1 := fun q => by
    have := (mI_lt (a := x) (b := 1) (by omega) (by omega)).mp q
    omega
  have n2 : nI x ≤ 2000 := (mI_le (a := x) (b := 2000) (by omega) (by omega)).mpr hx2
  have n3 : nI t ≠ 5000 := fun q => by
    have := (nI_eq (a := t) (b := 5000) (by omega) (by omega)).mp q
    omega
  have key : f_X11_fire (nI x) x2 S = (if nI x ≤ nI (l - ev) then (if nI x ≤ nI (5000 - t) then (some (nI ev + nI x, uI (uI (uI S 75 0 0) 75 74 (nI ev + nI x)) 75 75 (nI t + nI x))) else (some (nI ev + nI (5000 - t), uI (uI (uI S 75 0 0) 75 74 (nI ev + nI (5000 - t))) 75 75 (nI t + nI (5000 - t))))) else (if nI (l - ev) ≤ nI (5000 - t) then (some (nI ev + nI (l - ev), uI (uI (uI S 75 0 0) 75 74 (nI ev + nI (l - ev))) 75 75 (nI t + nI (l - ev)))) else (some (nI ev + nI (5000 - t), uI (uI (uI S 75 0 0) 75 74 (nI ev + nI (5000 - t))) 75 75 (nI t + nI (5000 - t)))))) := by
    unfold f_X11_fire
    rw [hst]
    simp only [Option.bind_some]
    rw [if_pos trivial, if_neg n1, if_pos n2, h75, if_pos n3, hlim]
    simp only [Option.bind_some]
    rw [u74, u75, hlim]
    simp only [Option.bind_some]
    rw [u74, u75, d1, d2]
  rw [key]
  have le : ∀ {a b : Nat}, a < 2 ^ 31 → b < 2 ^ 31 → a ≤ b → nI a ≤ nI b := fun q1 q2 q => (mI_le q1 q2).mpr q
  have nl : ∀ {a b : Nat}, a < 2 ^ 31 → b < 2 ^ 31 → b < a → ¬ nI a ≤ nI b := fun q1 q2 q q' => by
    have := (mI_le q1 q2).mp q'
    omega
  rcases hd with ⟨q1, q2, q3⟩ | ⟨q1, q2, q3⟩ | ⟨q1, q2, q3⟩
  · rw [if_pos (le (by omega) (by omega) q1), if_pos (le (by omega) (by omega) q2), q3, nI_add, nI_add]
  · by_cases q4 : x ≤ l - ev
    · rw [if_pos (le (by omega) (by omega) q4), if_neg (nl (by omega) (by omega) q1), q3, nI_add, nI_add]
    · rw [if_neg (nl (by omega) (by omega) (by omega))]
      by_cases q5 : l - ev ≤ 5000 - t
      · have q6 : l - ev = 5000 - t := by omega
        rw [if_pos (le (by omega) (by omega) q5), q3, q6, nI_add, nI_add]
      · rw [if_neg (nl (by omega) (by omega) (by omega)), q3, nI_add, nI_add]
  · rw [if_neg (nl (by omega) (by omega) q1), if_pos (le (by omega) (by omega) (by omega)), q3, nI_add, nI_add]
/-- the state -/
theorem rb_s0 (h : LwI S) : ∃ k : Int32, f_X5_condition S = some (k, S) ∧ f_X11_stateOf S = some (k, S) ∧ (k = 1 → RunB S) := by
  rcases h.2.2.2.2 with hr | hr
  · refine ⟨0, ?_, ?_, fun q => absurd q (by decide)⟩
    · unfold f_X5_condition
      rw [hr.1, if_neg (by decide)]
    · unfold f_X11_stateOf
      rw [hr.2, if_neg (by decide)]
  · have hr2 := hr
    obtain ⟨K, pl, V, m, y, e, N, M, L, n, ρ, τ, fr, n', r', ν, ρ', W, G, sl, tO, sO, kO, crt, q0, cnt, xf, ar, ev, nA, nB, nT, A, b, vals, lk, Mt, Lv, f1, f2, ⟨T, X, g2, g3, g4⟩, ⟨u1, u2, u3, u4⟩, I, I2, I3⟩ := hr
    have h73 : S.1 75 73 ≠ 0 := by rw [u3]; decide
    rcases st_cmp T X g3 I I2 I3 u1 h73 u4 u2 with ⟨-, c1, c2⟩ | ⟨-, ⟨c1, c2⟩ | ⟨c1, c2⟩ | ⟨c1, c2, -⟩⟩
    · exact ⟨1, c1, c2, fun _ => hr2⟩
    · exact ⟨4, c1, c2, fun _ => hr2⟩
    · exact ⟨3, c1, c2, fun _ => hr2⟩
    · exact ⟨2, c1, c2, fun _ => hr2⟩
/-- what fire must show -/
def FiR (fu : Nat) (x1 : Int32) (x2 : Int64) (S : im_S) : Prop := ∃ (o1 : String ⊕ Int32) (S1 : im_S) (r2 : Int32) (S2 : im_S), f_X10_fire fu x1 x2 S = some (o1, S1) ∧ (∀ E, o1 = .inl E → E = xISE ∨ E = xIAE ∨ E = xAE) ∧ f_X11_fire x1 x2 (hs_fire o1 S1) = some (r2, S2) ∧ S2.1 75 0 = hk_fire o1 ∧ ((¬ ((hk_fire o1 : Int32) ≠ 0)) → (lg_cmp (S2.2.1 134 (0 : Int32).toNatClampNeg) r2.toInt64 : Int32) = 0) ∧ gP S1 = gP S2 ∧ LwI S2
theorem fir_x {x1 : Int32} {x2 : Int64} {E : String} {v : Int32} (h : LwI S) (hE : E = xISE ∨ E = xIAE ∨ E = xAE) (hv : v = hk_fire (.inl E)) (hn : v ≠ 0) (h1 : f_X10_fire fu x1 x2 S = some (.inl E, S)) (h2 : f_X11_fire x1 x2 S = some (0, uI S 75 0 v)) : FiR fu x1 x2 S := by
  refine ⟨.inl E, S, 0, uI S 75 0 v, h1, fun E' q => ?_, h2, ?_, fun q => absurd (by rw [← hv]; exact hn) q, rfl, lwi_th h v⟩
  · cases q
    exact hE
  · rw [uI_eq]
    exact hv
set_option maxHeartbeats 8000000 in
theorem fir_r (hfu : 1569793 ≤ fu) (h : LwI S) (hr : RunB S) (hk : f_X5_condition S = some (1, S)) {x : Nat} {x2 : Int64} (hx : 1 ≤ x) (hx2 : x ≤ 2000) {t : Nat} (h05 : S.1 0 5 = nI t) (h75 : S.1 75 75 = nI t) (ht : t < 5000) : FiR fu (nI x) x2 S := by
  obtain ⟨⟨hT, ⟨s, s1, s2⟩, e1, e2⟩, ⟨e3, e4, e5, e6, -⟩, hl, hp, -⟩ := id h
  obtain ⟨K, pl, V, m, y, e, N, M, L, n, ρ, τ, fr, n', r', ν, ρ', W, G, sl, tO, sO, kO, crt, q0, cnt, xf, ar, ev, nA, nB, nT, A, b, vals, lk, Mt, Lv, f1, f2, ⟨T, X, g2, g3, g4, g5⟩, ⟨u1, u2, u3, u4⟩, I, I2, I3⟩ := hr
  have h73 : S.1 75 73 ≠ 0 := by rw [u3]; decide
  have hlt : ev < min Lv.length 1000 := by
    rcases st_cmp T X g3 I I2 I3 u1 h73 u4 u2 with ⟨q, -⟩ | ⟨-, ⟨c1, -⟩ | ⟨c1, -⟩ | ⟨c1, -⟩⟩
    · exact q
    · rw [hk] at c1
      exact absurd (congrArg Prod.fst (Option.some.inj c1)) (show ¬ (1 : Int32) = 4 by decide)
    · rw [hk] at c1
      exact absurd (congrArg Prod.fst (Option.some.inj c1)) (show ¬ (1 : Int32) = 3 by decide)
    · rw [hk] at c1
      exact absurd (congrArg Prod.fst (Option.some.inj c1)) (show ¬ (1 : Int32) = 2 by decide)
  obtain ⟨-, -, -, -, -, -, -, hLn, hRs, -⟩ := id I
  have hq0 : q0 ∈ (ftP y).map Prod.fst := fu_ft X.1.1 u1
  obtain ⟨l, hll⟩ : ∃ l, l = min Lv.length 1000 := ⟨_, rfl⟩
  have hl1 : l ≤ 1000 := by rw [hll]; exact Nat.min_le_right _ _
  rw [← hll] at hlt
  obtain ⟨mo, hmo⟩ : ∃ mo, (5000 - t < x ∧ mo = 5000 - t) ∨ (x ≤ 5000 - t ∧ mo = x) := by
    rcases Nat.lt_or_ge (5000 - t) x with q | q
    · exact ⟨_, .inl ⟨q, rfl⟩⟩
    · exact ⟨_, .inr ⟨q, rfl⟩⟩
  obtain ⟨S', a1, a2⟩ := F_run (fu := fu) (most := mo) (z2 := x2) hfu X g5 hq0 (lp_4 X.1.1 g4) (fu_8 g3) hLn (fun En' Va' De' C => (hRs En' Va' De' C).2.2) I3 (by omega) mo fu 0 ev x2 S (by omega) (by omega) u2
  rw [← hll] at a2
  obtain ⟨d, hd1, hd2⟩ : ∃ d, min (ev + mo) l = ev + d ∧ ((x ≤ l - ev ∧ x ≤ 5000 - t ∧ d = x) ∨ (5000 - t < x ∧ 5000 - t ≤ l - ev ∧ d = 5000 - t) ∨ (l - ev < x ∧ l - ev < 5000 - t ∧ d = l - ev)) := by
    rcases Nat.lt_or_ge l (ev + mo) with q | q
    · rw [Nat.min_eq_right (by omega)]
      exact ⟨l - ev, by omega, by omega⟩
    · rw [Nat.min_eq_left q]
      exact ⟨mo, rfl, by omega⟩
  rw [hd1] at a2
  have hdt : t + d ≤ 5000 := by omega
  have a1 : f_X5_run fu (nI mo) x2 S = some ((), S') := a1
  have kr := f_X5_run_k fu (nI mo) x2 S () S' a1
  have kr1 : ∀ a j : Nat, a ≤ 37 ∨ (40 ≤ a ∧ a ≤ 63) ∨ 75 ≤ a → S'.1 a j = S.1 a j ∧ S'.2.1 a j = S.2.1 a j := fun a j q => by
    rw [(kr.1 a (kM_in q)).1, (kr.1 a (kM_in q)).2]
    exact ⟨rfl, rfl⟩
  have v2 : S'.1 38 2 = nI (ev + d) := by
    obtain ⟨_, _, _, _, _, _, _, _, _, _, _, _, _, _, _, _, _, _, _, -, -, v2, -⟩ := a2
    exact v2
  have hln' : LnG S' := by
    obtain ⟨_, _, _, _, _, _, _, _, _, _, _, _, _, _, _, _, _, _, _, ⟨hM, -⟩, -⟩ := a2
    exact mx_ln hM.2.1
  obtain ⟨S1, hS1⟩ : ∃ S1, S1 = uI S' 0 5 (nI (t + d)) := ⟨_, rfl⟩
  have hmx : (if (5000 - (S.1 0 5) : Int32) < nI x then (5000 - (S.1 0 5)) else nI x) = nI mo := by
    rw [h05, show (5000 : Int32) - nI t = nI (5000 - t) from nI_sub (a := 5000) (b := t) (by omega)]
    rcases hmo with ⟨q1, q2⟩ | ⟨q1, q2⟩
    · rw [if_pos ((mI_lt (by omega) (by omega)).mpr q1), q2]
    · rw [if_neg (fun q => by
        have := (mI_lt (by omega) (by omega)).mp q
        omega), q2]
  have hc1 : f_X10_fire fu (nI x) x2 S = some (.inr (nI (ev + d)), S1) := by
    unfold f_X10_fire
    rw [hk]
    simp only [Option.bind_some]
    rw [if_pos trivial, if_neg (show ¬ nI x < 1 from fun q => by
      have := (mI_lt (a := x) (b := 1) (by omega) (by omega)).mp q
      omega), if_pos (show nI x ≤ 2000 from (mI_le (a := x) (b := 2000) (by omega) (by omega)).mpr hx2), hmx, if_pos (show S.1 0 5 < 5000 by rw [h05]; exact (mI_lt (a := t) (b := 5000) (by omega) (by omega)).mpr ht), a1]
    simp only [Option.bind_some]
    rw [v2, (kr1 0 5 (by omega)).1, h05, e4, u4, nI_sub (a := ev + d) (b := ev) (by omega), show ev + d - ev = d by omega, nI_add, hS1]
  obtain ⟨Sh, hSh⟩ : ∃ Sh, Sh = uJ S1 134 (0 : Int32).toNatClampNeg (nI (ev + d)).toInt64 := ⟨_, rfl⟩
  have k1 : ∀ a j : Nat, a ≤ 37 ∨ (40 ≤ a ∧ a ≤ 63) ∨ 75 ≤ a → (a = 0 → j ≠ 5) → Sh.1 a j = S.1 a j := fun a j q q2 => by
    rw [hSh]
    show S1.1 a j = S.1 a j
    rw [hS1, uI_ne (by omega)]
    exact (kr1 a j q).1
  have k2 : ∀ a j : Nat, a ≤ 37 ∨ (40 ≤ a ∧ a ≤ 63) ∨ 75 ≤ a → a ≠ 134 → Sh.2.1 a j = S.2.1 a j := fun a j q q2 => by
    rw [hSh, uJ_ne (.inl q2), hS1]
    exact (kr1 a j q).2
  have rh : ∀ {S2 : im_S}, (∀ a j : Nat, 77 ≤ a → a ≤ 119 → S2.1 a j = Sh.1 a j ∧ S2.2.1 a j = Sh.2.1 a j) → (∀ j : Nat, j = 35 ∨ j = 37 ∨ j = 40 → S2.1 75 j = Sh.1 75 j) → ∀ {K pl : Nat → Nat} {V : Nat → Int64} {m fr : Nat} {y : TR} {e n' r' : Nat} {ν ρ : Nat → Nat} {W : Nat → Int32 × Int32 × Int32}, RHd K pl V m fr y e n' r' ν ρ W S → RHd K pl V m fr y e n' r' ν ρ W S2 := fun {S2} w1 w2 {K pl V m fr y e n' r' ν ρ W} q => RHd_ag q (fun a i q1 q2 => ⟨(w1 a i (by omega) (by omega)).1.trans (k1 a i (by omega) (by omega)), (w1 a i (by omega) (by omega)).2.trans (k2 a i (by omega) (by omega))⟩) (fun a i q => ⟨(w1 a i (by omega) (by omega)).1.trans (k1 a i (by omega) (by omega)), (w1 a i (by omega) (by omega)).2.trans (k2 a i (by omega) (by omega))⟩) (fun a i q => (w1 a i (by omega) (by omega)).1.trans (k1 a i (by omega) (by omega))) (fun i q => (w2 i q).trans (k1 75 i (by omega) (by omega)))
  have Rdh : RHd K pl V m fr y e n' r' ν ρ' W Sh := rh (fun a j _ _ => ⟨rfl, rfl⟩) (fun j _ => rfl) g3
  have Ih := RI_c2 (S' := Sh) I (fun i q => k1 75 i (by omega) (by omega)) (fun a i q1 q2 => k1 a i (by omega) (by omega)) (fun i => k2 127 i (by omega) (by omega))
  have h74h : Sh.1 75 74 = nI ev := (k1 75 74 (by omega) (by omega)).trans u4
  have hsth := (ref_st T Rdh Ih I2 u1 (by rw [k1 75 73 (by omega) (by omega)]; exact h73) h74h (by omega)).1 (by rw [← hll]; exact hlt)
  have hrf := ref_fire (x2 := x2) hsth hx hx2 Ih.1.2.2.2 h74h ((k1 75 75 (by omega) (by omega)).trans h75) ht I2 hll hlt hd2
  obtain ⟨S2, hS2⟩ : ∃ S2, S2 = uI (uI (uI Sh 75 0 0) 75 74 (nI (ev + d))) 75 75 (nI (t + d)) := ⟨_, rfl⟩
  rw [← hS2] at hrf
  have m1 : ∀ a j : Nat, (a = 75 → j ≠ 0 ∧ j ≠ 74 ∧ j ≠ 75) → S2.1 a j = Sh.1 a j := fun a j q => by rw [hS2, uI_ne (by omega), uI_ne (by omega), uI_ne (by omega)]
  have m2 : S2.2 = Sh.2 := by rw [hS2]; rfl
  have m74 : S2.1 75 74 = nI (ev + d) := by rw [hS2, uI_ne (by omega), uI_eq]
  have m75 : S2.1 75 75 = nI (t + d) := by rw [hS2, uI_eq]
  have m0 : S2.1 75 0 = 0 := by rw [hS2, uI_ne (by omega), uI_ne (by omega), uI_eq]
  have w1 : ∀ a j : Nat, a ≤ 37 ∨ (40 ≤ a ∧ a ≤ 63) ∨ 76 ≤ a → (a = 0 → j ≠ 5) → S2.1 a j = S.1 a j := fun a j q q2 => (m1 a j (by omega)).trans (k1 a j (by omega) q2)
  have w5 : ∀ j : Nat, j ≠ 0 → j ≠ 74 → j ≠ 75 → S2.1 75 j = S.1 75 j := fun j q1 q2 q3 => (m1 75 j (by omega)).trans (k1 75 j (by omega) (by omega))
  have wc : ∀ a j : Nat, 38 ≤ a → a ≤ 74 → S2.1 a j = S'.1 a j ∧ S2.2.1 a j = S'.2.1 a j := fun a j q1 q2 => by
    rw [m1 a j (by omega), m2, hSh, uJ_ne (.inl (by omega)), hS1]
    exact ⟨uI_ne (by omega), rfl⟩
  have wl : ∀ a, S2.2.2 a = S'.2.2 a := fun a => by rw [m2, hSh, hS1]; rfl
  have ca : ∀ {G : im_S}, CAg G S → CAg G S2 := fun {G} q => cag_k q (fun a i q1 q2 => w1 a i (by omega) (by omega)) (fun a i q1 q2 => by rw [m2]; exact k2 a i (by omega) (by omega))
  have rh2 : ∀ {K pl : Nat → Nat} {V : Nat → Int64} {m fr : Nat} {y : TR} {e n' r' : Nat} {ν ρ : Nat → Nat} {W : Nat → Int32 × Int32 × Int32}, RHd K pl V m fr y e n' r' ν ρ W S → RHd K pl V m fr y e n' r' ν ρ W S2 := fun {K pl V m fr y e n' r' ν ρ W} q => rh (fun a j q1 q2 => ⟨m1 a j (by omega), by rw [m2]⟩) (fun j q => m1 75 j (by omega)) q
  have h05' : S2.1 0 5 = nI (t + d) := by
    rw [m1 0 5 (by omega), hSh]
    show S1.1 0 5 = _
    rw [hS1, uI_eq]
  refine ⟨.inr (nI (ev + d)), S1, nI (ev + d), S2, hc1, fun E q => (by cases q), ?_, m0, fun _ => ?_, ?_, ⟨?_, ⟨s, s1, (w5 37 (by omega) (by omega) (by omega)).trans s2⟩, ?_, ?_⟩, ⟨?_, ?_, ?_, ?_, t + d, hdt, m75⟩, lng_cg hln' (fun i => (wc 65 i (by omega) (by omega)).1) (fun a _ _ => wl a), ?_, .inr ⟨K, pl, V, m, y, e, N, M, L, n, ρ, τ, fr, n', r', ν, ρ', W, G, sl, tO, sO, kO, crt, q0, cnt, xf, ar, ev + d, nA, nB, nT, A, b, vals, lk, Mt, Lv, f1, f2, ⟨T, X, ca g2, rh2 g3, g4, g5⟩, ⟨u1, rni_cg a2 wc (fun a _ _ => wl a), (w5 73 (by omega) (by omega) (by omega)).trans u3, m74⟩, RI_c2 Ih (fun i q => m1 75 i (by omega)) (fun a i q1 q2 => m1 a i (by omega)) (fun i => by rw [m2]), I2, I3⟩⟩
  · show f_X11_fire (nI x) x2 (uJ S1 134 (0 : Int32).toNatClampNeg (nI (ev + d)).toInt64) = _
    rw [← hSh]
    exact hrf
  · refine (lg_cmp_eq _ _).mpr ?_
    rw [m2, hSh, uJ_eq]
  · exact (gP_eq (by rw [m2, hSh]; rfl)).symm
  · obtain ⟨t0, h1, h2, h3, h4⟩ := hT
    refine ⟨t0, h1, (w1 0 4 (by omega) (by omega)).trans h2, (w5 2 (by omega) (by omega) (by omega)).trans h3, fun k hk => ?_⟩
    rw [w1 1 k (by omega) (by omega), w1 76 k (by omega) (by omega)]
    exact h4 k hk
  · rw [w1 5 0 (by omega) (by omega), w5 3 (by omega) (by omega) (by omega)]
    exact e1
  · rw [w1 5 1 (by omega) (by omega), w5 4 (by omega) (by omega) (by omega)]
    exact e2
  · rw [w1 56 3 (by omega) (by omega), w5 35 (by omega) (by omega) (by omega)]
    exact e3
  · rw [(wc 38 2 (by omega) (by omega)).1, v2, m74]
  · rw [h05', m75]
  · rw [w1 0 6 (by omega) (by omega), w5 76 (by omega) (by omega) (by omega)]
    exact e6
  · rcases hp with ⟨K, pl, V, m, y, e, N, M, L, n, ρ, τ, fr, n', r', ν, ρ', W, G, T, g1, g2, g3, g4⟩ | hp
    · exact .inl ⟨K, pl, V, m, y, e, N, M, L, n, ρ, τ, fr, n', r', ν, ρ', W, G, T, g1, ca g2, rh2 g3, g4⟩
    · exact .inr ((w5 35 (by omega) (by omega) (by omega)).trans hp)
theorem fir_all (hfu : 1569793 ≤ fu) (h : LwI S) (x1 : Int32) (x2 : Int64) : FiR fu x1 x2 S := by
  obtain ⟨k, k1, k2, k3⟩ := rb_s0 h
  obtain ⟨-, ⟨-, -, e5, -, t, t1, t2⟩, -⟩ := id h
  by_cases c1 : k = 1
  · have hr := k3 c1
    rw [c1] at k1 k2
    by_cases b1 : x1 < 1
    · refine fir_x (E := xIAE) (v := 2) h (.inr (.inl rfl)) (by decide) (by decide) ?_ ?_
      · unfold f_X10_fire
        rw [k1]
        simp only [Option.bind_some]
        rw [if_pos trivial, if_pos b1]
      · unfold f_X11_fire
        rw [k2]
        simp only [Option.bind_some]
        rw [if_pos trivial, if_pos b1]
        rfl
    · by_cases b2 : x1 ≤ 2000
      · obtain ⟨x, hx, hx1, hx2⟩ : ∃ x : Nat, x1 = nI x ∧ 1 ≤ x ∧ x ≤ 2000 := by
          rw [Int32.lt_iff_toInt_lt] at b1
          rw [Int32.le_iff_toInt_le] at b2
          have u1 : (1 : Int32).toInt = 1 := by decide
          have u2 : (2000 : Int32).toInt = 2000 := by decide
          refine ⟨x1.toInt.toNat, ?_, by omega, by omega⟩
          apply Int32.toInt_inj.mp
          rw [nI_toInt (by omega)]
          omega
        by_cases b3 : t = 5000
        · refine fir_x (E := xAE) (v := 3) h (.inr (.inr rfl)) (by decide) (by decide) ?_ ?_
          · unfold f_X10_fire
            rw [k1]
            simp only [Option.bind_some]
            rw [if_pos trivial, if_neg b1, if_pos b2, if_neg (show ¬ S.1 0 5 < 5000 by rw [e5, t2, b3]; decide)]
          · unfold f_X11_fire
            rw [k2]
            simp only [Option.bind_some]
            rw [if_pos trivial, if_neg b1, if_pos b2, if_neg (show ¬ S.1 75 75 ≠ 5000 from fun q => q (by rw [t2, b3]; rfl))]
            rfl
        · rw [hx]
          exact fir_r hfu h hr k1 hx1 hx2 (e5.trans t2) t2 (by omega)
      · refine fir_x (E := xIAE) (v := 2) h (.inr (.inl rfl)) (by decide) (by decide) ?_ ?_
        · unfold f_X10_fire
          rw [k1]
          simp only [Option.bind_some]
          rw [if_pos trivial, if_neg b1, if_neg b2]
        · unfold f_X11_fire
          rw [k2]
          simp only [Option.bind_some]
          rw [if_pos trivial, if_neg b1, if_neg b2]
          rfl
  · refine fir_x (E := xISE) (v := 1) h (.inl rfl) (by decide) (by decide) ?_ ?_
    · unfold f_X10_fire
      rw [k1]
      simp only [Option.bind_some]
      rw [if_neg c1]
    · unfold f_X11_fire
      rw [k2]
      simp only [Option.bind_some]
      rw [if_neg c1]
      rfl
theorem law_s4 (hfu : 1569793 ≤ fu) (hc : (c 0 &&& 15) = (4 : Int32)) (h : LwI S) : ∃ S', lw_step fu c S S' ∧ gP S ≤ gP S' ∧ gP S' ≤ lw_B ∧ LwI S' := by
  obtain ⟨o1, S1, r2, S2, h1, h2, h3, h4, h5, h6, h7⟩ := fir_all hfu h (c 1) ((((c 2).toInt64) <<< ((32 : Int32).toInt64 &&& 63)) ||| (((c 3).toInt64) &&& 4294967295))
  have m1 := f_X10_fire_m fu _ _ S o1 S1 h1
  refine ⟨S2, ?_, by rw [← h6]; exact m1, ln_gP h7.2.2.1, h7⟩
  unfold lw_step
  rw [if_neg (show ¬ (c 0 &&& 15) = (0 : Int32) by rw [hc]; decide), if_neg (show ¬ (c 0 &&& 15) = (1 : Int32) by rw [hc]; decide), if_neg (show ¬ (c 0 &&& 15) = (2 : Int32) by rw [hc]; decide), if_neg (show ¬ (c 0 &&& 15) = (3 : Int32) by rw [hc]; decide), if_pos hc]
  exact ⟨o1, S1, r2, S2, _, S2, h1, h2, h3, rfl, h4, h5, m1, Nat.le_of_eq h6, rfl⟩
end FIR
