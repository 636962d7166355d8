/-! the law's compile -/
theorem sw_hi {a : Nat} (h1 : 6 ≤ a) (h2 : a ≤ 29) : sw (a + 34) = a := by
  have h : ∀ b, b < 24 → sw (b + 6 + 34) = b + 6 := by decide
  have := h (a - 6) (by omega)
  rw [show a - 6 + 6 = a by omega] at this
  exact this
theorem sw_id {a : Nat} (h : a < 6 ∨ (30 ≤ a ∧ a ≤ 39) ∨ 64 ≤ a) : sw a = a := by
  unfold sw
  by_cases h6 : a < 6
  · have e1 : Nat.ble 6 a = false := by
      cases hb : Nat.ble 6 a with
      | false => rfl
      | true => have := Nat.le_of_ble_eq_true hb; omega
    have e2 : Nat.ble 40 a = false := by
      cases hb : Nat.ble 40 a with
      | false => rfl
      | true => have := Nat.le_of_ble_eq_true hb; omega
    rw [e1, e2]; rfl
  · have e1 : Nat.ble a 29 = false := by
      cases hb : Nat.ble a 29 with
      | false => rfl
      | true => have := Nat.le_of_ble_eq_true hb; omega
    by_cases h40 : a < 40
    · have e2 : Nat.ble 40 a = false := by
        cases hb : Nat.ble 40 a with
        | false => rfl
        | true => have := Nat.le_of_ble_eq_true hb; omega
      rw [e1, e2, Bool.and_false]; rfl
    · have e2 : Nat.ble a 63 = false := by
        cases hb : Nat.ble a 63 with
        | false => rfl
        | true => have := Nat.le_of_ble_eq_true hb; omega
      rw [e1, e2, Bool.and_false, Bool.and_false]; rfl
theorem kR_le {a : Nat} (h : a ≤ 74) : kR a = true := by
  unfold kR
  rw [Nat.ble_eq_true_of_le h]; rfl
theorem kP_in {a : Nat} (h : a ≤ 2 ∨ 38 ≤ a) : kP a = true := by
  unfold kP
  rcases h with h | h
  · rw [Nat.ble_eq_true_of_le h]; rfl
  · rw [Nat.ble_eq_true_of_le h, Bool.or_true]
/-- the machine's graph in S is the parser's in G -/
def CAg (G S : im_S) : Prop := ∀ a k : Nat, 6 ≤ a → a ≤ 29 → S.1 (a + 34) k = G.1 a k ∧ S.2.1 (a + 34) k = G.2.1 a k
/-- both hold the same program -/
def PgI (S : im_S) : Prop := ∃ (K pl : Nat → Nat) (V : Nat → Int64) (m : Nat) (y : TR) (e : Nat) (N M L : Nat → Nat) (n ρ τ fr n' r' : Nat) (ν ρ' : Nat → Nat) (W : Nat → Int32 × Int32 × Int32) (G : im_S), TH K pl V m ∧ CGd K pl V y e N M L n ρ τ G ∧ CAg G S ∧ RHd K pl V m fr y e n' r' ν ρ' W S ∧ 4000 ≤ rP K pl V (ftP y) y [] ∧ (FA (fun _ _ _ x => nl x ≤ 20) y 0 ∧ nlP y ≤ 20)
/-- what a failed compile leaves -/
def FlC (s : Nat) (S S2 : im_S) : Prop := (∀ a k : Nat, a ≤ 2 ∨ (38 ≤ a ∧ a ≤ 74) → (a = 0 → k ≠ 4) → S2.1 a k = S.1 a k ∧ S2.2.1 a k = S.2.1 a k) ∧ PrA (600 * (1 - s)) S S2 ∧ ∀ a k : Nat, 75 ≤ a → kc a k → (a = 75 → k ≠ 0 ∧ k ≠ 2) → S2.1 a k = S.1 a k ∧ S2.2.1 a k = S.2.1 a k
/-- what a good compile leaves, and what it sets -/
def GdC (S S2 : im_S) : Prop := (∀ a k : Nat, a ≤ 2 ∨ a = 38 ∨ (64 ≤ a ∧ a ≤ 74) → (a = 0 → k ≠ 4) → (a = 38 → k ≠ 2 ∧ k ≠ 9) → S2.1 a k = S.1 a k ∧ S2.2.1 a k = S.2.1 a k) ∧ S2.1 38 2 = 0 ∧ S2.1 38 9 = 0 ∧ S2.1 75 72 = 0 ∧ S2.1 75 73 = 0 ∧ S2.1 75 74 = 0 ∧ ∀ a k : Nat, 75 ≤ a → a ≠ 134 → kc a k → a ≠ 96 → (a < 103 ∨ 112 < a) → (a = 75 → k ≠ 0 ∧ k ≠ 2 ∧ k ≠ 35 ∧ k ≠ 37 ∧ k ≠ 40 ∧ k ≠ 72 ∧ k ≠ 73 ∧ k ≠ 74) → S2.1 a k = S.1 a k ∧ S2.2.1 a k = S.2.1 a k
section BCS
variable {fu : Nat}
theorem gP_eq {S S1 : im_S} (h : S1.2.2 = S.2.2) : gP S1 = gP S := by unfold gP; rw [h]
set_option maxHeartbeats 1000000 in
theorem law_comp (hfu : 600 ≤ fu) {S : im_S} {L s : Nat} {t : Nat → Nat} (hL : L ≤ 500) (h04 : S.1 0 4 = nI L) (h2 : S.1 75 2 = nI L) (ht : ∀ i, i < L → t i < 127 ∧ S.1 1 i = nI (t i) ∧ S.1 76 i = nI (t i)) (h37 : S.1 75 37 = nI s) (hs : s ≤ 1) :
    ∃ (o : String ⊕ Int32) (C : im_S) (r2 : Int32) (S2 : im_S) (f : Nat), f_X10_compile fu S = some (o, C) ∧ (∀ E, o = .inl E → E = xIAE) ∧ f_X11_compile fu (hs_compile o C) = some (r2, S2) ∧ S2.1 75 0 = hk_compile o ∧ (¬ ((hk_compile o : Int32) ≠ 0) → (lg_cmp (S2.2.1 134 (0 : Int32).toNatClampNeg) r2.toInt64 : Int32) = 0) ∧ gP C = gP S ∧ gP S2 = gP S ∧ f ≤ 4000 ∧ FS S2 f ∧ RFS S2 f ∧ S2.1 0 4 = 0 ∧ S2.1 75 2 = 0 ∧ (f < 4000 → FlC s S S2) ∧ (f = 4000 → PgI S2 ∧ GdC S S2 ∧ S2.1 75 37 = nI (1 - s)) := by
  have hS0 : ∀ i, i < L → t i < 127 ∧ (clS (uI S 0 4 0)).1 1 i = nI (t i) := fun i hi => ⟨(ht i hi).1, by
    unfold clS
    rw [uI_ne (by omega), uI_ne (by omega), uI_ne (by omega), uI_ne (by omega), uI_ne (by omega), uI_ne (by omega), uI_ne (by omega)]
    exact (ht i hi).2.1⟩
  obtain ⟨_, _, _, _, f0, X, -, -, hX, -⟩ := mid hfu hL hS0 h2 (fun i hi => ⟨(ht i hi).1, (ht i hi).2.2⟩) h37 hs
  have kX := f_X7_read_k fu (nI L) (uI S 0 4 0) _ X hX
  have x1 : ∀ a k : Nat, a ≤ 2 ∨ 38 ≤ a → X.1 a k = (uI S 0 4 0).1 a k := fun a k h => by rw [(kX.1 a (kP_in h)).1]
  have x1' : ∀ a k : Nat, a ≤ 2 ∨ 38 ≤ a → (a = 0 → k ≠ 4) → X.1 a k = S.1 a k := fun a k h q => by rw [x1 a k h, uI_ne (by omega)]
  have x2 : ∀ a k : Nat, a ≤ 2 ∨ 38 ≤ a → X.2.1 a k = S.2.1 a k := fun a k h => by rw [(kX.1 a (kP_in h)).2]; rfl
  have x3 : X.2.2 = S.2.2 := funext (fun i => kX.2 i rfl)
  have e1 : f_X10_compile fu S = if (if f0 = 4000 then (1 : Int32) else 0) ≠ 0 then some (.inr (X.1 22 3), swS (uI (uI X 38 9 0) 38 2 0)) else some (.inl xIAE, X) := by
    unfold f_X10_compile
    rw [h04, hX]
    rfl
  by_cases h0 : f0 = 4000
  · rw [if_pos h0, if_pos (show (1 : Int32) ≠ 0 by decide)] at e1
    obtain ⟨C, hC⟩ : ∃ C, C = swS (uI (uI X 38 9 0) 38 2 0) := ⟨_, rfl⟩
    rw [← hC] at e1
    have c0 : ∀ a k : Nat, C.1 a k = (uI (uI X 38 9 0) 38 2 0).1 (sw a) k ∧ C.2.1 a k = X.2.1 (sw a) k := fun a k => by rw [hC]; exact ⟨rfl, rfl⟩
    have c1 : ∀ a k : Nat, a ≤ 2 ∨ 64 ≤ a → (a = 0 → k ≠ 4) → C.1 a k = S.1 a k := fun a k h q => by rw [(c0 a k).1, sw_id (by omega), uI_ne (by omega), uI_ne (by omega)]; exact x1' a k (by omega) q
    have c2 : ∀ a k : Nat, a ≤ 2 ∨ a = 38 ∨ 64 ≤ a → C.2.1 a k = S.2.1 a k := fun a k h => by rw [(c0 a k).2, sw_id (by omega)]; exact x2 a k (by omega)
    have j1 : ∀ a k : Nat, (hs_compile (.inr (X.1 22 3)) C).1 a k = C.1 a k := fun _ _ => rfl
    have j2 : ∀ a k : Nat, a ≠ 134 → (hs_compile (.inr (X.1 22 3)) C).2.1 a k = C.2.1 a k := fun a k h => by
      show (uJ C 134 _ _).2.1 a k = _
      rw [uJ_at, if_neg h]
    obtain ⟨K, pl, V, m, f, X', T, g1, g2, g3, g4, g5⟩ := mid hfu hL (S0 := uI S 0 4 0) (C' := hs_compile (.inr (X.1 22 3)) C) hS0 (by rw [j1, c1 75 2 (by omega) (by omega)]; exact h2) (fun i hi => ⟨(ht i hi).1, by rw [j1, c1 76 i (by omega) (by omega)]; exact (ht i hi).2.2⟩) (by rw [j1, c1 75 37 (by omega) (by omega)]; exact h37) hs
    rw [hX, if_pos h0] at g2
    have ga := Option.some.inj g2
    have gb : (1 : Int32) = if f = 4000 then 1 else 0 := congrArg Prod.fst ga
    have gc : X = X' := congrArg Prod.snd ga
    subst gc
    have hf : f = 4000 := by
      by_cases h : f = 4000
      · exact h
      · rw [if_neg h] at gb
        exact absurd gb (by decide)
    subst hf
    obtain ⟨y, e, N, M, L', n, ρ, τ, n', r', ν, ρ', W, E, S', v1, v2, v3, v4, v5⟩ := g5 rfl
    have kk := f_X11_compile_k fu _ _ S' v2
    have k1 : ∀ a k : Nat, a ≤ 74 → S'.1 a k = C.1 a k ∧ S'.2.1 a k = C.2.1 a k := fun a k h => ⟨by rw [(kk.1 a (kR_le h)).1]; rfl, by rw [(kk.1 a (kR_le h)).2]; exact j2 a k (by omega)⟩
    have hFr := v3.2.2.2.2.2.2.2.2.2.2.2.2.1
    have hE := v3.2.2.2.2.1
    have h22 : X.1 22 3 = nI (ftP y).length := v1.2.2.2.2.2.2.2.2.2.2.2.2.1
    refine ⟨.inr (X.1 22 3), C, nI (ftP y).length, S', 4000, e1, (fun E h => by cases h), v2, ?_, fun _ => ?_, ?_, ?_, Nat.le_refl _, ?_, ?_, ?_, ?_, fun h => absurd h (by omega), fun _ => ⟨⟨K, pl, V, m, y, e, N, M, L', n, ρ, τ, 8 * (1 - s), n', r', ν, ρ', W, X, T, v1, fun a k q1 q2 => ?_, RGd_H v3 (by omega), v4⟩, ⟨fun a k q1 q2 q3 => ?_, ?_, ?_, v3.2.2.2.2.2.2.2.2.2.2.2.2.2.2.1, v3.2.2.2.2.2.2.2.2.2.2.2.2.2.2.2.1, v3.2.2.2.2.2.2.2.2.2.2.2.2.2.2.2.2, fun a k q1 q2 q3 q4 q5 q6 => ?_⟩, ?_⟩⟩
    · rw [hFr.1 75 0 (by omega) (by omega) (by omega)]
      unfold lyS
      rw [uI_ne (by omega), uI_ne (by omega), uI_ne (by omega), uI_eq]
      rfl
    · refine (lg_cmp_eq _ _).mpr ?_
      rw [(kk.1 134 rfl).2, ← h22]
      exact uJ_eq
    · rw [hC]
      exact gP_eq (S1 := X) x3
    · have : gP S' = gP (hs_compile (.inr (X.1 22 3)) C) := gP_eq (funext (fun i => kk.2 i rfl))
      rw [this]
      show gP C = gP S
      rw [hC]
      exact gP_eq (S1 := X) x3
    · unfold FS at g3 ⊢
      rw [(k1 5 0 (by omega)).1, (k1 5 1 (by omega)).1, (c0 5 0).1, (c0 5 1).1, sw_id (by omega), uI_ne (by omega), uI_ne (by omega), uI_ne (by omega), uI_ne (by omega)]
      exact g3
    · unfold RFS
      rw [hFr.1 75 3 (by omega) (by omega) (by omega), hFr.1 75 4 (by omega) (by omega) (by omega), lyS_z (by omega), lyS_z (by omega)]
      exact hE.1
    · rw [(k1 0 4 (by omega)).1, (c0 0 4).1, sw_id (by omega), uI_ne (by omega), uI_ne (by omega), x1 0 4 (by omega), uI_eq]
    · rw [hFr.1 75 2 (by omega) (by omega) (by omega)]
      unfold lyS
      rw [uI_ne (by omega), uI_ne (by omega), uI_ne (by omega), uI_ne (by omega), uI_eq]
    · rw [(k1 _ k (by omega)).1, (k1 _ k (by omega)).2, (c0 _ k).1, (c0 _ k).2, sw_hi q1 q2, uI_ne (by omega), uI_ne (by omega)]
      exact ⟨rfl, rfl⟩
    · refine ⟨?_, by rw [(k1 a k (by omega)).2]; exact c2 a k (by omega)⟩
      rw [(k1 a k (by omega)).1, (c0 a k).1, sw_id (by omega), uI_ne (by omega), uI_ne (by omega)]
      exact x1' a k (by omega) q2
    · rw [(k1 38 2 (by omega)).1, (c0 38 2).1, sw_id (by omega), uI_eq]
    · rw [(k1 38 9 (by omega)).1, (c0 38 9).1, sw_id (by omega), uI_ne (by omega), uI_eq]
    · obtain ⟨t1, t2⟩ := v5 a k q3
      refine ⟨?_, ?_⟩
      · rw [hFr.1 a k q4 q5 (by omega), lyS_z (by omega), t1, j1, c1 a k (by omega) (by omega)]
      · rw [hFr.2]
        show E.2.1 a k = _
        rw [t2, j2 a k q2, c2 a k (by omega)]
    · have h8 := hE.2.2.2.2.1
      have e37 : E.1 75 37 = nI s := by rw [(v5 75 37 (by unfold kc; omega)).1, j1, c1 75 37 (by omega) (by omega)]; exact h37
      rw [hFr.1 75 37 (by omega) (by omega) (by omega)]
      unfold lyS
      rw [uI_ne (by omega), uI_ne (by omega), uI_eq, e37]
      rcases (show s = 0 ∨ s = 1 by omega) with rfl | rfl <;> decide
  · rw [if_neg h0, if_neg (show ¬ (0 : Int32) ≠ 0 from fun z => z rfl)] at e1
    obtain ⟨K, pl, V, m, f, X', T, g1, g2, g3, g4, g5⟩ := mid hfu hL (S0 := uI S 0 4 0) (C' := X) hS0 (by rw [x1' 75 2 (by omega) (by omega)]; exact h2) (fun i hi => ⟨(ht i hi).1, by rw [x1' 76 i (by omega) (by omega)]; exact (ht i hi).2.2⟩) (by rw [x1' 75 37 (by omega) (by omega)]; exact h37) hs
    rw [hX, if_neg h0] at g2
    have ga := Option.some.inj g2
    have gb : (0 : Int32) = if f = 4000 then 1 else 0 := congrArg Prod.fst ga
    have gc : X = X' := congrArg Prod.snd ga
    subst gc
    have hf : f < 4000 := by
      by_cases h : f = 4000
      · rw [if_pos h] at gb
        exact absurd gb (by decide)
      · omega
    obtain ⟨E, v2, v3, v4, v5⟩ := g4 hf
    obtain ⟨S', hS'⟩ : ∃ S', S' = uI (uI E 75 2 0) 75 0 1 := ⟨_, rfl⟩
    rw [← hS'] at v2
    have kk := f_X11_compile_k fu _ _ S' v2
    have z : ∀ a k : Nat, (a = 75 → k ≠ 0 ∧ k ≠ 2) → S'.1 a k = E.1 a k := fun a k h => by rw [hS', uI_ne (by omega), uI_ne (by omega)]
    have z2 : S'.2.1 = E.2.1 := by rw [hS']; rfl
    refine ⟨.inl xIAE, X, 0, S', f, e1, (fun E h => by cases h; rfl), v2, by rw [hS', uI_eq]; rfl, fun h => absurd (show (1 : Int32) ≠ 0 by decide) h, gP_eq x3, ?_, g1, ?_, ?_, ?_, by rw [hS', uI_ne (by omega), uI_eq], fun _ => ⟨fun a k q1 q2 => ?_, fun a i h => ?_, fun a k q1 q2 q3 => ?_⟩, fun h => absurd h (by omega)⟩
    · exact (gP_eq (S := X) (funext (fun i => kk.2 i rfl))).trans (gP_eq x3)
    · unfold FS at g3 ⊢
      rw [(kk.1 5 rfl).1]
      exact g3
    · unfold RFS at v3 ⊢
      rw [z 75 3 (by omega), z 75 4 (by omega)]
      exact v3
    · rw [(kk.1 0 rfl).1, x1 0 4 (by omega), uI_eq]
    · exact ⟨by rw [(kk.1 a (kR_le (by omega))).1]; exact x1' a k (by omega) q2, by rw [(kk.1 a (kR_le (by omega))).2]; exact x2 a k (by omega)⟩
    · have ha := Pr_a h
      obtain ⟨t1, t2⟩ := v4 a i h
      exact ⟨by rw [z a i (by omega), t1]; exact x1' a i (by omega) (by omega), by rw [z2, t2]; exact x2 a i (by omega)⟩
    · obtain ⟨t1, t2⟩ := v5 a k q2
      exact ⟨by rw [z a k q3, t1]; exact x1' a k (by omega) (by omega), by rw [z2, t2]; exact x2 a k (by omega)⟩
end BCS
