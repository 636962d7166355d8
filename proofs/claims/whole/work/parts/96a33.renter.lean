/-! the reference runs: slots, values, entering a region -/
section REN
variable {fu : Nat} {S : im_S}
theorem r_slot {a k b p : Nat} (ha : a < 24000) (hk : k < 1200) (h1 : S.1 122 a = nI b) (h2 : S.1 104 k = nI p) : f_X11_slot (nI a) (nI k) S = some (nI (b + p), S) := by
  unfold f_X11_slot
  rw [mI_in (a := a) (n := 24000) (by omega) ha, mI_in (a := k) (n := 1200) (by omega) hk, nI_clamp (show a < 2 ^ 31 by omega), nI_clamp (show k < 2 ^ 31 by omega), h1, h2, nI_add]
  rfl
theorem r_root {a r k b p : Nat} (ha : a < 24000) (hr : r < 640) (hk : k < 1200) (h0 : S.1 120 a = nI r) (h105 : S.1 105 r = nI k) (h1 : S.1 122 a = nI b) (h2 : S.1 104 k = nI p) : f_X11_rootSlot (nI a) S = some (nI (b + p), S) := by
  unfold f_X11_rootSlot
  rw [mI_in (a := a) (n := 24000) (by omega) ha, nI_clamp (show a < 2 ^ 31 by omega), h0, mI_in (a := r) (n := 640) (by omega) hr, nI_clamp (show r < 2 ^ 31 by omega), h105, r_slot ha hk h1 h2]
  rfl
theorem r_give {s : Nat} {k : Int32} {v : Int64} (hs : s < 520000) : f_X11_give (nI s) k v S = some (1, uJ (uI S 126 s k) 127 s v) := by
  unfold f_X11_give
  rw [mI_in (a := s) (n := 520000) (by omega) hs, nI_clamp (show s < 2 ^ 31 by omega)]
  rfl
theorem r_event {s : Nat} {k : Int32} {v : Int64} (hs : s < 520000) : f_X11_event (nI s) k v S = some (1, uJ (uI (uI S 75 72 (S.1 75 72 + 1)) 126 s k) 127 s v) := by
  unfold f_X11_event
  rw [r_give hs]
  rfl
theorem r_pass {s s' : Nat} (hs : s < 520000) (hs' : s' < 520000) : f_X11_pass (nI s) (nI s') S = if S.1 126 s' = 0 then some (0, S) else some (1, uJ (uI S 126 s (S.1 126 s')) 127 s (S.2.1 127 s')) := by
  unfold f_X11_pass
  rw [mI_in (a := s') (n := 520000) (by omega) hs', nI_clamp (show s' < 2 ^ 31 by omega)]
  simp only [gd_t]
  by_cases h : S.1 126 s' = 0
  · rw [if_pos h, if_pos h]
  · rw [if_neg h, if_neg h, r_give hs]
    simp only [Option.bind_some]
    rw [if_neg (show ¬ (1 : Int32) = 0 by decide)]
/-- the places of a new activation are empty -/
theorem r_ent1 {r nS sz : Nat} {z2 z3 z4 z5 : Int32} (hr : r < 640) (hb : nS + sz ≤ 520000) : ∀ (d k nf : Nat) (S : im_S), k + d = nS + sz → nS ≤ k → d < nf → S.1 75 64 = nI nS → S.1 106 r = nI sz → ∃ S' : im_S, f_X11_enter_L79 fu nf (nI r) z2 z3 z4 z5 (nI k) S = some (z5, S') ∧ S'.1 75 64 = nI (nS + sz) ∧ (∀ s, k ≤ s → s < nS + sz → S'.1 126 s = 0 ∧ S'.1 128 s = -1) ∧ (∀ a i : Nat, (a = 75 → i ≠ 64) → (a = 126 ∨ a = 128 → ¬ (k ≤ i ∧ i < nS + sz)) → S'.1 a i = S.1 a i) ∧ S'.2.1 = S.2.1 := by
  intro d
  induction d with
  | zero =>
    intro k nf S hk hk0 hnf h64 h106
    obtain ⟨nf, rfl⟩ : ∃ z, nf = z + 1 := ⟨nf - 1, by omega⟩
    refine ⟨uI S 75 64 (nI (nS + sz)), ?_, uI_eq, fun s h1 h2 => absurd h1 (by omega), fun a i q1 q2 => uI_ne (by omega), rfl⟩
    rw [f_X11_enter_L79, mI_in (a := r) (n := 640) (by omega) hr, nI_clamp (show r < 2 ^ 31 by omega), h64, h106, nI_add, if_pos ((mI_le (a := nS + sz) (b := k) (by omega) (by omega)).mpr (by omega))]
    rfl
  | succ d ih =>
    intro k nf S hk hk0 hnf h64 h106
    obtain ⟨nf, rfl⟩ : ∃ z, nf = z + 1 := ⟨nf - 1, by omega⟩
    obtain ⟨S', g1, g2, g3, g4, g5⟩ := ih (k + 1) nf (uI (uI S 126 k 0) 128 k (-1)) (by omega) (by omega) (by omega) (by rw [uI_ne (by omega), uI_ne (by omega)]; exact h64) (by rw [uI_ne (by omega), uI_ne (by omega)]; exact h106)
    refine ⟨S', ?_, g2, fun s h1 h2 => ?_, fun a i q1 q2 => ?_, g5⟩
    · rw [f_X11_enter_L79, mI_in (a := r) (n := 640) (by omega) hr, nI_clamp (show r < 2 ^ 31 by omega), h64, h106, nI_add, if_neg (fun z => by have := (mI_le (a := nS + sz) (b := k) (by omega) (by omega)).mp z; omega), mI_in (a := k) (n := 520000) (by omega) (by omega), nI_clamp (show k < 2 ^ 31 by omega), show nI k + 1 = nI (k + 1) from nI_add k 1]
      exact g1
    · by_cases hs : s = k
      · rw [hs, g4 126 k (by omega) (by omega), g4 128 k (by omega) (by omega), uI_ne (by omega), uI_eq, uI_eq]
        exact ⟨rfl, rfl⟩
      · exact g3 s (by omega) h2
    · rw [g4 a i q1 (by omega), uI_ne (by omega), uI_ne (by omega)]
theorem r_enter (hfu : 600 ≤ fu) {r nA nS sz : Nat} {o x3 x4 : Int32} (hr : r < 640) (hA : S.1 75 57 = nI nA) (hA2 : nA < 24000) (hS : S.1 75 64 = nI nS) (h106 : S.1 106 r = nI sz) (hsz : sz ≤ 500) (hb : nS + sz ≤ 520000) :
    ∃ S' : im_S, f_X11_enter fu (nI r) o x3 x4 S = some (nI nA, S') ∧ S'.1 75 57 = nI (nA + 1) ∧ S'.1 75 64 = nI (nS + sz) ∧ S'.1 120 nA = nI r ∧ S'.1 121 nA = o ∧ S'.1 122 nA = nI nS ∧ S'.1 123 nA = nI sz ∧ S'.1 124 nA = x3 ∧ S'.1 125 nA = x4 ∧ (∀ s, nS ≤ s → s < nS + sz → S'.1 126 s = 0 ∧ S'.1 128 s = -1) ∧ (∀ a i : Nat, (a = 75 → i ≠ 57 ∧ i ≠ 64) → (120 ≤ a → a ≤ 125 → i ≠ nA) → (a = 126 ∨ a = 128 → ¬ (nS ≤ i ∧ i < nS + sz)) → S'.1 a i = S.1 a i) ∧ S'.2.1 = S.2.1 := by
  obtain ⟨T, hT⟩ : ∃ T, T = uI (uI (uI (uI (uI (uI (uI S 75 57 (nI (nA + 1))) 120 nA (nI r)) 121 nA o) 122 nA (nI nS)) 123 nA (nI sz)) 124 nA x3) 125 nA x4 := ⟨_, rfl⟩
  have t0 : ∀ a i : Nat, (a = 75 → i ≠ 57) → (120 ≤ a → a ≤ 125 → i ≠ nA) → T.1 a i = S.1 a i := fun a i q1 q2 => by
    rw [hT, uI_ne (by omega), uI_ne (by omega), uI_ne (by omega), uI_ne (by omega), uI_ne (by omega), uI_ne (by omega), uI_ne (by omega)]
  obtain ⟨S', g1, g2, g3, g4, g5⟩ := r_ent1 (fu := fu) (z2 := o) (z3 := x3) (z4 := x4) (z5 := nI nA) hr hb sz nS fu T (by omega) (Nat.le_refl _) (by omega) (by rw [t0 75 64 (by omega) (by omega)]; exact hS) (by rw [t0 106 r (by omega) (by omega)]; exact h106)
  refine ⟨S', ?_, ?_, g2, ?_, ?_, ?_, ?_, ?_, ?_, g3, fun a i q1 q2 q3 => ?_, ?_⟩
  · unfold f_X11_enter
    rw [hA, mI_in (a := nA) (n := 24000) (by omega) hA2, nI_clamp (show nA < 2 ^ 31 by omega), mI_in (a := r) (n := 640) (by omega) hr, nI_clamp (show r < 2 ^ 31 by omega), hS, h106, show nI nA + 1 = nI (nA + 1) from nI_add nA 1, ← hT]
    exact g1
  · rw [g4 75 57 (by omega) (by omega), hT, uI_ne (by omega), uI_ne (by omega), uI_ne (by omega), uI_ne (by omega), uI_ne (by omega), uI_ne (by omega), uI_eq]
  · rw [g4 120 nA (by omega) (by omega), hT, uI_ne (by omega), uI_ne (by omega), uI_ne (by omega), uI_ne (by omega), uI_ne (by omega), uI_eq]
  · rw [g4 121 nA (by omega) (by omega), hT, uI_ne (by omega), uI_ne (by omega), uI_ne (by omega), uI_ne (by omega), uI_eq]
  · rw [g4 122 nA (by omega) (by omega), hT, uI_ne (by omega), uI_ne (by omega), uI_ne (by omega), uI_eq]
  · rw [g4 123 nA (by omega) (by omega), hT, uI_ne (by omega), uI_ne (by omega), uI_eq]
  · rw [g4 124 nA (by omega) (by omega), hT, uI_ne (by omega), uI_eq]
  · rw [g4 125 nA (by omega) (by omega), hT, uI_eq]
  · rw [g4 a i (by omega) q3, t0 a i (by omega) q2]
  · rw [g5, hT]
    rfl
/-- the activation of a region around: outers by π -/
theorem r_up {z r : Nat} {z1 : Int32} (hr : r < 640) : ∀ (d nf a : Nat), (∃ l : List Nat, l.length = d ∧ (∀ x, x ∈ a :: l → x < 24000) ∧ (∀ (i x x' : Nat), (a :: l)[i]? = some x → (a :: l)[i + 1]? = some x' → S.1 121 x = nI x' ∧ S.1 120 x ≠ nI r) ∧ (a :: l)[d]? = some z ∧ S.1 120 z = nI r) → d < nf → f_X11_around_L2 fu nf z1 (nI r) (nI a) S = some (nI z, S) := by
  intro d
  induction d with
  | zero =>
    intro nf a ⟨l, h1, h2, h3, h4, h5⟩ hnf
    obtain ⟨nf, rfl⟩ : ∃ z, nf = z + 1 := ⟨nf - 1, by omega⟩
    have hz : a = z := by
      have h4 : some a = some z := h4
      exact Option.some.inj h4
    subst hz
    have ha := h2 a List.mem_cons_self
    rw [f_X11_around_L2, mI_in (a := a) (n := 24000) (by omega) ha, nI_clamp (show a < 2 ^ 31 by omega), if_pos h5]
    rfl
  | succ d ih =>
    intro nf a ⟨l, h1, h2, h3, h4, h5⟩ hnf
    obtain ⟨nf, rfl⟩ : ∃ z, nf = z + 1 := ⟨nf - 1, by omega⟩
    cases l with
    | nil => exact absurd h1 (by show ¬ 0 = d + 1; omega)
    | cons b l =>
      have ha := h2 a List.mem_cons_self
      obtain ⟨u1, u2⟩ := h3 0 a b rfl rfl
      rw [f_X11_around_L2, mI_in (a := a) (n := 24000) (by omega) ha, nI_clamp (show a < 2 ^ 31 by omega), if_neg u2, u1]
      exact ih nf b ⟨l, Nat.succ.inj h1, fun x hx => h2 x (List.mem_cons_of_mem _ hx), fun i x x' q1 q2 => h3 (i + 1) x x' q1 q2, h4, h5⟩ (by omega)
end REN
