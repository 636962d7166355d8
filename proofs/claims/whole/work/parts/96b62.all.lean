/-! the law's steps: all calls -/
section ALC
variable {fu : Nat} {c : Nat → Int32} {S S' : im_S}
theorem th_step (h : LwI S) : gP S ≤ gP (uI S 75 0 0) ∧ gP (uI S 75 0 0) ≤ lw_B ∧ LwI (uI S 75 0 0) := ⟨Nat.le_refl _, ln_gP (lwi_th h 0).2.2.1, lwi_th h 0⟩
theorem law_all (hfu : 1569793 ≤ fu) (c : Nat → Int32) (h : LwI S) : ∃ S', lw_step fu c S S' ∧ gP S ≤ gP S' ∧ gP S' ≤ lw_B ∧ LwI S' := by
  by_cases b1 : (c 0 &&& 15) = (1 : Int32)
  · exact law_s1 (by omega) b1 h
  by_cases b3 : (c 0 &&& 15) = (3 : Int32)
  · exact law_s3 hfu b3 h
  by_cases b4 : (c 0 &&& 15) = (4 : Int32)
  · exact law_s4 hfu b4 h
  unfold lw_step
  by_cases b0 : (c 0 &&& 15) = (0 : Int32)
  · simp only [if_pos b0]
    obtain ⟨r, S1, S2, e1, e2, e3, e4⟩ := type_good fu (by omega) ((((c 1).toInt64) <<< ((32 : Int32).toInt64 &&& 63)) ||| (((c 2).toInt64) &&& 4294967295)) (c 3) h.1.1
    have hI : LwI S2 := lwi_cg h e3 (fun a i q1 q2 q3 q4 => e4.2 a i q1 q2 (by omega) (by omega)) (fun a i _ => by rw [e4.1]) (by rw [e4.1])
    exact ⟨S2, ⟨r, S1, r, S2, e1, e2, rfl, rfl⟩, Nat.le_of_eq (gP_eq (by rw [e4.1])).symm, ln_gP hI.2.2.1, hI⟩
  simp only [if_neg b0, if_neg b1]
  by_cases b2 : (c 0 &&& 15) = (2 : Int32)
  · simp only [if_pos b2]
    obtain ⟨r, e1, e2⟩ := fault_gd (c 1) h.1.2.2.1 h.1.2.2.2
    exact ⟨_, ⟨r, S, r, _, e1, e2, rfl, rfl⟩, th_step h⟩
  simp only [if_neg b2, if_neg b3, if_neg b4]
  by_cases b5 : (c 0 &&& 15) = (5 : Int32)
  · simp only [if_pos b5]
    obtain ⟨r, e1, e2⟩ := state_gd h
    exact ⟨_, ⟨r, S, r, _, e1, e2, rfl, rfl⟩, th_step h⟩
  simp only [if_neg b5]
  by_cases b6 : (c 0 &&& 15) = (6 : Int32)
  · simp only [if_pos b6]
    obtain ⟨r, e1, e2⟩ := kind_gd h
    exact ⟨_, ⟨r, S, r, _, e1, e2, rfl, rfl⟩, th_step h⟩
  simp only [if_neg b6]
  by_cases b7 : (c 0 &&& 15) = (7 : Int32)
  · simp only [if_pos b7]
    obtain ⟨o1, r2, S2, e1, e2, e3, e4, e5, e6, e7⟩ := val_all h
    exact ⟨S2, ⟨o1, S, r2, S2, _, S2, e1, e2, e3, rfl, e4, e5, Nat.le_refl _, Nat.le_of_eq e6, rfl⟩, Nat.le_of_eq e6, ln_gP e7.2.2.1, e7⟩
  simp only [if_neg b7]
  by_cases b8 : (c 0 &&& 15) = (8 : Int32)
  · simp only [if_pos b8]
    obtain ⟨o1, r2, S2, e1, e2, e3, e4, e5, e6, e7⟩ := cel_all (x1 := c 1) (x2 := c 2) h
    exact ⟨S2, ⟨o1, S, r2, S2, _, S2, e1, e2, e3, rfl, e4, e5, Nat.le_refl _, Nat.le_of_eq e6, rfl⟩, Nat.le_of_eq e6, ln_gP e7.2.2.1, e7⟩
  simp only [if_neg b8]
  by_cases b9 : (c 0 &&& 15) = (9 : Int32)
  · simp only [if_pos b9]
    obtain ⟨r, e1, e2⟩ := count_gd (c 1) h.2.1.2.1 h.2.1.2.2.1 h.2.1.1 h.2.1.2.2.2.1
    exact ⟨_, ⟨r, S, r, _, e1, e2, rfl, rfl⟩, th_step h⟩
  simp only [if_neg b9]
  exact ⟨S, rfl, Nat.le_refl _, ln_gP h.2.2.1, h⟩
theorem lw_all (hfu : 1569793 ≤ fu) : ∀ (n : Nat) (S : im_S), LwI S → lw_good fu n S := by
  intro n
  induction n with
  | zero => intro S _; exact trivial
  | succ n ih =>
    intro S h c
    obtain ⟨S', h1, h2, h3, h4⟩ := law_all hfu c h
    exact ⟨S', h1, h2, h3, ih S' h4⟩
end ALC
