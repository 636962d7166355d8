/-! reading characters never gets stuck: the signs, the words, one token added -/
def sg_is (n : Nat) : Bool := [40, 41, 91, 93, 44, 59, 61, 60, 43, 45, 42, 47, 37, 38, 124, 33].contains n
def sg_ok (n : Nat) : Bool := match sg_ix (nI n) with
  | none => false
  | some r => decide (r < 0) == !(sg_is n)
theorem sg_okA : ∀ n, n < 127 → sg_ok n = true := by decide +kernel
/-- indexOf over the signs at a character 0 .. 126 -/
theorem sg_ix_at {n : Nat} (h : n < 127) (S : im_S) : ∃ r : Int32, f_sg_indexOf (nI n) S = some (r, S) ∧ (r < 0 ↔ sg_is n = false) := by
  have h1 := sg_okA n h
  unfold sg_ok at h1
  cases hx : sg_ix (nI n) with
  | none => rw [hx] at h1; cases h1
  | some r =>
    rw [hx] at h1
    refine ⟨r, by rw [f_sg_indexOf, hx]; rfl, ?_⟩
    have h2 : decide (r < 0) = !(sg_is n) := by simpa using h1
    cases hs : sg_is n with
    | true => rw [hs] at h2; exact ⟨fun z => absurd (decide_eq_true z) (by rw [h2]; decide), fun z => by cases z⟩
    | false => rw [hs] at h2; exact ⟨fun _ => rfl, fun _ => of_decide_eq_true h2⟩
theorem nw_step (x : Int64) (S : im_S) : ∀ (d nf i : Nat), i + d = 13 → d < nf → ∃ r : Int32, f_X9_nameOrWord_L2 nf x (nI i) S = some (r, S) := by
  intro d
  induction d with
  | zero =>
    intro nf i hi hn
    obtain ⟨nf, rfl⟩ : ∃ z, nf = z + 1 := ⟨nf - 1, by omega⟩
    have hle : (13 : Int32) ≤ nI i := (mI_le (a := 13) (b := i) (by omega) (by omega)).mpr (by omega)
    exact ⟨1, by rw [f_X9_nameOrWord_L2, if_pos hle]⟩
  | succ d ih =>
    intro nf i hi hn
    obtain ⟨nf, rfl⟩ : ∃ z, nf = z + 1 := ⟨nf - 1, by omega⟩
    have hlt : ¬ (13 : Int32) ≤ nI i := fun q => by have := (mI_le (a := 13) (b := i) (by omega) (by omega)).mp q; omega
    by_cases hc : (lg_cmp (wdA (nI i).toNatClampNeg) x : Int32) ≠ 0
    · obtain ⟨r, hr⟩ := ih nf (i + 1) (by omega) (by omega)
      refine ⟨r, ?_⟩
      rw [f_X9_nameOrWord_L2, if_neg hlt, mI_in (a := i) (n := 13) (by omega) (by omega)]
      show (if (lg_cmp (wdA (nI i).toNatClampNeg) x : Int32) ≠ 0 then f_X9_nameOrWord_L2 nf x (nI i + nI 1) S else _) = _
      rw [if_pos hc, nI_add]
      exact hr
    · refine ⟨4 + nI i, ?_⟩
      rw [f_X9_nameOrWord_L2, if_neg hlt, mI_in (a := i) (n := 13) (by omega) (by omega)]
      show (if (lg_cmp (wdA (nI i).toNatClampNeg) x : Int32) ≠ 0 then _ else some (4 + nI i, S)) = _
      rw [if_neg hc]
theorem nw_tot (x : Int64) (S : im_S) : ∃ r : Int32, f_X9_nameOrWord x S = some (r, S) := nw_step x S 13 14 0 (by omega) (by omega)
