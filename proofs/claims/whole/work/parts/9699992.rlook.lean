/-! the reference looks: its small operations -/
def RFS (S : im_S) (f : Nat) : Prop := FSg (S.1 75 3) (S.1 75 4) f
theorem r_note {S : im_S} {f k p : Nat} (h : RFS S f) (hk1 : 1 ≤ k) (hk : k ≤ 3) (hp : p ≤ 500) : ∃ S' : im_S, f_X11_note (nI k) (nI p) S = some ((), S') ∧ RFS S' (min f (4 * p + k)) ∧ (∀ a j : Nat, (a ≠ 75 ∨ (j ≠ 3 ∧ j ≠ 4)) → S'.1 a j = S.1 a j) ∧ S'.2.1 = S.2.1 := by
  obtain ⟨S1, hS1⟩ : ∃ S1, S1 = uI (uI S 75 3 (nI k)) 75 4 (nI p) := ⟨_, rfl⟩
  have r1 : ∀ a j : Nat, (a ≠ 75 ∨ (j ≠ 3 ∧ j ≠ 4)) → S1.1 a j = S.1 a j := fun a j u => by rw [hS1, uI_ne (by omega), uI_ne (by omega)]
  have l1 : S1.2.1 = S.2.1 := by rw [hS1]; rfl
  have g1 : RFS S1 (4 * p + k) := by
    refine Or.inr ⟨k, p, hk1, hk, hp, ?_, ?_, rfl⟩
    · rw [hS1, uI_ne (by omega), uI_eq]
    · rw [hS1, uI_eq]
  unfold f_X11_note
  rw [← hS1]
  rcases h with ⟨q1, q2, q3⟩ | ⟨k', p', q1, q2, q3, q4, q5, q6⟩
  · rw [if_pos q2, q1]
    refine ⟨S1, rfl, ?_, r1, l1⟩
    rw [Nat.min_eq_right (by omega)]; exact g1
  · have hne : ¬ S.1 75 3 = 0 := by rw [q4]; exact fun z => by have := (nI_eq (a := k') (b := 0) (by omega) (by omega)).mp z; omega
    have hF : RFS S f := Or.inr ⟨k', p', q1, q2, q3, q4, q5, q6⟩
    rw [if_neg hne, q5]
    have lt : nI p < nI p' ↔ p < p' := mI_lt (by omega) (by omega)
    have eq : nI p = nI p' ↔ p = p' := nI_eq (by omega) (by omega)
    by_cases h1 : p < p'
    · rw [if_pos (lt.mpr h1)]
      refine ⟨S1, rfl, ?_, r1, l1⟩
      rw [Nat.min_eq_right (by omega)]; exact g1
    · rw [if_neg (fun z => h1 (lt.mp z))]
      by_cases h2 : p = p'
      · rw [if_neg (fun z => z (eq.mpr h2)), q4]
        have le : nI k' ≤ nI k ↔ k' ≤ k := mI_le (by omega) (by omega)
        by_cases h3 : k' ≤ k
        · rw [if_pos (le.mpr h3)]
          refine ⟨S, rfl, ?_, fun _ _ _ => rfl, rfl⟩
          rw [Nat.min_eq_left (by omega)]; exact hF
        · rw [if_neg (fun z => h3 (le.mp z))]
          refine ⟨S1, rfl, ?_, r1, l1⟩
          rw [Nat.min_eq_right (by omega)]; exact g1
      · rw [if_pos (fun z => h2 (eq.mp z))]
        refine ⟨S, rfl, ?_, fun _ _ _ => rfl, rfl⟩
        rw [Nat.min_eq_left (by omega)]; exact hF
/-- the known names, the latest first: by what, at which node, which part -/
def RKn (V : Nat → Int64) (W : Nat → Int32 × Int32 × Int32) (S : im_S) : List Nat → Prop
  | [] => True
  | b :: γ => S.2.1 116 γ.length = V b ∧ S.1 117 γ.length = (W b).1 ∧ S.1 118 γ.length = (W b).2.1 ∧ S.1 119 γ.length = (W b).2.2 ∧ RKn V W S γ
/-- how many are known below the binder of a name -/
def blw (V : Nat → Int64) : List Nat → Nat → Option Nat
  | [], _ => none
  | b :: γ, j => if V b = V j then some γ.length else blw V γ j
theorem RKn_cp {V : Nat → Int64} {W : Nat → Int32 × Int32 × Int32} {S S' : im_S} : ∀ γ : List Nat, (∀ i, i < γ.length → S'.2.1 116 i = S.2.1 116 i ∧ S'.1 117 i = S.1 117 i ∧ S'.1 118 i = S.1 118 i ∧ S'.1 119 i = S.1 119 i) → RKn V W S γ → RKn V W S' γ := by
  intro γ
  induction γ with
  | nil => intro _ _; trivial
  | cons b γ ih =>
    intro h k
    obtain ⟨k1, k2, k3, k4, k5⟩ := k
    have hl : (b :: γ).length = γ.length + 1 := rfl
    obtain ⟨e1, e2, e3, e4⟩ := h γ.length (by omega)
    exact ⟨by rw [e1]; exact k1, by rw [e2]; exact k2, by rw [e3]; exact k3, by rw [e4]; exact k4, ih (fun i hi => h i (by omega)) k5⟩
theorem blw_fnd {V : Nat → Int64} {W : Nat → Int32 × Int32 × Int32} {S : im_S} {j : Nat} : ∀ γ : List Nat, RKn V W S γ → (fnd V γ j = none → blw V γ j = none) ∧ ∀ b, fnd V γ j = some b → ∃ i, blw V γ j = some i ∧ i < γ.length ∧ S.1 117 i = (W b).1 ∧ S.1 118 i = (W b).2.1 ∧ S.1 119 i = (W b).2.2 := by
  intro γ
  induction γ with
  | nil => intro _; exact ⟨fun _ => rfl, fun b h => by cases h⟩
  | cons c γ ih =>
    intro k
    obtain ⟨k1, k2, k3, k4, k5⟩ := k
    obtain ⟨i1, i2⟩ := ih k5
    have hl : (c :: γ).length = γ.length + 1 := rfl
    unfold fnd blw
    by_cases h : V c = V j
    · rw [if_pos h, if_pos h]
      refine ⟨(fun h => by cases h), fun b hb => ?_⟩
      cases hb
      exact ⟨γ.length, rfl, by omega, k2, k3, k4⟩
    · rw [if_neg h, if_neg h]
      refine ⟨i1, fun b hb => ?_⟩
      obtain ⟨i, e1, e2, e3⟩ := i2 b hb
      exact ⟨i, e1, by omega, e3⟩
section RLK
variable {K pl : Nat → Nat} {V : Nat → Int64} {m fu : Nat} {W : Nat → Int32 × Int32 × Int32} {S : im_S} {γ : List Nat}
theorem r_findL (j : Nat) : ∀ (δ : List Nat) (nf : Nat), δ.length < nf → δ.length ≤ 260 → RKn V W S δ → f_X11_find_L7 fu nf (V j) (nI δ.length - 1) S = some (match blw V δ j with | some i => nI i | none => -1, S) := by
  intro δ
  induction δ with
  | nil =>
    intro nf h _ _
    obtain ⟨nf, rfl⟩ : ∃ z, nf = z + 1 := ⟨nf - 1, by omega⟩
    rw [f_X11_find_L7, if_pos (by decide)]
    rfl
  | cons b δ ih =>
    intro nf h h2 hk
    have hl : (b :: δ).length = δ.length + 1 := rfl
    obtain ⟨k1, -, -, -, k5⟩ := hk
    obtain ⟨nf, rfl⟩ : ∃ z, nf = z + 1 := ⟨nf - 1, by omega⟩
    have e1 : nI (b :: δ).length - 1 = nI δ.length := by
      show nI (δ.length + 1) - nI 1 = _
      rw [nI_sub (by omega), Nat.add_sub_cancel]
    have c0 : ¬ nI δ.length < 0 := fun z => by have := (mI_lt (a := δ.length) (b := 0) (by omega) (by omega)).mp z; omega
    rw [f_X11_find_L7, e1, if_neg c0, mI_in (a := δ.length) (n := 260) (by omega) (by omega), nI_clamp (show δ.length < 2 ^ 31 by omega), k1]
    simp only [gd_t]
    by_cases hv : V b = V j
    · have e : blw V (b :: δ) j = some δ.length := by
        show (if V b = V j then _ else _) = _
        rw [if_pos hv]
      rw [if_neg (fun z => z ((lg_cmp_eq _ _).mpr hv)), e]
    · have e : blw V (b :: δ) j = blw V δ j := by
        show (if V b = V j then _ else _) = _
        rw [if_neg hv]
      rw [if_pos (fun z => hv ((lg_cmp_eq _ _).mp z)), e, show nI δ.length + (-1) = nI δ.length - 1 from (Int32.sub_eq_add_neg (nI δ.length) 1).symm]
      exact ih nf (by omega) (by omega) k5
theorem r_find (hfu : 600 ≤ fu) (hn : S.1 75 52 = nI γ.length) (hl : γ.length ≤ 260) (hk : RKn V W S γ) (j : Nat) : f_X11_find fu (V j) S = some (match blw V γ j with | some i => nI i | none => -1, S) := by
  unfold f_X11_find
  rw [hn]
  exact r_findL j γ fu (by omega) hl hk
/-- a name is known from now on -/
theorem r_know (hfu : 600 ≤ fu) (hn : S.1 75 52 = nI γ.length) (hl : γ.length < 260) (hk : RKn V W S γ) {j f : Nat} {w1 w2 w3 : Int32} (hF : RFS S f) (hf : f ≤ 4000) (hp : pl j ≤ 500) (hW : W j = (w1, w2, w3)) :
    ∃ S' : im_S, f_X11_know fu (V j) (nI (pl j)) w1 w2 w3 S = some ((), S') ∧ RFS S' (min f (kb pl V γ j)) ∧ S'.1 75 52 = nI (γ.length + 1) ∧ RKn V W S' (j :: γ) ∧ (∀ a k : Nat, (a ≠ 75 ∨ (k ≠ 3 ∧ k ≠ 4 ∧ k ≠ 52)) → (a < 117 ∨ 119 < a ∨ k ≠ γ.length) → S'.1 a k = S.1 a k) ∧ (∀ a k : Nat, (a ≠ 116 ∨ k ≠ γ.length) → S'.2.1 a k = S.2.1 a k) := by
  have key : ∀ (Sx : im_S) (f1 : Nat), Sx.1 75 52 = nI γ.length → RKn V W Sx γ → RFS Sx f1 → f1 = min f (kb pl V γ j) → (∀ a k : Nat, (a ≠ 75 ∨ (k ≠ 3 ∧ k ≠ 4)) → Sx.1 a k = S.1 a k) → Sx.2.1 = S.2.1 → ∃ S' : im_S, (gd (in_b (Sx.1 75 52) 260) (gd (in_b (Sx.1 75 52) 260) (gd (in_b (Sx.1 75 52) 260) (gd (in_b (Sx.1 75 52) 260) (some ((), (uI (uI (uI (uI (uJ Sx 116 ((Sx.1 75 52).toNatClampNeg) (V j)) 117 ((Sx.1 75 52).toNatClampNeg) w1) 118 ((Sx.1 75 52).toNatClampNeg) w2) 119 ((Sx.1 75 52).toNatClampNeg) w3) 75 52 ((Sx.1 75 52) + 1)))))))) = some ((), S') ∧ RFS S' (min f (kb pl V γ j)) ∧ S'.1 75 52 = nI (γ.length + 1) ∧ RKn V W S' (j :: γ) ∧ (∀ a k : Nat, (a ≠ 75 ∨ (k ≠ 3 ∧ k ≠ 4 ∧ k ≠ 52)) → (a < 117 ∨ 119 < a ∨ k ≠ γ.length) → S'.1 a k = S.1 a k) ∧ (∀ a k : Nat, (a ≠ 116 ∨ k ≠ γ.length) → S'.2.1 a k = S.2.1 a k) := by
    intro Sx f1 h1 h2 h3 h4 h5 h6
    obtain ⟨S', hS'⟩ : ∃ S', S' = uI (uI (uI (uI (uJ Sx 116 γ.length (V j)) 117 γ.length w1) 118 γ.length w2) 119 γ.length w3) 75 52 (nI (γ.length + 1)) := ⟨_, rfl⟩
    have rd : ∀ a k : Nat, (a ≠ 75 ∨ k ≠ 52) → (a < 117 ∨ 119 < a ∨ k ≠ γ.length) → S'.1 a k = Sx.1 a k := fun a k u1 u2 => by
      rw [hS', uI_ne (by omega), uI_ne (by omega), uI_ne (by omega), uI_ne (by omega)]; rfl
    have rl : ∀ a k : Nat, (a ≠ 116 ∨ k ≠ γ.length) → S'.2.1 a k = Sx.2.1 a k := fun a k u => by
      rw [hS']
      show (uJ Sx 116 γ.length (V j)).2.1 a k = _
      rw [uJ_ne u]
    refine ⟨S', ?_, ?_, by rw [hS', uI_eq], ⟨?_, ?_, ?_, ?_, ?_⟩, fun a k u1 u2 => by rw [rd a k (by omega) u2]; exact h5 a k (by omega), fun a k u => by rw [rl a k u, h6]⟩
    · rw [h1, mI_in (a := γ.length) (n := 260) (by omega) (by omega), nI_clamp (show γ.length < 2 ^ 31 by omega), show nI γ.length + 1 = nI (γ.length + 1) from nI_add γ.length 1]
      simp only [gd_t]
      rw [hS']
    · unfold RFS
      rw [rd 75 3 (by omega) (by omega), rd 75 4 (by omega) (by omega), ← h4]
      exact h3
    · rw [hS']
      show (uJ Sx 116 γ.length (V j)).2.1 116 γ.length = _
      rw [uJ_eq]
    · rw [hW, hS', uI_ne (by omega), uI_ne (by omega), uI_ne (by omega), uI_eq]
    · rw [hW, hS', uI_ne (by omega), uI_ne (by omega), uI_eq]
    · rw [hW, hS', uI_ne (by omega), uI_eq]
    · exact RKn_cp γ (fun i hi => ⟨rl 116 i (by omega), rd 117 i (by omega) (by omega), rd 118 i (by omega) (by omega), rd 119 i (by omega) (by omega)⟩) h2
  obtain ⟨q1, q2⟩ := blw_fnd (j := j) γ hk
  have o1 : f_X11_know fu (V j) (nI (pl j)) w1 w2 w3 S = f_X11_know fu (V j) (nI (pl j)) w1 w2 w3 S := rfl
  conv at o1 => rhs; unfold f_X11_know
  rw [r_find hfu hn (by omega) hk j] at o1
  simp only [Option.bind_some] at o1
  have hcs : fnd V γ j = none ∨ ∃ b, fnd V γ j = some b := by
    cases fnd V γ j with
    | none => exact Or.inl rfl
    | some b => exact Or.inr ⟨b, rfl⟩
  rcases hcs with hfd | ⟨b, hfd⟩
  · rw [q1 hfd] at o1
    simp only [] at o1
    rw [if_pos trivial] at o1
    rw [o1]
    refine key S f hn hk hF ?_ (fun _ _ _ => rfl) rfl
    unfold kb
    rw [hfd]
    exact (Nat.min_eq_left hf).symm
  · obtain ⟨i, e1, e2, -⟩ := q2 b hfd
    rw [e1] at o1
    simp only [] at o1
    obtain ⟨Sx, n1, n2, n3, n4⟩ := r_note (k := 2) hF (by omega) (by omega) hp
    have n1' : f_X11_note 2 (nI (pl j)) S = some ((), Sx) := n1
    rw [if_neg (nI_m1 (show i < 2 ^ 31 by omega)), n1'] at o1
    simp only [Option.bind_some] at o1
    rw [o1]
    refine key Sx _ (by rw [n3 75 52 (by omega)]; exact hn) (RKn_cp γ (fun k _ => ⟨by rw [n4], n3 117 k (by omega), n3 118 k (by omega), n3 119 k (by omega)⟩) hk) n2 ?_ n3 n4
    unfold kb
    rw [hfd]
    rfl
end RLK
