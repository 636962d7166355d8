/-! the class's variables have what their places have -/
section NVR
variable {K : Nat → Nat} {V : Nat → Int64} {y : TR} {e0 : Nat}
theorem rg_W {x : TR} {p e md : Nat} (w : Wt K x p e md) : ∀ (γ : List Nat) (r : Nat), r / 4 < p → ∀ z, z ∈ sbc x γ r → z.2.2 / 4 < otk z.1 := by
  have hd : ∀ {X : TR} {γ : List Nat} {r : Nat} {l : List (TR × List Nat × Nat)}, sbc X γ r = (X, γ, r) :: l → r / 4 < otk X → (∀ z : TR × List Nat × Nat, z ∈ l → z.2.2 / 4 < otk z.1) → ∀ z : TR × List Nat × Nat, z ∈ sbc X γ r → z.2.2 / 4 < otk z.1 := fun {X γ r l} hs h0 h z hz => by
    rw [hs] at hz
    rcases List.mem_cons.mp hz with rfl | hz
    · exact h0
    · exact h z hz
  have ap : ∀ {l1 l2 : List (TR × List Nat × Nat)}, (∀ z : TR × List Nat × Nat, z ∈ l1 → z.2.2 / 4 < otk z.1) → (∀ z : TR × List Nat × Nat, z ∈ l2 → z.2.2 / 4 < otk z.1) → ∀ z : TR × List Nat × Nat, z ∈ l1 ++ l2 → z.2.2 / 4 < otk z.1 := fun {l1 l2} h1 h2 z hz => by
    rcases List.mem_append.mp hz with hz | hz
    · exact h1 z hz
    · exact h2 z hz
  have nn : ∀ z : TR × List Nat × Nat, z ∈ ([] : List (TR × List Nat × Nat)) → z.2.2 / 4 < otk z.1 := fun z h => absurd h List.not_mem_nil
  refine Wt_ind (K := K) (P := fun x p e md => ∀ (γ : List Nat) (r : Nat), r / 4 < p → ∀ z, z ∈ sbc x γ r → z.2.2 / 4 < otk z.1) ?_ ?_ ?_ ?_ ?_ ?_ ?_ ?_ ?_ ?_ ?_ ?_ ?_ ?_ ?_ (tsz x) x p e md (Nat.le_refl _) w
  · intro p md _ γ r h; exact hd rfl h nn
  · intro p md _ γ r h; exact hd rfl h nn
  · intro p md _ γ r h; exact hd rfl h nn
  · intro p md _ γ r h; exact hd rfl h nn
  · intro p as b md _ _ w1 ih γ r h; exact hd rfl h (ih _ _ (by omega))
  · intro p x y b e md _ w1 w2 i1 i2 γ r h
    have := Wt_lt w1
    exact hd rfl h (ap (i1 _ _ (by omega)) (i2 _ _ (by omega)))
  · intro p x y z b c e md w1 w2 w3 i1 i2 i3 γ r h
    have := Wt_lt w1; have := Wt_lt w2
    exact hd rfl h (ap (i1 _ _ (by omega)) (ap (i2 _ _ (by omega)) (i3 _ _ (by omega))))
  · intro p fs c ns g b d f' e md _ _ w1 w2 w3 w4 i1 i2 i3 i4 γ r h
    have := Wt_lt w1; have := Wt_lt w2; have := Wt_lt w3
    exact hd rfl h (ap (i1 _ _ (by omega)) (ap (i2 _ _ (by omega)) (ap (i3 _ _ (by omega)) (i4 _ _ (by omega)))))
  · intro p x e md _ w1 ih γ r h; exact hd rfl h (ih _ _ (by omega))
  · intro p j x y e md _ w1 w2 i1 i2 γ r h
    have := Wt_lt w1
    exact hd rfl (show r / 4 < j by omega) (ap (i1 _ _ h) (i2 _ _ (by omega)))
  · intro p j x y b md w1 w2 i1 i2 γ r h
    have := Wt_lt w1
    exact hd rfl (show r / 4 < j by omega) (ap (i1 _ _ h) (i2 _ _ (by omega)))
  · intro p x y b e md _ _ w1 w2 i1 i2 γ r h
    have := Wt_lt w1
    exact hd rfl h (ap (i1 _ _ (by omega)) (i2 _ _ (by omega)))
  · intro p x b md w1 ih γ r h; exact hd rfl h (ih _ _ (by omega))
  · intro p x b md hmd _ w1 ih γ r h
    have g0 : p ≤ (if md = 101 then p else p + 2) := by split <;> omega
    exact ap (ih γ r (by omega)) nn
  · intro p x l b e md hmd _ _ w1 w2 i1 i2 γ r h
    have g0 : p ≤ (if md = 101 then p else p + 2) := by split <;> omega
    have := Wt_lt w1
    exact ap (i1 γ r (by omega)) (i2 γ r (by omega))
theorem rg_lt {p e : Nat} (w : PW K y p e) : ∀ z, z ∈ scP y → z.2.2 / 4 < otk z.1 := by
  refine PW_ind (K := K) (P := fun y p e => ∀ z, z ∈ scP y → z.2.2 / 4 < otk z.1) ?_ ?_ (tsz y) y p e (Nat.le_refl _) w
  · intro p cnt x b e0 _ _ _ w1 hb z hz
    rcases List.mem_append.mp hz with hz | hz
    · exact rg_W w1 _ _ (by omega) z hz
    · exact absurd hz List.not_mem_nil
  · intro p cnt x r b e0 e _ _ _ w1 hb _ w2 ih z hz
    rcases List.mem_append.mp hz with hz | hz
    · exact rg_W w1 _ _ (by omega) z hz
    · exact ih z hz
theorem par_le (w : PW K y 0 e0) {c r : Nat} {z : TR × List Nat × Nat} (hz : z ∈ scP y) (h : ParN c r z) : r / 4 ≤ c / 4 := by
  have hs := ((tl_P w) z hz).2.1
  have hl := rg_lt w z hz
  obtain ⟨x, γ, r0⟩ := z
  have hs : shp x := hs
  rcases hs with ⟨j, rfl⟩ | ⟨j, rfl⟩ | ⟨j, rfl⟩ | ⟨j, as, rfl⟩ | ⟨j, a, b, rfl⟩ | ⟨j, a, b, d, rfl⟩ | ⟨j, fs, d, ns, g, rfl⟩ | ⟨j, a, rfl⟩ | ⟨j, a, b, rfl⟩ | ⟨j, a, b, rfl⟩ | ⟨j, a, b, rfl⟩ | ⟨j, a, rfl⟩
  · exact absurd h id
  · exact absurd h id
  · exact absurd h id
  · exact absurd h id
  · exact absurd h id
  · have hl : r0 / 4 < j := hl
    obtain ⟨h1, h2⟩ := h
    omega
  · have hl : r0 / 4 < j := hl
    rcases h with ⟨h1, h2⟩ | ⟨h1, h2⟩ <;> omega
  · exact absurd h id
  · exact absurd h id
  · exact absurd h id
  · have hl : r0 / 4 < j := hl
    obtain ⟨h1, h2⟩ := h
    omega
  · exact absurd h id
/-- what is around a region of node j is around what lies within -/
theorem up_tl (w : PW K y 0 e0) {z : TR × List Nat × Nat} (hz : z ∈ scP y) (hlt : lpK z.1 = true ∨ tbK z.1 = true) {i : Nat} {Q : TPth} : ∀ P, POk V y P → upF y (4 * otk z.1) P = (4 * otk z.1, i) :: Q → upF y z.2.2 P = Q ∧ hdR Q = z.2.2 ∧ otk z.1 ≤ hdR P / 4 := by
  have hl := rg_lt w z hz
  intro P
  induction P with
  | nil => intro h; exact absurd h id
  | cons c P' ih =>
    intro h hu
    by_cases h1 : c.1 = 4 * otk z.1
    · have e1 : upF y (4 * otk z.1) (c :: P') = c :: P' := if_pos h1
      rw [e1] at hu
      cases hu
      obtain ⟨c', Q', q1, q2, q3, q4⟩ := P_par (V := V) w hz (k := 0) (i := i) (by omega) h
      have hcr : c'.1 = z.2.2 := by
        have hs := ((tl_P w) z hz).2.1
        obtain ⟨x, γ, r0⟩ := z
        have hs : shp x := hs
        rcases hs with ⟨j, rfl⟩ | ⟨j, rfl⟩ | ⟨j, rfl⟩ | ⟨j, as, rfl⟩ | ⟨j, a, b, rfl⟩ | ⟨j, a, b, d, rfl⟩ | ⟨j, fs, d, ns, g, rfl⟩ | ⟨j, a, rfl⟩ | ⟨j, a, b, rfl⟩ | ⟨j, a, b, rfl⟩ | ⟨j, a, b, rfl⟩ | ⟨j, a, rfl⟩
        · exact absurd q2 id
        · exact absurd q2 id
        · exact absurd q2 id
        · exact absurd q2 id
        · exact absurd q2 id
        · rcases hlt with q | q <;> cases q
        · rcases q2 with q2 | q2
          · exact q2.2
          · exact absurd q2.1 (by show ¬ (4 * j + 0 = 4 * j + 1 ∨ 4 * j + 0 = 4 * j + 2); omega)
        · exact absurd q2 id
        · exact absurd q2 id
        · exact absurd q2 id
        · exact q2.2
        · exact absurd q2 id
      have hne : ¬ 4 * otk z.1 = z.2.2 := fun q => by omega
      have hnf := nd_nf w hz (k := 0) (by omega)
      refine ⟨?_, ?_, ?_⟩
      · rw [show upF y z.2.2 ((4 * otk z.1, i) :: Q) = upF y z.2.2 Q from (if_neg hne).trans (if_neg hnf), q1]
        exact if_pos hcr
      · rw [q1]
        exact hcr
      · show otk z.1 ≤ 4 * otk z.1 / 4
        omega
    · by_cases h2 : c.1 / 4 ∈ (ftP y).map Prod.fst
      · rw [show upF y (4 * otk z.1) (c :: P') = [] from (if_neg h1).trans (if_pos h2)] at hu
        cases hu
      · rw [show upF y (4 * otk z.1) (c :: P') = upF y (4 * otk z.1) P' from (if_neg h1).trans (if_neg h2)] at hu
        cases P' with
        | nil => cases hu
        | cons c' D =>
          rcases h.1 with ⟨as, γ, i', q, cnt, x, k1, k2, k3, k4⟩ | ⟨zz, k1, k2⟩
          · exact absurd (by rw [k4, show 4 * q / 4 = q by omega]; exact fu_ft w (List.mem_of_getElem? k3)) h2
          · obtain ⟨a1, a2, a3⟩ := ih h.2 hu
            have hle := par_le w k1 k2
            have a3 : otk z.1 ≤ c'.1 / 4 := a3
            have hne : ¬ c.1 = z.2.2 := fun q => by omega
            refine ⟨?_, a2, by show otk z.1 ≤ c.1 / 4; omega⟩
            rw [show upF y z.2.2 (c :: c' :: D) = upF y z.2.2 (c' :: D) from (if_neg hne).trans (if_neg h2)]
            exact a1
end NVR
