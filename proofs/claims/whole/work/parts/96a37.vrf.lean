/-! a name has one place, 2 -/
section VRF
variable {K : Nat → Nat} {V : Nat → Int64} {y : TR} {ar : Nat → Int64} {W : Nat → Int32 × Int32 × Int32} {ν : Nat → Nat}
theorem VrP_fun {e f : Nat} (w : PW K y 0 e) (hf : f + tln y < 2 ^ 31) (hW : FA (WPs W ν) y f) (hν : ∀ z, z ∈ scP y → ν (otk z.1) < 2 ^ 31 ∧ ∀ z', z' ∈ scP y → ν (otk z.1) = ν (otk z'.1) → otk z.1 = otk z'.1) (hL : ∀ j fs c ns g γ r, (.tag 7 (.tag j (.append fs (.append c (.append ns g)))), γ, r) ∈ scP y → LL fs) {P : List (Nat × Nat)} {b : Nat} {o o' : (List (Nat × Nat) × Nat) ⊕ (Nat × Int64 × List (Nat × Nat) × Nat)} (h : VrP V y ar P b o) (h' : VrP V y ar P b o') : o = o' := by
  have hn := wn_P w f hW
  have hp := wp_P w f hW
  have hou := ou_P w
  have k1 : ∀ {p cnt : Nat} {x : TR} {z : Nat}, (p, cnt, x) ∈ fuP y → z < cnt → b = p + 2 + 2 * z → (W b).1 = 1 := fun {p cnt x z} q1 q2 q3 => by
    obtain ⟨c, -, -, -, c4⟩ := hp p cnt x q1
    rw [q3, c4 z q2]
  have k2 : ∀ {j : Nat} {x x' : TR} {γ : List Nat} {r : Nat}, (.tag 5 (.tag j (.append x x')), γ, r) ∈ scP y → b = j + 1 → (W b).1 = 2 := fun {j x x' γ r} q1 q2 => by
    have : W (j + 1) = (2, nI (ν j), 0) := hn _ q1
    rw [q2, this]
  have k3 : ∀ {j : Nat} {fs c ns g : TR} {γ : List Nat} {r : Nat}, (.tag 7 (.tag j (.append fs (.append c (.append ns g)))), γ, r) ∈ scP y → b ∈ tks fs → (W b).1 = 3 ∧ (W b).2.1 = nI (ν j) := fun {j fs c ns g γ r} q1 q2 => by
    have : WbL W (nI (ν j)) fs 0 := hn _ q1
    obtain ⟨k, hk⟩ := WbL_at fs (hL _ _ _ _ _ _ _ q1) 0 this b q2
    rw [hk]
    exact ⟨rfl, rfl⟩
  have k4 : ∀ {j : Nat} {x x' : TR} {γ : List Nat} {r : Nat}, (.tag 11 (.tag j (.append x x')), γ, r) ∈ scP y → b = j + 3 → (W b).1 = 4 := fun {j x x' γ r} q1 q2 => by
    have : W (j + 1) = (5, nI (ν j), 0) ∧ W (j + 3) = (4, nI (ν j), 0) := hn _ q1
    rw [q2, this.2]
  have k5 : ∀ {j : Nat} {x x' : TR} {γ : List Nat} {r : Nat}, (.tag 11 (.tag j (.append x x')), γ, r) ∈ scP y → b = j + 1 → (W b).1 = 5 := fun {j x x' γ r} q1 q2 => by
    have : W (j + 1) = (5, nI (ν j), 0) ∧ W (j + 3) = (4, nI (ν j), 0) := hn _ q1
    rw [q2, this.1]
  have no : ∀ {i i' : Int32} {Q : Prop}, (W b).1 = i → (W b).1 = i' → i ≠ i' → Q := fun h1 h2 h3 => absurd (h1.symm.trans h2) h3
  rcases h with ⟨p, cnt, x, z, q1, q2, q3, q4⟩ | ⟨j, x, x', γ, r, q1, q2, q3⟩ | ⟨j, fs, c, ns, g, γ, r, i, Q, pl, q1, q2, q3, q4, q5⟩ | ⟨j, x, x', γ, r, i, Q, q1, q2, q3, q4⟩ | ⟨j, x, x', γ, r, q1, q2, q3⟩
  · rcases h' with ⟨p', cnt', x', z', r1, r2, r3, r4⟩ | ⟨j', x1, x2, γ', r', r1, r2, r3⟩ | ⟨j', fs', c', ns', g', γ', r', i', Q', pl', r1, r2, r3, r4, r5⟩ | ⟨j', x1, x2, γ', r', i', Q', r1, r2, r3, r4⟩ | ⟨j', x1, x2, γ', r', r1, r2, r3⟩
    · obtain ⟨c, c1, c2, c3, c4⟩ := hp p cnt x q1
      obtain ⟨c', d1, d2, d3, d4⟩ := hp p' cnt' x' r1
      have e1 : nI c = nI c' := by
        have a1 := c4 z q2
        have a2 := d4 z' r2
        rw [← q3] at a1
        rw [← r3] at a2
        exact congrArg (fun t => t.2.1) (a1.symm.trans a2)
      have e2 : c = c' := (nI_eq (by omega) (by omega)).mp e1
      subst e2
      rw [c3] at d3
      cases d3
      have hz : z = z' := by omega
      subst hz
      rcases q4 with ⟨u1, u2⟩ | ⟨j, Q, as, γ, r, xz, u1, u2, u3, u4, u5⟩
      · rcases r4 with ⟨v1, v2⟩ | ⟨j', Q', as', γ', r', xz', v1, v2, v3, v4, v5⟩
        · rw [u2, v2]
        · rw [u1] at v1
          cases v1
          exact absurd rfl v2
      · rcases r4 with ⟨v1, v2⟩ | ⟨j', Q', as', γ', r', xz', v1, v2, v3, v4, v5⟩
        · rw [u1] at v1
          cases v1
          exact absurd rfl u2
        · rw [u1] at v1
          cases v1
          have := hou.2 _ u3 _ v3 rfl
          cases this
          rw [u4] at v4
          cases v4
          rw [u5, v5]
    · exact no (k1 q1 q2 q3) (k2 r1 r2) (by decide)
    · exact no (k1 q1 q2 q3) (k3 r1 r2).1 (by decide)
    · exact no (k1 q1 q2 q3) (k4 r1 r2) (by decide)
    · exact no (k1 q1 q2 q3) (k5 r1 r2) (by decide)
  · rcases h' with ⟨p', cnt', x', z', r1, r2, r3, r4⟩ | ⟨j', x1, x2, γ', r', r1, r2, r3⟩ | ⟨j', fs', c', ns', g', γ', r', i', Q', pl', r1, r2, r3, r4, r5⟩ | ⟨j', x1, x2, γ', r', i', Q', r1, r2, r3, r4⟩ | ⟨j', x1, x2, γ', r', r1, r2, r3⟩
    · exact no (k2 q1 q2) (k1 r1 r2 r3) (by decide)
    · have e : j = j' := by omega
      have := hou.2 _ q1 _ r1 e
      cases this
      rw [q3, r3]
    · exact no (k2 q1 q2) (k3 r1 r2).1 (by decide)
    · exact no (k2 q1 q2) (k4 r1 r2) (by decide)
    · exact no (k2 q1 q2) (k5 r1 r2) (by decide)
  · rcases h' with ⟨p', cnt', x', z', r1, r2, r3, r4⟩ | ⟨j', x1, x2, γ', r', r1, r2, r3⟩ | ⟨j', fs', c', ns', g', γ', r', i', Q', pl', r1, r2, r3, r4, r5⟩ | ⟨j', x1, x2, γ', r', i', Q', r1, r2, r3, r4⟩ | ⟨j', x1, x2, γ', r', r1, r2, r3⟩
    · exact no (k3 q1 q2).1 (k1 r1 r2 r3) (by decide)
    · exact no (k3 q1 q2).1 (k2 r1 r2) (by decide)
    · have e1 : nI (ν j) = nI (ν j') := (k3 q1 q2).2.symm.trans (k3 r1 r2).2
      obtain ⟨n1, n2⟩ := hν _ q1
      obtain ⟨n3, -⟩ := hν _ r1
      have e2 : ν j = ν j' := (nI_eq n1 n3).mp e1
      have := hou.2 _ q1 _ r1 (n2 _ r1 e2)
      cases this
      rw [q3] at r3
      cases r3
      rw [q4] at r4
      cases r4
      rw [q5, r5]
    · exact no (k3 q1 q2).1 (k4 r1 r2) (by decide)
    · exact no (k3 q1 q2).1 (k5 r1 r2) (by decide)
  · rcases h' with ⟨p', cnt', x', z', r1, r2, r3, r4⟩ | ⟨j', x1, x2, γ', r', r1, r2, r3⟩ | ⟨j', fs', c', ns', g', γ', r', i', Q', pl', r1, r2, r3, r4, r5⟩ | ⟨j', x1, x2, γ', r', i', Q', r1, r2, r3, r4⟩ | ⟨j', x1, x2, γ', r', r1, r2, r3⟩
    · exact no (k4 q1 q2) (k1 r1 r2 r3) (by decide)
    · exact no (k4 q1 q2) (k2 r1 r2) (by decide)
    · exact no (k4 q1 q2) (k3 r1 r2).1 (by decide)
    · have e : j = j' := by omega
      have := hou.2 _ q1 _ r1 e
      cases this
      rw [q3] at r3
      cases r3
      rw [q4, r4]
    · exact no (k4 q1 q2) (k5 r1 r2) (by decide)
  · rcases h' with ⟨p', cnt', x', z', r1, r2, r3, r4⟩ | ⟨j', x1, x2, γ', r', r1, r2, r3⟩ | ⟨j', fs', c', ns', g', γ', r', i', Q', pl', r1, r2, r3, r4, r5⟩ | ⟨j', x1, x2, γ', r', i', Q', r1, r2, r3, r4⟩ | ⟨j', x1, x2, γ', r', r1, r2, r3⟩
    · exact no (k5 q1 q2) (k1 r1 r2 r3) (by decide)
    · exact no (k5 q1 q2) (k2 r1 r2) (by decide)
    · exact no (k5 q1 q2) (k3 r1 r2).1 (by decide)
    · exact no (k5 q1 q2) (k4 r1 r2) (by decide)
    · have e : j = j' := by omega
      have := hou.2 _ q1 _ r1 e
      cases this
      rw [q3, r3]
end VRF
