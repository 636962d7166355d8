/-! a variable has one frame -/
section VFF
variable {K : Nat → Nat} {V : Nat → Int64} {y : TR} {W : Nat → Int32 × Int32 × Int32} {ν : Nat → Nat} {e0 : Nat}
theorem VF_fun {f : Nat} (w : PW K y 0 e0) (hf : f + tln y < 2 ^ 31) (hW : FA (WPs W ν) y f) (hν : ∀ z, z ∈ scP y → ν (otk z.1) < 2 ^ 31 ∧ ∀ z', z' ∈ scP y → ν (otk z.1) = ν (otk z'.1) → otk z.1 = otk z'.1) (hL : ∀ j fs c ns g γ r, (.tag 7 (.tag j (.append fs (.append c (.append ns g)))), γ, r) ∈ scP y → LL fs ∧ LL ns) {P : TPth} {b : Nat} {F F' : TPth} (h : VF V y P b F) (h' : VF V y P b F') : F = F' := by
  have hn := wn_P w f hW
  have hp := wp_P w f hW
  have hou := ou_P w
  have k1 : ∀ {p cnt : Nat} {x : TR} {z : Nat}, (p, cnt, x) ∈ fuP y → z < cnt → b = p + 2 + 2 * z → (W b).1 = 1 := fun {p cnt x z} q1 q2 q3 => by
    obtain ⟨c, -, -, -, c4⟩ := hp p cnt x q1
    rw [q3, c4 z q2]
  have k2 : ∀ {j : Nat} {x x' : TR} {γ : List Nat} {r : Nat}, (.tag 5 (.tag j (.append x x')), γ, r) ∈ scP y → b = j + 1 → (W b).1 = 2 := fun {j x x' γ r} q1 q2 => by
    have : W (j + 1) = (2, nI (ν j), 0) := hn _ q1
    rw [q2, this]
  have k3 : ∀ {j : Nat} {fs c ns g : TR} {γ : List Nat} {r : Nat}, (.tag 7 (.tag j (.append fs (.append c (.append ns g)))), γ, r) ∈ scP y → b ∈ tks fs → (W b).1 = 3 ∧ (W b).2.1 = nI (ν j) := fun {j fs c ns g γ r} q1 q2 => by
    have : WbL W (nI (ν j)) fs 0 := hn _ q1
    obtain ⟨k, hk⟩ := WbL_at fs (hL _ _ _ _ _ _ _ q1).1 0 this b q2
    rw [hk]
    exact ⟨rfl, rfl⟩
  have k4 : ∀ {j : Nat} {x x' : TR} {γ : List Nat} {r : Nat}, (.tag 11 (.tag j (.append x x')), γ, r) ∈ scP y → b = j + 3 → (W b).1 = 4 := fun {j x x' γ r} q1 q2 => by
    have : W (j + 1) = (5, nI (ν j), 0) ∧ W (j + 3) = (4, nI (ν j), 0) := hn _ q1
    rw [q2, this.2]
  have k5 : ∀ {j : Nat} {x x' : TR} {γ : List Nat} {r : Nat}, (.tag 11 (.tag j (.append x x')), γ, r) ∈ scP y → b = j + 1 → (W b).1 = 5 := fun {j x x' γ r} q1 q2 => by
    have : W (j + 1) = (5, nI (ν j), 0) ∧ W (j + 3) = (4, nI (ν j), 0) := hn _ q1
    rw [q2, this.1]
  have no : ∀ {i i' : Int32} {Q : Prop}, (W b).1 = i → (W b).1 = i' → i ≠ i' → Q := fun h1 h2 h3 => absurd (h1.symm.trans h2) h3
  have k7 : ∀ {j j' : Nat} {fs c ns g fs' c' ns' g' : TR} {γ γ' : List Nat} {r r' : Nat}, (.tag 7 (.tag j (.append fs (.append c (.append ns g)))), γ, r) ∈ scP y → b ∈ tks fs → (.tag 7 (.tag j' (.append fs' (.append c' (.append ns' g')))), γ', r') ∈ scP y → b ∈ tks fs' → j = j' := fun {j j' fs c ns g fs' c' ns' g' γ γ' r r'} q1 q2 q3 q4 => by
    have e1 : nI (ν j) = nI (ν j') := (k3 q1 q2).2.symm.trans (k3 q3 q4).2
    obtain ⟨n1, n2⟩ := hν _ q1
    obtain ⟨n3, -⟩ := hν _ q3
    exact n2 _ q3 ((nI_eq n1 n3).mp e1)
  have k45 : ∀ {j : Nat} {x x' : TR} {γ : List Nat} {r : Nat}, (.tag 11 (.tag j (.append x x')), γ, r) ∈ scP y → b = j + 3 ∨ b = j + 1 → (W b).1 = 4 ∨ (W b).1 = 5 := fun {j x x' γ r} q1 q2 => q2.imp (k4 q1) (k5 q1)
  have no2 : ∀ {i : Int32} {Q : Prop}, (W b).1 = i → (W b).1 = 4 ∨ (W b).1 = 5 → i ≠ 4 → i ≠ 5 → Q := fun h1 h2 h3 h4 => by
    rcases h2 with h2 | h2
    · exact absurd (h1.symm.trans h2) h3
    · exact absurd (h1.symm.trans h2) h4
  rcases h with ⟨p, cnt, x, z, q1, q2, q3, q4⟩ | ⟨j, x, x', γ, r, q1, q2, q3⟩ | ⟨j, fs, c, ns, g, γ, r, q1, q2, q3⟩ | ⟨j, x, x', γ, r, q1, q2, q3⟩
  · rcases h' with ⟨p', cnt', x', z', r1, r2, r3, r4⟩ | ⟨j', x1, x2, γ', r', r1, r2, r3⟩ | ⟨j', fs', c', ns', g', γ', r', r1, r2, r3⟩ | ⟨j', x1, x2, γ', r', r1, r2, r3⟩
    · obtain ⟨c, c1, c2, c3, c4⟩ := hp p cnt x q1
      obtain ⟨c', d1, d2, d3, d4⟩ := hp p' cnt' x' r1
      have e1 : nI c = nI c' := by
        have a1 := c4 z q2
        have a2 := d4 z' r2
        rw [← q3] at a1
        rw [← r3] at a2
        exact congrArg (fun t => t.2.1) (a1.symm.trans a2)
      have e2 : c = c' := (nI_eq (by omega) (by omega)).mp e1
      rw [← e2, c3] at d3
      have hpp : p = p' := congrArg (fun u => u.1) (Option.some.inj d3)
      rw [q4, r4, hpp]
    · exact no (k1 q1 q2 q3) (k2 r1 r2) (by decide)
    · exact no (k1 q1 q2 q3) (k3 r1 r2).1 (by decide)
    · exact no2 (k1 q1 q2 q3) (k45 r1 r2) (by decide) (by decide)
  · rcases h' with ⟨p', cnt', x', z', r1, r2, r3, r4⟩ | ⟨j', x1, x2, γ', r', r1, r2, r3⟩ | ⟨j', fs', c', ns', g', γ', r', r1, r2, r3⟩ | ⟨j', x1, x2, γ', r', r1, r2, r3⟩
    · exact no (k2 q1 q2) (k1 r1 r2 r3) (by decide)
    · have e : j = j' := by omega
      have := hou.2 _ q1 _ r1 e
      have hr : r = r' := congrArg (fun u => u.2.2) this
      rw [q3, r3, hr]
    · exact no (k2 q1 q2) (k3 r1 r2).1 (by decide)
    · exact no2 (k2 q1 q2) (k45 r1 r2) (by decide) (by decide)
  · rcases h' with ⟨p', cnt', x', z', r1, r2, r3, r4⟩ | ⟨j', x1, x2, γ', r', r1, r2, r3⟩ | ⟨j', fs', c', ns', g', γ', r', r1, r2, r3⟩ | ⟨j', x1, x2, γ', r', r1, r2, r3⟩
    · exact no (k3 q1 q2).1 (k1 r1 r2 r3) (by decide)
    · exact no (k3 q1 q2).1 (k2 r1 r2) (by decide)
    · have e := k7 q1 q2 r1 r2
      have := hou.2 _ q1 _ r1 e
      cases this
      rcases q3 with ⟨u1, u2⟩ | ⟨u1, u2⟩
      · rcases r3 with ⟨v1, v2⟩ | ⟨v1, v2⟩
        · rw [u2, v2]
        · exact absurd v1 u1
      · rcases r3 with ⟨v1, v2⟩ | ⟨v1, v2⟩
        · exact absurd u1 v1
        · rw [u2, v2]
    · exact no2 (k3 q1 q2).1 (k45 r1 r2) (by decide) (by decide)
  · rcases h' with ⟨p', cnt', x', z', r1, r2, r3, r4⟩ | ⟨j', x1, x2, γ', r', r1, r2, r3⟩ | ⟨j', fs', c', ns', g', γ', r', r1, r2, r3⟩ | ⟨j', x1, x2, γ', r', r1, r2, r3⟩
    · exact no2 (k1 r1 r2 r3) (k45 q1 q2) (by decide) (by decide)
    · exact no2 (k2 r1 r2) (k45 q1 q2) (by decide) (by decide)
    · exact no2 (k3 r1 r2).1 (k45 q1 q2) (by decide) (by decide)
    · have e : j = j' := by
        rcases q2 with q2 | q2
        · rcases r2 with r2 | r2
          · omega
          · exact no (k4 q1 q2) (k5 r1 r2) (by decide)
        · rcases r2 with r2 | r2
          · exact no (k5 q1 q2) (k4 r1 r2) (by decide)
          · omega
      rw [q3, r3, e]
end VFF
