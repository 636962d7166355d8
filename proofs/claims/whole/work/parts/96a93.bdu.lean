/-! a variable is bound at one place -/
section BDU
variable {K : Nat → Nat} {V : Nat → Int64} {y : TR} {W : Nat → Int32 × Int32 × Int32} {ν : Nat → Nat} {e0 f : Nat}
theorem Bd_P (B : SBd K V y e0 f W ν) {P P' F : TPth} {z z' : TR × List Nat × Nat} {b : Nat} (hz : z ∈ scP y) (hz' : z' ∈ scP y) (hr : z.2.2 = hdR P) (hr' : z'.2.2 = hdR P') (hP : POk V y P ∧ Z0 y P) (hP' : POk V y P' ∧ Z0 y P') (h : Bnd V y P z F b) (h' : Bnd V y P' z' F b) : P = P' ∧ otk z.1 = otk z'.1 := by
  obtain ⟨w, hf, hW, hν, hL, hG, hAs⟩ := B
  have hn := wn_P w f hW
  have hp := wp_P w f hW
  have hou := ou_P w
  have k1 : ∀ {p cnt : Nat} {x : TR} {z : Nat}, (p, cnt, x) ∈ fuP y → z < cnt → b = p + 2 + 2 * z → (W b).1 = 1 := fun {p cnt x z} q1 q2 q3 => by
    obtain ⟨c, -, -, -, c4⟩ := hp p cnt x q1
    rw [q3, c4 z q2]
  have k2 : ∀ {j : Nat} {x x' : TR} {γ : List Nat} {r : Nat}, (.tag 5 (.tag j (.append x x')), γ, r) ∈ scP y → b = j + 1 → (W b).1 = 2 := fun {j x x' γ r} q1 q2 => by
    have : W (j + 1) = (2, nI (ν j), 0) := hn _ q1
    rw [q2, this]
  have k3 : ∀ {j : Nat} {fs c ns g : TR} {γ : List Nat} {r : Nat}, (.tag 7 (.tag j (.append fs (.append c (.append ns g)))), γ, r) ∈ scP y → b ∈ tks fs → (W b).1 = 3 ∧ (W b).2.1 = nI (ν j) := fun {j fs c ns g γ r} q1 q2 => by
    have : WbL W (nI (ν j)) fs 0 := hn _ q1
    obtain ⟨k, hk⟩ := WbL_at fs (hL _ _ _ _ _ _ _ q1).1 0 this b q2
    rw [hk]
    exact ⟨rfl, rfl⟩
  have k4 : ∀ {j : Nat} {x x' : TR} {γ : List Nat} {r : Nat}, (.tag 11 (.tag j (.append x x')), γ, r) ∈ scP y → b = j + 3 → (W b).1 = 4 := fun {j x x' γ r} q1 q2 => by
    have : W (j + 1) = (5, nI (ν j), 0) ∧ W (j + 3) = (4, nI (ν j), 0) := hn _ q1
    rw [q2, this.2]
  have k5 : ∀ {j : Nat} {x x' : TR} {γ : List Nat} {r : Nat}, (.tag 11 (.tag j (.append x x')), γ, r) ∈ scP y → b = j + 1 → (W b).1 = 5 := fun {j x x' γ r} q1 q2 => by
    have : W (j + 1) = (5, nI (ν j), 0) ∧ W (j + 3) = (4, nI (ν j), 0) := hn _ q1
    rw [q2, this.1]
  have no : ∀ {i i' : Int32} {Q : Prop}, (W b).1 = i → (W b).1 = i' → i ≠ i' → Q := fun h1 h2 h3 => absurd (h1.symm.trans h2) h3
  have k7 : ∀ {j j' : Nat} {fs c ns g fs' c' ns' g' : TR} {γ γ' : List Nat} {r r' : Nat}, (.tag 7 (.tag j (.append fs (.append c (.append ns g)))), γ, r) ∈ scP y → b ∈ tks fs → (.tag 7 (.tag j' (.append fs' (.append c' (.append ns' g')))), γ', r') ∈ scP y → b ∈ tks fs' → j = j' := fun {j j' fs c ns g fs' c' ns' g' γ γ' r r'} q1 q2 q3 q4 => by
    have e1 : nI (ν j) = nI (ν j') := (k3 q1 q2).2.symm.trans (k3 q3 q4).2
    obtain ⟨n1, n2⟩ := hν _ q1
    obtain ⟨n3, -⟩ := hν _ q3
    exact n2 _ q3 ((nI_eq n1 n3).mp e1)
  have k45 : ∀ {j : Nat} {x x' : TR} {γ : List Nat} {r : Nat}, (.tag 11 (.tag j (.append x x')), γ, r) ∈ scP y → b = j + 3 ∨ b = j + 1 → (W b).1 = 4 ∨ (W b).1 = 5 := fun {j x x' γ r} q1 q2 => q2.imp (k4 q1) (k5 q1)
  have no2 : ∀ {i : Int32} {Q : Prop}, (W b).1 = i → (W b).1 = 4 ∨ (W b).1 = 5 → i ≠ 4 → i ≠ 5 → Q := fun h1 h2 h3 h4 => by
    rcases h2 with h2 | h2
    · exact absurd (h1.symm.trans h2) h3
    · exact absurd (h1.symm.trans h2) h4
  have tl : ∀ {c c' : Nat × Nat} {Q Q' : TPth}, c :: Q = c' :: Q' → Q = Q' := fun h => (List.cons.inj h).2
  have hs := ((tl_P w) z hz).2.1
  have hs' := ((tl_P w) z' hz').2.1
  obtain ⟨x, γ, r⟩ := z
  obtain ⟨x', γ', r'⟩ := z'
  have hs : shp x := hs
  have hs' : shp x' := hs'
  have hr : r = hdR P := hr
  have hr' : r' = hdR P' := hr'
  rcases hs with ⟨j, rfl⟩ | ⟨j, rfl⟩ | ⟨j, rfl⟩ | ⟨j, as, rfl⟩ | ⟨j, a, b1, rfl⟩ | ⟨j, a, b1, c, rfl⟩ | ⟨j, fs, c, ns, g, rfl⟩ | ⟨j, a, rfl⟩ | ⟨j, a, b1, rfl⟩ | ⟨j, a, b1, rfl⟩ | ⟨j, a, b1, rfl⟩ | ⟨j, a, rfl⟩
  · exact absurd h id
  · exact absurd h id
  · exact absurd h id
  · obtain ⟨i, p, cnt, xf, zf, u1, u2, u3, u4, u5⟩ := h
    rcases hs' with ⟨j', rfl⟩ | ⟨j', rfl⟩ | ⟨j', rfl⟩ | ⟨j', as', rfl⟩ | ⟨j', a', b1', rfl⟩ | ⟨j', a', b1', c', rfl⟩ | ⟨j', fs', c', ns', g', rfl⟩ | ⟨j', a', rfl⟩ | ⟨j', a', b1', rfl⟩ | ⟨j', a', b1', rfl⟩ | ⟨j', a', b1', rfl⟩ | ⟨j', a', rfl⟩
    · exact absurd h' id
    · exact absurd h' id
    · exact absurd h' id
    · obtain ⟨i', p', cnt', xf', zf', u1', u2', u3', u4', u5'⟩ := h'
      rw [u4] at u4'
      exact ⟨tl u4', congrArg (fun u : TPth => match u with | c :: _ => c.2 | _ => 0) u4'⟩
    · obtain ⟨u1', u2'⟩ := h'
      exact no (k1 (List.mem_of_getElem? u2) u3 u5) (k2 hz' u2') (by decide)
    · exact absurd h' id
    · obtain ⟨u1', u2'⟩ := h'
      exact no (k1 (List.mem_of_getElem? u2) u3 u5) (k3 hz' u1').1 (by decide)
    · exact absurd h' id
    · exact absurd h' id
    · exact absurd h' id
    · obtain ⟨u1', i', u2'⟩ := h'
      exact no2 (k1 (List.mem_of_getElem? u2) u3 u5) (k45 hz' u1') (by decide) (by decide)
    · exact absurd h' id
  · obtain ⟨u1, u2⟩ := h
    rcases hs' with ⟨j', rfl⟩ | ⟨j', rfl⟩ | ⟨j', rfl⟩ | ⟨j', as', rfl⟩ | ⟨j', a', b1', rfl⟩ | ⟨j', a', b1', c', rfl⟩ | ⟨j', fs', c', ns', g', rfl⟩ | ⟨j', a', rfl⟩ | ⟨j', a', b1', rfl⟩ | ⟨j', a', b1', rfl⟩ | ⟨j', a', b1', rfl⟩ | ⟨j', a', rfl⟩
    · exact absurd h' id
    · exact absurd h' id
    · exact absurd h' id
    · obtain ⟨i', p', cnt', xf', zf', u1', u2', u3', u4', u5'⟩ := h'
      exact no (k2 hz u2) (k1 (List.mem_of_getElem? u2') u3' u5') (by decide)
    · obtain ⟨u1', u2'⟩ := h'
      have hs := hou.2 _ hz _ hz' (show j = j' by omega)
      have hrr : r = r' := congrArg (fun u => u.2.2) hs
      exact ⟨P_uq (V := V) w P P' hP.1 hP'.1 hP.2 hP'.2 (u1.symm.trans u1') (by rw [← hr, ← hr', hrr]), show j = j' by omega⟩
    · exact absurd h' id
    · obtain ⟨u1', u2'⟩ := h'
      exact no (k2 hz u2) (k3 hz' u1').1 (by decide)
    · exact absurd h' id
    · exact absurd h' id
    · exact absurd h' id
    · obtain ⟨u1', i', u2'⟩ := h'
      exact no2 (k2 hz u2) (k45 hz' u1') (by decide) (by decide)
    · exact absurd h' id
  · exact absurd h id
  · obtain ⟨u1, u2⟩ := h
    rcases hs' with ⟨j', rfl⟩ | ⟨j', rfl⟩ | ⟨j', rfl⟩ | ⟨j', as', rfl⟩ | ⟨j', a', b1', rfl⟩ | ⟨j', a', b1', c', rfl⟩ | ⟨j', fs', c', ns', g', rfl⟩ | ⟨j', a', rfl⟩ | ⟨j', a', b1', rfl⟩ | ⟨j', a', b1', rfl⟩ | ⟨j', a', b1', rfl⟩ | ⟨j', a', rfl⟩
    · exact absurd h' id
    · exact absurd h' id
    · exact absurd h' id
    · obtain ⟨i', p', cnt', xf', zf', u1', u2', u3', u4', u5'⟩ := h'
      exact no (k3 hz u1).1 (k1 (List.mem_of_getElem? u2') u3' u5') (by decide)
    · obtain ⟨u1', u2'⟩ := h'
      exact no (k3 hz u1).1 (k2 hz' u2') (by decide)
    · exact absurd h' id
    · obtain ⟨u1', u2'⟩ := h'
      have hj := k7 hz u1 hz' u1'
      have hs := hou.2 _ hz _ hz' hj
      cases hs
      rcases u2 with ⟨v1, i, v2⟩ | ⟨v1, v2⟩
      · rcases u2' with ⟨v1', i', v2'⟩ | ⟨v1', v2'⟩
        · rw [v2] at v2'
          exact ⟨tl v2', rfl⟩
        · exact absurd v1' v1
      · rcases u2' with ⟨v1', i', v2'⟩ | ⟨v1', v2'⟩
        · exact absurd v1 v1'
        · exact ⟨P_uq (V := V) w P P' hP.1 hP'.1 hP.2 hP'.2 (v2.symm.trans v2') (by rw [← hr, ← hr']), rfl⟩
    · exact absurd h' id
    · exact absurd h' id
    · exact absurd h' id
    · obtain ⟨u1', i', u2'⟩ := h'
      exact no2 (k3 hz u1).1 (k45 hz' u1') (by decide) (by decide)
    · exact absurd h' id
  · exact absurd h id
  · exact absurd h id
  · exact absurd h id
  · obtain ⟨u1, i, u2⟩ := h
    rcases hs' with ⟨j', rfl⟩ | ⟨j', rfl⟩ | ⟨j', rfl⟩ | ⟨j', as', rfl⟩ | ⟨j', a', b1', rfl⟩ | ⟨j', a', b1', c', rfl⟩ | ⟨j', fs', c', ns', g', rfl⟩ | ⟨j', a', rfl⟩ | ⟨j', a', b1', rfl⟩ | ⟨j', a', b1', rfl⟩ | ⟨j', a', b1', rfl⟩ | ⟨j', a', rfl⟩
    · exact absurd h' id
    · exact absurd h' id
    · exact absurd h' id
    · obtain ⟨i', p', cnt', xf', zf', u1', u2', u3', u4', u5'⟩ := h'
      exact no2 (k1 (List.mem_of_getElem? u2') u3' u5') (k45 hz u1) (by decide) (by decide)
    · obtain ⟨u1', u2'⟩ := h'
      exact no2 (k2 hz' u2') (k45 hz u1) (by decide) (by decide)
    · exact absurd h' id
    · obtain ⟨u1', u2'⟩ := h'
      exact no2 (k3 hz' u1').1 (k45 hz u1) (by decide) (by decide)
    · exact absurd h' id
    · exact absurd h' id
    · exact absurd h' id
    · obtain ⟨u1', i', u2'⟩ := h'
      rw [u2] at u2'
      have hj : 4 * j = 4 * j' := congrArg (fun u : TPth => match u with | c :: _ => c.1 | _ => 0) u2'
      exact ⟨tl u2', show j = j' by omega⟩
    · exact absurd h' id
  · exact absurd h id
theorem Bd_0 (B : SBd K V y e0 f W ν) {P F : TPth} {z : TR × List Nat × Nat} {b : Nat} (hz : z ∈ scP y) (hP : P ≠ []) (h : Bnd V y P z F b) {q0 cnt zz : Nat} {xq : TR} (h1 : (q0, cnt, xq) ∈ fuP y) (h2 : zz < cnt) (h3 : F = [(4 * q0, 0)]) (h4 : b = q0 + 2 + 2 * zz) : False := by
  obtain ⟨w, hf, hW, hν, hL, hG, hAs⟩ := B
  have hn := wn_P w f hW
  have hp := wp_P w f hW
  have hou := ou_P w
  have k1 : ∀ {p cnt : Nat} {x : TR} {z : Nat}, (p, cnt, x) ∈ fuP y → z < cnt → b = p + 2 + 2 * z → (W b).1 = 1 := fun {p cnt x z} q1 q2 q3 => by
    obtain ⟨c, -, -, -, c4⟩ := hp p cnt x q1
    rw [q3, c4 z q2]
  have k2 : ∀ {j : Nat} {x x' : TR} {γ : List Nat} {r : Nat}, (.tag 5 (.tag j (.append x x')), γ, r) ∈ scP y → b = j + 1 → (W b).1 = 2 := fun {j x x' γ r} q1 q2 => by
    have : W (j + 1) = (2, nI (ν j), 0) := hn _ q1
    rw [q2, this]
  have k3 : ∀ {j : Nat} {fs c ns g : TR} {γ : List Nat} {r : Nat}, (.tag 7 (.tag j (.append fs (.append c (.append ns g)))), γ, r) ∈ scP y → b ∈ tks fs → (W b).1 = 3 ∧ (W b).2.1 = nI (ν j) := fun {j fs c ns g γ r} q1 q2 => by
    have : WbL W (nI (ν j)) fs 0 := hn _ q1
    obtain ⟨k, hk⟩ := WbL_at fs (hL _ _ _ _ _ _ _ q1).1 0 this b q2
    rw [hk]
    exact ⟨rfl, rfl⟩
  have k4 : ∀ {j : Nat} {x x' : TR} {γ : List Nat} {r : Nat}, (.tag 11 (.tag j (.append x x')), γ, r) ∈ scP y → b = j + 3 → (W b).1 = 4 := fun {j x x' γ r} q1 q2 => by
    have : W (j + 1) = (5, nI (ν j), 0) ∧ W (j + 3) = (4, nI (ν j), 0) := hn _ q1
    rw [q2, this.2]
  have k5 : ∀ {j : Nat} {x x' : TR} {γ : List Nat} {r : Nat}, (.tag 11 (.tag j (.append x x')), γ, r) ∈ scP y → b = j + 1 → (W b).1 = 5 := fun {j x x' γ r} q1 q2 => by
    have : W (j + 1) = (5, nI (ν j), 0) ∧ W (j + 3) = (4, nI (ν j), 0) := hn _ q1
    rw [q2, this.1]
  have no : ∀ {i i' : Int32} {Q : Prop}, (W b).1 = i → (W b).1 = i' → i ≠ i' → Q := fun h1 h2 h3 => absurd (h1.symm.trans h2) h3
  have k7 : ∀ {j j' : Nat} {fs c ns g fs' c' ns' g' : TR} {γ γ' : List Nat} {r r' : Nat}, (.tag 7 (.tag j (.append fs (.append c (.append ns g)))), γ, r) ∈ scP y → b ∈ tks fs → (.tag 7 (.tag j' (.append fs' (.append c' (.append ns' g')))), γ', r') ∈ scP y → b ∈ tks fs' → j = j' := fun {j j' fs c ns g fs' c' ns' g' γ γ' r r'} q1 q2 q3 q4 => by
    have e1 : nI (ν j) = nI (ν j') := (k3 q1 q2).2.symm.trans (k3 q3 q4).2
    obtain ⟨n1, n2⟩ := hν _ q1
    obtain ⟨n3, -⟩ := hν _ q3
    exact n2 _ q3 ((nI_eq n1 n3).mp e1)
  have k45 : ∀ {j : Nat} {x x' : TR} {γ : List Nat} {r : Nat}, (.tag 11 (.tag j (.append x x')), γ, r) ∈ scP y → b = j + 3 ∨ b = j + 1 → (W b).1 = 4 ∨ (W b).1 = 5 := fun {j x x' γ r} q1 q2 => q2.imp (k4 q1) (k5 q1)
  have no2 : ∀ {i : Int32} {Q : Prop}, (W b).1 = i → (W b).1 = 4 ∨ (W b).1 = 5 → i ≠ 4 → i ≠ 5 → Q := fun h1 h2 h3 h4 => by
    rcases h2 with h2 | h2
    · exact absurd (h1.symm.trans h2) h3
    · exact absurd (h1.symm.trans h2) h4
  have hk := k1 h1 h2 h4
  have hs := ((tl_P w) z hz).2.1
  obtain ⟨x, γ, r⟩ := z
  have hs : shp x := hs
  rcases hs with ⟨j, rfl⟩ | ⟨j, rfl⟩ | ⟨j, rfl⟩ | ⟨j, as, rfl⟩ | ⟨j, a, b1, rfl⟩ | ⟨j, a, b1, c, rfl⟩ | ⟨j, fs, c, ns, g, rfl⟩ | ⟨j, a, rfl⟩ | ⟨j, a, b1, rfl⟩ | ⟨j, a, b1, rfl⟩ | ⟨j, a, b1, rfl⟩ | ⟨j, a, rfl⟩
  · exact absurd h id
  · exact absurd h id
  · exact absurd h id
  · obtain ⟨i, p, cnt, xf, zf, u1, u2, u3, u4, u5⟩ := h
    rw [u4] at h3
    exact hP (List.cons.inj h3).2
  · obtain ⟨u1, u2⟩ := h
    exact no hk (k2 hz u2) (by decide)
  · exact absurd h id
  · obtain ⟨u1, u2⟩ := h
    exact no hk (k3 hz u1).1 (by decide)
  · exact absurd h id
  · exact absurd h id
  · exact absurd h id
  · obtain ⟨u1, i, u2⟩ := h
    exact no2 hk (k45 hz u1) (by decide) (by decide)
  · exact absurd h id
/-- what a new path binds has no value yet -/
theorem new_vr {q0 : Nat} {ar : Nat → Int64} {En : TPth → Prop} {vr : TPth → Nat → Option TVal} (B : SBd K V y e0 f W ν) (hE : ABe V y q0 En) (hr : ABr V y q0 ar En vr) {P F : TPth} {z : TR × List Nat × Nat} {b : Nat} (hn : ¬ En P) (hz : z ∈ scP y) (hzr : z.2.2 = hdR P) (hP : POk V y P ∧ Z0 y P) (h : Bnd V y P z F b) : vr F b = none := by
  cases hv : vr F b with
  | none => rfl
  | some a =>
    rcases hr.2 F b a hv with ⟨cnt, x, zz, h1, h2, h3, h4⟩ | ⟨P', z', h1, h2, h3, h4⟩
    · exact (Bd_0 B hz (fun q => by rw [q] at hP; exact hP.1) h h1 h2 h3 h4).elim
    · have := (Bd_P B hz h2 hzr h3 hP (hE.2.1 P' h1) h h4).1
      rw [this] at hn
      exact absurd h1 hn
end BDU
