/-! few activations an event -/
section LBS
variable {K : Nat → Nat} {V : Nat → Int64} {y : TR} {e : Nat}
theorem cw_nl {x : TR} {p e md : Nat} (w : Wt K x p e md) : cw 0 1 x ≤ nl x := by
  refine Wt_ind (K := K) (P := fun x p e md => cw 0 1 x ≤ nl x) ?_ ?_ ?_ ?_ ?_ ?_ ?_ ?_ ?_ ?_ ?_ ?_ ?_ ?_ ?_ (tsz x) x p e md (Nat.le_refl _) w
  · intro p md _; exact Nat.le_refl _
  · intro p md _; exact Nat.le_refl _
  · intro p md _; exact Nat.le_refl _
  · intro p md _; exact Nat.le_refl _
  · intro p as b md _ _ w1 ih; show cw 0 1 as + 0 ≤ nl as; omega
  · intro p x y b e md _ w1 w2 i1 i2; show cw 0 1 x + (cw 0 1 y + 0) ≤ nl x + nl y; omega
  · intro p x y z b c e md w1 w2 w3 i1 i2 i3; show cw 0 1 x + 0 ≤ nl x + (nl y + nl z); omega
  · intro p fs c ns g b d f' e md _ _ w1 w2 w3 w4 i1 i2 i3 i4; show cw 0 1 fs + (0 + (1 + cw 0 1 c)) ≤ 1 + nq4 (tln fs) + (nl fs + (nl c + (nl ns + nl g))); omega
  · intro p x e md _ w1 ih; show cw 0 1 x + 0 ≤ nl x; omega
  · intro p j x y e md _ w1 w2 i1 i2; show cw 0 1 x + (cw 0 1 y + 0) ≤ nl x + nl y; omega
  · intro p j x y b md w1 w2 i1 i2; show cw 0 1 x + (cw 0 1 y + 0) ≤ nl x + nl y; omega
  · intro p x y b e md _ _ w1 w2 i1 i2; show cw 0 1 x + 0 ≤ nl x + nl y; omega
  · intro p x b md w1 ih; show cw 0 1 x + 0 ≤ nl x; omega
  · intro p x b md hmd _ w1 ih; show cw 0 1 x + 0 ≤ nl x + 0; omega
  · intro p x l b e md hmd _ _ w1 w2 i1 i2; show cw 0 1 x + cw 0 1 l ≤ nl x + nl l; omega
theorem nl_sub {x : TR} {p e md : Nat} (w : Wt K x p e md) : ∀ (γ : List Nat) (r : Nat) (z : TR × List Nat × Nat), z ∈ sbc x γ r → nl z.1 ≤ nl x := by
  have hd : ∀ {X : TR} {γ : List Nat} {r : Nat} {l : List (TR × List Nat × Nat)}, sbc X γ r = (X, γ, r) :: l → (∀ z : TR × List Nat × Nat, z ∈ l → nl z.1 ≤ nl X) → ∀ z : TR × List Nat × Nat, z ∈ sbc X γ r → nl z.1 ≤ nl X := fun {X γ r l} hs h z hz => by
    rw [hs] at hz
    rcases List.mem_cons.mp hz with rfl | hz
    · exact Nat.le_refl _
    · exact h z hz
  have ap : ∀ {l1 l2 : List (TR × List Nat × Nat)} {n : Nat}, (∀ z : TR × List Nat × Nat, z ∈ l1 → nl z.1 ≤ n) → (∀ z : TR × List Nat × Nat, z ∈ l2 → nl z.1 ≤ n) → ∀ z : TR × List Nat × Nat, z ∈ l1 ++ l2 → nl z.1 ≤ n := fun {l1 l2 n} h1 h2 z hz => by
    rcases List.mem_append.mp hz with hz | hz
    · exact h1 z hz
    · exact h2 z hz
  have nn : ∀ {n : Nat} (z : TR × List Nat × Nat), z ∈ ([] : List (TR × List Nat × Nat)) → nl z.1 ≤ n := fun z h => absurd h List.not_mem_nil
  have up : ∀ {l : List (TR × List Nat × Nat)} {n n' : Nat}, (∀ z : TR × List Nat × Nat, z ∈ l → nl z.1 ≤ n) → n ≤ n' → ∀ z : TR × List Nat × Nat, z ∈ l → nl z.1 ≤ n' := fun h1 h2 z hz => Nat.le_trans (h1 z hz) h2
  refine Wt_ind (K := K) (P := fun x p e md => ∀ (γ : List Nat) (r : Nat) (z : TR × List Nat × Nat), z ∈ sbc x γ r → nl z.1 ≤ nl x) ?_ ?_ ?_ ?_ ?_ ?_ ?_ ?_ ?_ ?_ ?_ ?_ ?_ ?_ ?_ (tsz x) x p e md (Nat.le_refl _) w
  · intro p md _ γ r; exact hd rfl nn
  · intro p md _ γ r; exact hd rfl nn
  · intro p md _ γ r; exact hd rfl nn
  · intro p md _ γ r; exact hd rfl nn
  · intro p as b md _ _ w1 ih γ r; exact hd rfl (up (ih _ _) (Nat.le_refl _))
  · intro p x y b e md _ w1 w2 i1 i2 γ r; exact hd rfl (ap (up (i1 _ _) (by show nl x ≤ nl x + nl y; omega)) (up (i2 _ _) (by show nl y ≤ nl x + nl y; omega)))
  · intro p x y z b c e md w1 w2 w3 i1 i2 i3 γ r; exact hd rfl (ap (up (i1 _ _) (by show nl x ≤ nl x + (nl y + nl z); omega)) (ap (up (i2 _ _) (by show nl y ≤ nl x + (nl y + nl z); omega)) (up (i3 _ _) (by show nl z ≤ nl x + (nl y + nl z); omega))))
  · intro p fs c ns g b d f' e md _ _ w1 w2 w3 w4 i1 i2 i3 i4 γ r
    exact hd rfl (ap (up (i1 _ _) (by show nl fs ≤ 1 + nq4 (tln fs) + (nl fs + (nl c + (nl ns + nl g))); omega)) (ap (up (i2 _ _) (by show nl c ≤ 1 + nq4 (tln fs) + (nl fs + (nl c + (nl ns + nl g))); omega)) (ap (up (i3 _ _) (by show nl ns ≤ 1 + nq4 (tln fs) + (nl fs + (nl c + (nl ns + nl g))); omega)) (up (i4 _ _) (by show nl g ≤ 1 + nq4 (tln fs) + (nl fs + (nl c + (nl ns + nl g))); omega)))))
  · intro p x e md _ w1 ih γ r; exact hd rfl (up (ih _ _) (Nat.le_refl _))
  · intro p j x y e md _ w1 w2 i1 i2 γ r; exact hd rfl (ap (up (i1 _ _) (by show nl x ≤ nl x + nl y; omega)) (up (i2 _ _) (by show nl y ≤ nl x + nl y; omega)))
  · intro p j x y b md w1 w2 i1 i2 γ r; exact hd rfl (ap (up (i1 _ _) (by show nl x ≤ nl x + nl y; omega)) (up (i2 _ _) (by show nl y ≤ nl x + nl y; omega)))
  · intro p x y b e md _ _ w1 w2 i1 i2 γ r; exact hd rfl (ap (up (i1 _ _) (by show nl x ≤ nl x + nl y; omega)) (up (i2 _ _) (by show nl y ≤ nl x + nl y; omega)))
  · intro p x b md w1 ih γ r; exact hd rfl (up (ih _ _) (Nat.le_refl _))
  · intro p x b md hmd _ w1 ih γ r; exact ap (up (ih γ r) (by show nl x ≤ nl x + 0; omega)) nn
  · intro p x l b e md hmd _ _ w1 w2 i1 i2 γ r; exact ap (up (i1 γ r) (by show nl x ≤ nl x + nl l; omega)) (up (i2 γ r) (by show nl l ≤ nl x + nl l; omega))
theorem LB_P (w : PW K y 0 e) (h : FA (fun _ _ _ x => nl x ≤ 20) y 0) : LB V y := by
  have hf : ∀ {q cnt : Nat} {x : TR}, (q, cnt, x) ∈ fuP y → nl x ≤ 20 := fun {q cnt x} hq => by
    obtain ⟨i, hi⟩ := List.getElem?_of_mem hq
    exact (FA_fu w 0 h i q cnt x hi).1
  have hz20 : ∀ {z : TR × List Nat × Nat}, z ∈ scP y → nl z.1 ≤ 20 := fun {z} hz => by
    obtain ⟨q, cnt, x, h1, h2⟩ := sc_fu w z hz
    obtain ⟨⟨b, e1, wx⟩, -, -⟩ := fu_sc w q cnt x h1
    have := nl_sub wx _ _ z h2
    have := hf h1
    omega
  refine ⟨fun P hP => ?_, fun z hz hl => ?_⟩
  · cases P with
    | nil => exact absurd hP id
    | cons c Q =>
      have fn : ∀ {q cnt : Nat} {x : TR}, (q, cnt, x) ∈ fuP y → c.1 = 4 * q → 1 + cwR 0 1 y (hdR (c :: Q)) ≤ 21 := fun {q cnt x} h1 h2 => by
        show 1 + cwR 0 1 y c.1 ≤ 21
        rw [h2, cwR_f w h1]
        obtain ⟨⟨b, e1, wx⟩, -, -⟩ := fu_sc w q cnt x h1
        have := cw_nl wx
        have := hf h1
        omega
      cases Q with
      | nil =>
        obtain ⟨q, cnt, x, h1, h2⟩ := hP
        exact fn h1 (congrArg Prod.fst h2)
      | cons c' Q =>
        rcases hP.1 with ⟨as, γ, i, q, cnt, x, h1, h2, h3, h4⟩ | ⟨z, h1, h2⟩
        · exact fn (List.mem_of_getElem? h3) h4
        · have hi := cwR_n (u := 0) (v := 1) w h1
          have h20 := hz20 h1
          obtain ⟨⟨p', e', wz⟩, hs, -⟩ := (tl_P w) z h1
          obtain ⟨x, γ, r⟩ := z
          have hs : shp x := hs
          show 1 + cwR 0 1 y c.1 ≤ 21
          rcases hs with ⟨j, rfl⟩ | ⟨j, rfl⟩ | ⟨j, rfl⟩ | ⟨j, as, rfl⟩ | ⟨j, a, b, rfl⟩ | ⟨j, a, b, d, rfl⟩ | ⟨j, fs, d, ns, g, rfl⟩ | ⟨j, a, rfl⟩ | ⟨j, a, b, rfl⟩ | ⟨j, a, b, rfl⟩ | ⟨j, a, b, rfl⟩ | ⟨j, a, rfl⟩
          · exact absurd h2 id
          · exact absurd h2 id
          · exact absurd h2 id
          · exact absurd h2 id
          · exact absurd h2 id
          · obtain ⟨-, b1, c1, w1, w2, w3⟩ := wz
            have := cw_nl w2; have := cw_nl w3
            have h20 : nl a + (nl b + nl d) ≤ 20 := h20
            rcases h2 with ⟨q | q, -⟩
            · rw [q, hi.1]; omega
            · rw [q, hi.2]; omega
          · obtain ⟨-, b1, c1, d1, n1, n2, w1, w2, w3, w4⟩ := wz
            have := cw_nl w2; have := cw_nl w3; have := cw_nl w4
            have h20 : 1 + nq4 (tln fs) + (nl fs + (nl d + (nl ns + nl g))) ≤ 20 := h20
            rcases h2 with ⟨q, -⟩ | ⟨q | q, -⟩
            · rw [q, hi.1]; omega
            · rw [q, hi.2.1]; omega
            · rw [q, hi.2.2]; omega
          · exact absurd h2 id
          · exact absurd h2 id
          · exact absurd h2 id
          · obtain ⟨-, k1, k2, b1, w1, w2⟩ := wz
            have := cw_nl w2
            have h20 : nl a + nl b ≤ 20 := h20
            obtain ⟨q, -⟩ := h2
            rw [q, show cwR 0 1 y (4 * j) = cw 0 1 b from hi]; omega
          · exact absurd h2 id
  · have hi := cwR_n (u := 0) (v := 1) w hz
    have h20 := hz20 hz
    obtain ⟨⟨p', e', wz⟩, hs, -⟩ := (tl_P w) z hz
    obtain ⟨x, γ, r⟩ := z
    have hs : shp x := hs
    rcases hs with ⟨j, rfl⟩ | ⟨j, rfl⟩ | ⟨j, rfl⟩ | ⟨j, as, rfl⟩ | ⟨j, a, b, rfl⟩ | ⟨j, a, b, d, rfl⟩ | ⟨j, fs, d, ns, g, rfl⟩ | ⟨j, a, rfl⟩ | ⟨j, a, b, rfl⟩ | ⟨j, a, b, rfl⟩ | ⟨j, a, b, rfl⟩ | ⟨j, a, rfl⟩
    · cases hl
    · cases hl
    · cases hl
    · cases hl
    · cases hl
    · cases hl
    · obtain ⟨-, b1, c1, d1, n1, n2, w1, w2, w3, w4⟩ := wz
      have := cw_nl w2; have := cw_nl w3
      have h20 : 1 + nq4 (tln fs) + (nl fs + (nl d + (nl ns + nl g))) ≤ 20 := h20
      show 2 + cwR 0 1 y (4 * j + 1) + cwR 0 1 y (4 * j) ≤ 21
      rw [hi.1, hi.2.1]
      omega
    · cases hl
    · cases hl
    · cases hl
    · cases hl
    · cases hl
end LBS
