/-! the class's graph, node by node -/
def GA (S : im_S) (N : Nat → Nat) (j : Nat) : TR → Prop
  | .append (.tag _ x) r => rl S N (rtk x) 5 j ∧ S.1 14 (N (rtk x)) = hdT N r ∧ GA S N j r
  | _ => True
def GF (V : Nat → Int64) (S : im_S) (N L : Nat → Nat) (j R : Nat) (o : TR) : TR → Prop
  | .append (.tag p x) r => (vr V S N p ∧ N (rtk x) < N (rtk x + 1) ∧ S.1 10 (N p) = nI (N j) ∧ S.1 12 (N p) = nI (N (rtk x)) ∧ S.1 14 (N p) = hdV N r ∧ S.1 10 (N (rtk x)) = nI (N j) ∧ S.1 11 (N (rtk x)) = nI (N p) ∧ (if (fnd V (tks o) p).isSome then S.1 13 (N p) = nI (N j) ∧ S.1 9 (N (rtk x)) = 5 ∧ S.1 17 (N p) = nI (L j) else S.1 13 (N p) = -1 ∧ S.1 9 (N (rtk x)) = 4 ∧ S.1 17 (N p) = S.1 27 R)) ∧ GF V S N L j R o r
  | _ => True
def GN (V : Nat → Int64) (S : im_S) (N : Nat → Nat) (j : Nat) (l : List Nat) : TR → Prop
  | .append (.tag p x) r => (∃ b, fnd V l p = some b ∧ S.1 11 (N (rtk x)) = nI (N b)) ∧ rl S N (rtk x) 6 j ∧ GN V S N j l r
  | _ => True
def CN (K pl : Nat → Nat) (V : Nat → Int64) (S : im_S) (N M L : Nat → Nat) : TR → List Nat → Nat → Prop
  | .tag 1 (.tag j _), _, R => nd pl S N 1 1 (V j) j R
  | .tag 2 (.tag j _), _, R => nd pl S N 1 2 (if K j = 15 then 1 else 0) j R
  | .tag 3 (.tag j _), γ, R => nd pl S N 2 (tvV (V j)) (V j) j R ∧ ∃ b, fnd V γ j = some b ∧ S.1 12 (N j) = nI (N b)
  | .tag 4 (.tag j as), _, R => nd pl S N 8 (tvV (V j)) (V j) j R ∧ S.1 12 (N j) = hdT N as ∧ GA S N j as
  | .tag 5 (.tag j (.append x y)), _, R => nd pl S N 11 (tyk K (fun i => tvV (V i)) y) 0 j R ∧ vr V S N (j + 1) ∧ S.1 17 (N (j + 1)) = S.1 27 R ∧ S.1 12 (N j) = nI (N (j + 1)) ∧ rl S N (rtk x) 4 j ∧ S.1 11 (N (rtk x)) = nI (N (j + 1)) ∧ rl S N (rtk y) 3 j
  | .tag 6 (.tag j (.append x (.append y z))), _, R => nd pl S N 7 (tyk K (fun i => tvV (V i)) y) 0 j R ∧ S.1 12 (N j) = nI (N (rtk x)) ∧ rl S N (rtk x) 1 j ∧ M j + 2 ≤ M (j + 1) ∧ S.1 15 (N j) = nI (M j) ∧ S.1 27 (M j) = S.1 27 R ∧ S.1 27 (M j + 1) = S.1 27 R ∧ rl S N (rtk y) 3 j ∧ rl S N (rtk z) 3 j ∧ Seg S N (S.1 26 (M j)) (lvs y) (-1) ∧ Seg S N (S.1 26 (M j + 1)) (lvs z) (-1)
  | .tag 7 (.tag j (.append fs (.append c (.append ns g)))), γ, R => nd pl S N 9 (tyk K (fun i => tvV (V i)) g) 0 j R ∧ S.1 12 (N j) = hdV N fs ∧ S.1 13 (N j) = nI (N (rtk c)) ∧ rl S N (rtk c) 1 j ∧ rl S N (rtk g) 7 j ∧ M j + 3 ≤ M (j + 1) ∧ L j < L (j + 1) ∧ S.1 15 (N j) = nI (M j) ∧ S.1 27 (M j) = nI (L j) ∧ S.1 27 (M j + 1) = nI (L j) ∧ S.1 27 (M j + 2) = nI (L j) ∧ dpt S R (L j) ∧ Seg S N (S.1 26 (M j)) (lvs c) (-1) ∧ Seg S N (S.1 26 (M j + 1)) (lvs ns) (-1) ∧ Seg S N (S.1 26 (M j + 2)) (lvs g) (-1) ∧ GF V S N L j R ns fs ∧ GN V S N j (tks fs) ns
  | .tag 8 (.tag j x), _, R => nd pl S N 4 (if K j = 45 then 1 else 2) (Int64.ofNat (K j)) j R ∧ S.1 12 (N j) = nI (N (rtk x)) ∧ rl S N (rtk x) 1 j
  | .tag 9 (.tag j (.append x y)), _, R => nd pl S N 5 (if stg (K j) ≤ 3 then 2 else 1) (Int64.ofNat (K j)) j R ∧ S.1 12 (N j) = nI (N (rtk x)) ∧ S.1 13 (N j) = nI (N (rtk y)) ∧ rl S N (rtk x) 2 j ∧ rl S N (rtk y) 2 j
  | .tag 10 (.tag j (.append x y)), _, R => nd pl S N 6 1 0 j R ∧ S.1 12 (N j) = nI (N (rtk x)) ∧ S.1 13 (N j) = nI (N (rtk y)) ∧ rl S N (rtk x) 2 j ∧ rl S N (rtk y) 2 j
  | .tag 11 (.tag j (.append x y)), _, R => nd pl S N 10 3 0 j R ∧ S.1 12 (N j) = nI (N (rtk x)) ∧ rl S N (rtk x) 1 j ∧ S.1 13 (N j) = nI (N (j + 1)) ∧ vr V S N (j + 1) ∧ vr V S N (j + 3) ∧ S.1 14 (N (j + 1)) = nI (N (j + 3)) ∧ S.1 10 (N (j + 3)) = nI (N j) ∧ M j < M (j + 1) ∧ L j < L (j + 1) ∧ S.1 15 (N j) = nI (M j) ∧ S.1 27 (M j) = nI (L j) ∧ dpt S R (L j) ∧ S.1 17 (N (j + 1)) = nI (L j) ∧ S.1 17 (N (j + 3)) = nI (L j) ∧ rl S N (rtk y) 8 j ∧ Seg S N (S.1 26 (M j)) (lvs y) (-1)
  | .tag 12 _, _, _ => True
  | _, _, _ => False
/-- the number of a region by its code -/
def Rg (M : Nat → Nat) (r : Nat) : Nat := M (r / 4) + r % 4
theorem Rg_0 (M : Nat → Nat) (j : Nat) : Rg M (4 * j) = M j := by
  unfold Rg
  rw [show 4 * j / 4 = j by omega, show 4 * j % 4 = 0 by omega, Nat.add_zero]
theorem Rg_1 (M : Nat → Nat) (j : Nat) : Rg M (4 * j + 1) = M j + 1 := by
  unfold Rg
  rw [show (4 * j + 1) / 4 = j by omega, show (4 * j + 1) % 4 = 1 by omega]
theorem Rg_2 (M : Nat → Nat) (j : Nat) : Rg M (4 * j + 2) = M j + 2 := by
  unfold Rg
  rw [show (4 * j + 2) / 4 = j by omega, show (4 * j + 2) % 4 = 2 by omega]
section CND
variable {K pl : Nat → Nat} {V : Nat → Int64} {S : im_S} {N M L : Nat → Nat}
theorem G_nd {x : TR} {p e md : Nat} (w : Wt K x p e md) : ∀ (γ : List Nat) (R r md' c : Nat) (o : TR) (l : List Nat), G K pl V S N M L x γ R md' c o l → Rg M r = R → (∀ z, z ∈ sbc x γ r → CN K pl V S N M L z.1 z.2.1 (Rg M z.2.2)) ∧ (md' = 101 → GA S N c x) ∧ (md' = 102 → GF V S N L c R o x) ∧ (md' = 105 → GN V S N c l x) := by
  refine Wt_ind (K := K) (P := fun x p e md => ∀ (γ : List Nat) (R r md' c : Nat) (o : TR) (l : List Nat), G K pl V S N M L x γ R md' c o l → Rg M r = R → (∀ z, z ∈ sbc x γ r → CN K pl V S N M L z.1 z.2.1 (Rg M z.2.2)) ∧ (md' = 101 → GA S N c x) ∧ (md' = 102 → GF V S N L c R o x) ∧ (md' = 105 → GN V S N c l x)) ?_ ?_ ?_ ?_ ?_ ?_ ?_ ?_ ?_ ?_ ?_ ?_ ?_ ?_ ?_ (tsz x) x p e md (Nat.le_refl _) w
  · intro p md _ γ R r md' c o l g hR; subst hR; exact ⟨fm_1.mpr g, fun _ => trivial, fun _ => trivial, fun _ => trivial⟩
  · intro p md _ γ R r md' c o l g hR; subst hR; exact ⟨fm_1.mpr g, fun _ => trivial, fun _ => trivial, fun _ => trivial⟩
  · intro p md _ γ R r md' c o l g hR; subst hR; exact ⟨fm_1.mpr g, fun _ => trivial, fun _ => trivial, fun _ => trivial⟩
  · intro p md _ γ R r md' c o l g hR
    subst hR
    obtain ⟨g1, g2, g3⟩ := g
    exact ⟨fm_1.mpr ⟨g1, g2, trivial⟩, fun _ => trivial, fun _ => trivial, fun _ => trivial⟩
  · intro p as b md _ _ w1 ih γ R r md' c o l g hR
    obtain ⟨g1, g2, g3⟩ := g
    obtain ⟨i1, i2, -, -⟩ := ih γ R r 101 p .nil [] g3 hR
    subst hR
    exact ⟨fm_c.mpr ⟨⟨g1, g2, i2 rfl⟩, i1⟩, fun _ => trivial, fun _ => trivial, fun _ => trivial⟩
  · intro p x y b e md _ w1 w2 ih1 ih2 γ R r md' c o l g hR
    obtain ⟨g1, g2, g3, g4, g5, g6, g7, g8, g9⟩ := g
    have i1 := (ih1 _ _ r _ _ _ _ g8 hR).1
    have i2 := (ih2 _ _ r _ _ _ _ g9 hR).1
    subst hR
    exact ⟨fm_c.mpr ⟨⟨g1, g2, g3, g4, g5, g6, g7⟩, fm_a.mpr ⟨i1, i2⟩⟩, fun _ => trivial, fun _ => trivial, fun _ => trivial⟩
  · intro p x y z b c e md w1 w2 w3 ih1 ih2 ih3 γ R r md' c' o l g hR
    obtain ⟨g1, g2, g3, g4, g5, g6, g7, g8, g9, g10, g11, g12, g13, g14⟩ := g
    have i1 := (ih1 _ _ r _ _ _ _ g12 hR).1
    have i2 := (ih2 _ _ (4 * p) _ _ _ _ g13 (Rg_0 M p)).1
    have i3 := (ih3 _ _ (4 * p + 1) _ _ _ _ g14 (Rg_1 M p)).1
    subst hR
    exact ⟨fm_c.mpr ⟨⟨g1, g2, g3, g4, g5, g6, g7, g8, g9, g10, g11⟩, fm_a.mpr ⟨i1, fm_a.mpr ⟨i2, i3⟩⟩⟩, fun _ => trivial, fun _ => trivial, fun _ => trivial⟩
  · intro p fs c ns g b d f e md _ _ w1 w2 w3 w4 ih1 ih2 ih3 ih4 γ R r md' c' o l gg hR
    obtain ⟨g1, g2, g3, g4, g5, g6, g7, g8, g9, g10, g11, g12, g13, g14, g15, g16, g17, g18, g19⟩ := gg
    obtain ⟨i1, -, j1, -⟩ := ih1 _ _ r _ _ _ _ g16 hR
    have i2 := (ih2 _ _ (4 * p) _ _ _ _ g17 (Rg_0 M p)).1
    obtain ⟨i3, -, -, j3⟩ := ih3 _ _ (4 * p + 1) _ _ _ _ g18 (Rg_1 M p)
    have i4 := (ih4 _ _ (4 * p + 2) _ _ _ _ g19 (Rg_2 M p)).1
    subst hR
    exact ⟨fm_c.mpr ⟨⟨g1, g2, g3, g4, g5, g6, g7, g8, g9, g10, g11, g12, g13, g14, g15, j1 rfl, j3 rfl⟩, fm_a.mpr ⟨i1, fm_a.mpr ⟨i2, fm_a.mpr ⟨i3, i4⟩⟩⟩⟩, fun _ => trivial, fun _ => trivial, fun _ => trivial⟩
  · intro p x e md _ w1 ih γ R r md' c o l g hR
    obtain ⟨g1, g2, g3, g4⟩ := g
    have i1 := (ih _ _ r _ _ _ _ g4 hR).1
    subst hR
    exact ⟨fm_c.mpr ⟨⟨g1, g2, g3⟩, i1⟩, fun _ => trivial, fun _ => trivial, fun _ => trivial⟩
  · intro p j x y e md _ w1 w2 ih1 ih2 γ R r md' c o l g hR
    obtain ⟨g1, g2, g3, g4, g5, g6, g7⟩ := g
    have i1 := (ih1 _ _ r _ _ _ _ g6 hR).1
    have i2 := (ih2 _ _ r _ _ _ _ g7 hR).1
    subst hR
    exact ⟨fm_c.mpr ⟨⟨g1, g2, g3, g4, g5⟩, fm_a.mpr ⟨i1, i2⟩⟩, fun _ => trivial, fun _ => trivial, fun _ => trivial⟩
  · intro p j x y b md w1 w2 ih1 ih2 γ R r md' c o l g hR
    obtain ⟨g1, g2, g3, g4, g5, g6, g7⟩ := g
    have i1 := (ih1 _ _ r _ _ _ _ g6 hR).1
    have i2 := (ih2 _ _ r _ _ _ _ g7 hR).1
    subst hR
    exact ⟨fm_c.mpr ⟨⟨g1, g2, g3, g4, g5⟩, fm_a.mpr ⟨i1, i2⟩⟩, fun _ => trivial, fun _ => trivial, fun _ => trivial⟩
  · intro p x y b e md _ _ w1 w2 ih1 ih2 γ R r md' c o l g hR
    obtain ⟨g1, g2, g3, g4, g5, g6, g7, g8, g9, g10, g11, g12, g13, g14, g15, g16, g17, g18, g19⟩ := g
    have i1 := (ih1 _ _ r _ _ _ _ g18 hR).1
    have i2 := (ih2 _ _ (4 * p) _ _ _ _ g19 (Rg_0 M p)).1
    subst hR
    exact ⟨fm_c.mpr ⟨⟨g1, g2, g3, g4, g5, g6, g7, g8, g9, g10, g11, g12, g13, g14, g15, g16, g17⟩, fm_a.mpr ⟨i1, i2⟩⟩, fun _ => trivial, fun _ => trivial, fun _ => trivial⟩
  · intro p x b md w1 ih γ R r md' c o l g hR
    have i1 := (ih _ _ r _ _ _ _ g hR).1
    exact ⟨fm_c.mpr ⟨trivial, i1⟩, fun _ => trivial, fun _ => trivial, fun _ => trivial⟩
  · intro p x b md hmd _ w1 ih γ R r md' c o l g hR
    rcases Nat.lt_trichotomy md' 101 with h | h | h
    · have g : (∃ b, fnd V l p = some b ∧ S.1 11 (N (rtk x)) = nI (N b)) ∧ rl S N (rtk x) 6 c ∧ G K pl V S N M L x γ R 0 0 .nil [] ∧ G K pl V S N M L .nil γ R 105 c .nil l := by
        have g' := g
        unfold G at g'
        rw [if_neg (by omega), if_neg (by omega)] at g'
        exact g'
      have i1 := (ih _ _ r _ _ _ _ g.2.2.1 hR).1
      exact ⟨fm_a.mpr ⟨i1, fun z hz => absurd hz List.not_mem_nil⟩, fun z => by omega, fun z => by omega, fun z => by omega⟩
    · subst h
      have g : rl S N (rtk x) 5 c ∧ S.1 14 (N (rtk x)) = hdT N .nil ∧ G K pl V S N M L x γ R 0 0 .nil [] ∧ G K pl V S N M L .nil γ R 101 c .nil [] := g
      have i1 := (ih _ _ r _ _ _ _ g.2.2.1 hR).1
      exact ⟨fm_a.mpr ⟨i1, fun z hz => absurd hz List.not_mem_nil⟩, fun _ => ⟨g.1, g.2.1, trivial⟩, fun z => by omega, fun z => by omega⟩
    · by_cases h2 : md' = 102
      · subst h2
        obtain ⟨a1, a2, a3, a4, a5, a6, a7, a8, a9, a10⟩ := g
        have i1 := (ih _ _ r _ _ _ _ a9 hR).1
        exact ⟨fm_a.mpr ⟨i1, fun z hz => absurd hz List.not_mem_nil⟩, fun z => by omega, fun _ => ⟨⟨a1, a2, a3, a4, a5, a6, a7, a8⟩, trivial⟩, fun z => by omega⟩
      · have g : (∃ b, fnd V l p = some b ∧ S.1 11 (N (rtk x)) = nI (N b)) ∧ rl S N (rtk x) 6 c ∧ G K pl V S N M L x γ R 0 0 .nil [] ∧ G K pl V S N M L .nil γ R 105 c .nil l := by
          have g' := g
          unfold G at g'
          rw [if_neg (by omega), if_neg h2] at g'
          exact g'
        have i1 := (ih _ _ r _ _ _ _ g.2.2.1 hR).1
        exact ⟨fm_a.mpr ⟨i1, fun z hz => absurd hz List.not_mem_nil⟩, fun z => by omega, fun z => absurd z h2, fun _ => ⟨g.1, g.2.1, trivial⟩⟩
  · intro p x l' b e md hmd _ _ w1 w2 ih1 ih2 γ R r md' c o l g hR
    by_cases h1 : md' = 101
    · subst h1
      have g : rl S N (rtk x) 5 c ∧ S.1 14 (N (rtk x)) = hdT N l' ∧ G K pl V S N M L x γ R 0 0 .nil [] ∧ G K pl V S N M L l' γ R 101 c .nil [] := g
      have i1 := (ih1 _ _ r _ _ _ _ g.2.2.1 hR).1
      obtain ⟨i2, j2, -, -⟩ := ih2 _ _ r _ _ _ _ g.2.2.2 hR
      exact ⟨fm_a.mpr ⟨i1, i2⟩, fun _ => ⟨g.1, g.2.1, j2 rfl⟩, fun z => by omega, fun z => by omega⟩
    by_cases h2 : md' = 102
    · subst h2
      obtain ⟨a1, a2, a3, a4, a5, a6, a7, a8, a9, a10⟩ := g
      have i1 := (ih1 _ _ r _ _ _ _ a9 hR).1
      obtain ⟨i2, -, j2, -⟩ := ih2 _ _ r _ _ _ _ a10 hR
      exact ⟨fm_a.mpr ⟨i1, i2⟩, fun z => by omega, fun _ => ⟨⟨a1, a2, a3, a4, a5, a6, a7, a8⟩, j2 rfl⟩, fun z => by omega⟩
    · have g : (∃ b, fnd V l p = some b ∧ S.1 11 (N (rtk x)) = nI (N b)) ∧ rl S N (rtk x) 6 c ∧ G K pl V S N M L x γ R 0 0 .nil [] ∧ G K pl V S N M L l' γ R 105 c .nil l := by
        have g' := g
        unfold G at g'
        rw [if_neg h1, if_neg h2] at g'
        exact g'
      have i1 := (ih1 _ _ r _ _ _ _ g.2.2.1 hR).1
      obtain ⟨i2, -, -, j2⟩ := ih2 _ _ r _ _ _ _ g.2.2.2 hR
      exact ⟨fm_a.mpr ⟨i1, i2⟩, fun z => absurd z h1, fun z => absurd z h2, fun _ => ⟨g.1, g.2.1, j2 rfl⟩⟩
end CND
