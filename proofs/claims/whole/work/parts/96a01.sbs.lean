/-! all X of a tree; the reference's nodes by their own tokens -/
/-- the token of its own -/
def otk : TR → Nat
  | .tag _ (.tag j _) => j
  | _ => 0
def sbs : TR → List TR
  | .tag 1 f => [.tag 1 f]
  | .tag 2 f => [.tag 2 f]
  | .tag 3 f => [.tag 3 f]
  | .tag 4 (.tag j as) => (.tag 4 (.tag j as)) :: sbs as
  | .tag 5 (.tag j (.append x y)) => (.tag 5 (.tag j (.append x y))) :: (sbs x ++ sbs y)
  | .tag 6 (.tag j (.append x (.append y z))) => (.tag 6 (.tag j (.append x (.append y z)))) :: (sbs x ++ (sbs y ++ sbs z))
  | .tag 7 (.tag j (.append fs (.append c (.append ns g)))) => (.tag 7 (.tag j (.append fs (.append c (.append ns g))))) :: (sbs fs ++ (sbs c ++ (sbs ns ++ sbs g)))
  | .tag 8 (.tag j x) => (.tag 8 (.tag j x)) :: sbs x
  | .tag 9 (.tag j (.append x y)) => (.tag 9 (.tag j (.append x y))) :: (sbs x ++ sbs y)
  | .tag 10 (.tag j (.append x y)) => (.tag 10 (.tag j (.append x y))) :: (sbs x ++ sbs y)
  | .tag 11 (.tag j (.append x y)) => (.tag 11 (.tag j (.append x y))) :: (sbs x ++ sbs y)
  | .tag 12 (.tag j x) => (.tag 12 (.tag j x)) :: sbs x
  | .append (.tag _ x) l => sbs x ++ sbs l
  | _ => []
/-- with what is known there, and the region: 4 * token + part -/
def sbc : TR → List Nat → Nat → List (TR × List Nat × Nat)
  | .tag 1 f, γ, r => [(.tag 1 f, γ, r)]
  | .tag 2 f, γ, r => [(.tag 2 f, γ, r)]
  | .tag 3 f, γ, r => [(.tag 3 f, γ, r)]
  | .tag 4 (.tag j as), γ, r => (.tag 4 (.tag j as), γ, r) :: sbc as γ r
  | .tag 5 (.tag j (.append x y)), γ, r => (.tag 5 (.tag j (.append x y)), γ, r) :: (sbc x γ r ++ sbc y ((j + 1) :: γ) r)
  | .tag 6 (.tag j (.append x (.append y z))), γ, r => (.tag 6 (.tag j (.append x (.append y z))), γ, r) :: (sbc x γ r ++ (sbc y γ (4 * j) ++ sbc z γ (4 * j + 1)))
  | .tag 7 (.tag j (.append fs (.append c (.append ns g)))), γ, r => (.tag 7 (.tag j (.append fs (.append c (.append ns g)))), γ, r) :: (sbc fs γ r ++ (sbc c (bnd fs γ) (4 * j) ++ (sbc ns (bnd fs γ) (4 * j + 1) ++ sbc g (bnd fs γ) (4 * j + 2))))
  | .tag 8 (.tag j x), γ, r => (.tag 8 (.tag j x), γ, r) :: sbc x γ r
  | .tag 9 (.tag j (.append x y)), γ, r => (.tag 9 (.tag j (.append x y)), γ, r) :: (sbc x γ r ++ sbc y γ r)
  | .tag 10 (.tag j (.append x y)), γ, r => (.tag 10 (.tag j (.append x y)), γ, r) :: (sbc x γ r ++ sbc y γ r)
  | .tag 11 (.tag j (.append x y)), γ, r => (.tag 11 (.tag j (.append x y)), γ, r) :: (sbc x γ r ++ sbc y ((j + 3) :: (j + 1) :: γ) (4 * j))
  | .tag 12 (.tag j x), γ, r => (.tag 12 (.tag j x), γ, r) :: sbc x γ r
  | .append (.tag _ x) l, γ, r => sbc x γ r ++ sbc l γ r
  | _, _, _ => []
/-- a list -/
def LL : TR → Prop
  | .nil => True
  | .append (.tag _ _) r => LL r
  | _ => False
def RwA (D : im_S) (rlo rhi : Nat) (ν : Nat → Nat) : TR → Nat → Prop
  | .append (.tag _ x) l, i => rlo ≤ i ∧ i < rhi ∧ D.1 95 i = nI (ν (otk x)) ∧ RwA D rlo rhi ν l (i + 1)
  | _, _ => True
def RwB (pl : Nat → Nat) (V : Nat → Int64) (D : im_S) (rlo rhi : Nat) (ν : Nat → Nat) : TR → Nat → Prop
  | .append (.tag p x) l, i => rlo ≤ i ∧ i < rhi ∧ D.2.1 93 i = V p ∧ D.1 94 i = nI (pl p) ∧ D.1 95 i = nI (ν (otk x)) ∧ RwB pl V D rlo rhi ν l (i + 1)
  | _, _ => True
/-- a node of the reference -/
def RN (K pl : Nat → Nat) (V : Nat → Int64) (D : im_S) (rlo rhi : Nat) (ν : Nat → Nat) : TR → Prop
  | .tag 1 (.tag j _) => ndD K pl V D 1 j (ν j) ∧ D.1 83 (ν j) = -1 ∧ D.1 84 (ν j) = -1
  | .tag 2 (.tag j _) => ndD K pl V D 2 j (ν j) ∧ D.1 83 (ν j) = -1 ∧ D.1 84 (ν j) = -1
  | .tag 3 (.tag j _) => ndD K pl V D 3 j (ν j) ∧ D.1 83 (ν j) = -1 ∧ D.1 84 (ν j) = -1
  | .tag 4 (.tag j as) => ndD K pl V D 4 j (ν j) ∧ ∃ i : Nat, D.1 89 (ν j) = nI i ∧ D.1 90 (ν j) = nI (tln as) ∧ RwA D rlo rhi ν as i ∧ LL as
  | .tag 5 (.tag j (.append x y)) => ndD K pl V D 5 j (ν j) ∧ D.1 83 (ν j) = nI (ν (otk x)) ∧ D.1 84 (ν j) = nI (ν (otk y))
  | .tag 6 (.tag j (.append x (.append y z))) => ndD K pl V D 6 j (ν j) ∧ D.1 83 (ν j) = nI (ν (otk x)) ∧ D.1 84 (ν j) = nI (ν (otk y)) ∧ D.1 85 (ν j) = nI (ν (otk z))
  | .tag 7 (.tag j (.append fs (.append c (.append ns g)))) => ndD K pl V D 7 j (ν j) ∧ (∃ i : Nat, D.1 89 (ν j) = nI i ∧ D.1 90 (ν j) = nI (tln fs) ∧ RwB pl V D rlo rhi ν fs i ∧ LL fs) ∧ D.1 83 (ν j) = nI (ν (otk c)) ∧ (∃ i : Nat, D.1 91 (ν j) = nI i ∧ D.1 92 (ν j) = nI (tln ns) ∧ RwB pl V D rlo rhi ν ns i ∧ LL ns) ∧ D.1 84 (ν j) = nI (ν (otk g))
  | .tag 8 (.tag j x) => ndD K pl V D 8 j (ν j) ∧ D.1 84 (ν j) = -1 ∧ D.1 83 (ν j) = nI (ν (otk x))
  | .tag 9 (.tag j (.append x y)) => ndD K pl V D 9 j (ν j) ∧ D.1 83 (ν j) = nI (ν (otk x)) ∧ D.1 84 (ν j) = nI (ν (otk y)) ∧ D.1 82 (ν j) = D.1 82 (ν (otk x))
  | .tag 10 (.tag j (.append x y)) => ndD K pl V D 10 j (ν j) ∧ D.1 83 (ν j) = nI (ν (otk x)) ∧ D.1 84 (ν j) = nI (ν (otk y)) ∧ D.1 82 (ν j) = D.1 82 (ν (otk x))
  | .tag 11 (.tag j (.append x y)) => ndD K pl V D 11 j (ν j) ∧ D.1 83 (ν j) = nI (ν (otk x)) ∧ D.1 84 (ν j) = nI (ν (otk y)) ∧ ∃ i : Nat, D.1 89 (ν j) = nI i ∧ rlo ≤ i ∧ i + 1 < rhi ∧ D.2.1 93 i = V (j + 1) ∧ D.1 94 i = nI (pl (j + 1)) ∧ D.2.1 93 (i + 1) = V (j + 3) ∧ D.1 94 (i + 1) = nI (pl (j + 3))
  | .tag 12 (.tag j x) => ndD K pl V D 12 j (ν j) ∧ D.1 84 (ν j) = -1 ∧ D.1 83 (ν j) = nI (ν (otk x))
  | _ => False
def OKs (K pl : Nat → Nat) (V : Nat → Int64) (D : im_S) (lo hi rlo rhi : Nat) (ν : Nat → Nat) (x : TR) : Prop := ∀ y, y ∈ sbs x → RN K pl V D rlo rhi ν y ∧ lo ≤ ν (otk y) ∧ ν (otk y) < hi
section SBS
variable {K pl : Nat → Nat} {V : Nat → Int64} {m : Nat} {D : im_S} {lo hi rlo rhi : Nat}
theorem fm_c {α : Type} {P : α → Prop} {a : α} {l : List α} : (∀ y, y ∈ a :: l → P y) ↔ P a ∧ ∀ y, y ∈ l → P y := ⟨fun h => ⟨h a List.mem_cons_self, fun y hy => h y (List.mem_cons_of_mem _ hy)⟩, fun h y hy => by
  rcases List.mem_cons.mp hy with rfl | hy
  · exact h.1
  · exact h.2 y hy⟩
theorem fm_a {α : Type} {P : α → Prop} {l1 l2 : List α} : (∀ y, y ∈ l1 ++ l2 → P y) ↔ (∀ y, y ∈ l1 → P y) ∧ ∀ y, y ∈ l2 → P y := ⟨fun h => ⟨fun y hy => h y (List.mem_append_left _ hy), fun y hy => h y (List.mem_append_right _ hy)⟩, fun h y hy => by
  rcases List.mem_append.mp hy with hy | hy
  · exact h.1 y hy
  · exact h.2 y hy⟩
theorem fm_1 {α : Type} {P : α → Prop} {a : α} : (∀ y, y ∈ [a] → P y) ↔ P a := ⟨fun h => h a List.mem_cons_self, fun h y hy => by
  rcases List.mem_singleton.mp hy with rfl
  exact h⟩
theorem sbc_sbs {x : TR} {p e md : Nat} (w : Wt K x p e md) : ∀ (γ : List Nat) (r : Nat) (c : TR × List Nat × Nat), c ∈ sbc x γ r → c.1 ∈ sbs x := by
  refine Wt_ind (K := K) (P := fun x p e md => ∀ (γ : List Nat) (r : Nat) (c : TR × List Nat × Nat), c ∈ sbc x γ r → c.1 ∈ sbs x) ?_ ?_ ?_ ?_ ?_ ?_ ?_ ?_ ?_ ?_ ?_ ?_ ?_ ?_ ?_ (tsz x) x p e md (Nat.le_refl _) w
  · intro p md _ γ r; exact fm_1.mpr List.mem_cons_self
  · intro p md _ γ r; exact fm_1.mpr List.mem_cons_self
  · intro p md _ γ r; exact fm_1.mpr List.mem_cons_self
  · intro p md _ γ r; exact fm_1.mpr List.mem_cons_self
  · intro p as b md _ _ _ ih γ r
    exact fm_c.mpr ⟨List.mem_cons_self, fun c hc => List.mem_cons_of_mem _ (ih γ r c hc)⟩
  · intro p x y b e md _ _ _ i1 i2 γ r
    exact fm_c.mpr ⟨List.mem_cons_self, fm_a.mpr ⟨fun c hc => List.mem_cons_of_mem _ (List.mem_append_left _ (i1 _ _ c hc)), fun c hc => List.mem_cons_of_mem _ (List.mem_append_right _ (i2 _ _ c hc))⟩⟩
  · intro p x y z b c e md _ _ _ i1 i2 i3 γ r
    exact fm_c.mpr ⟨List.mem_cons_self, fm_a.mpr ⟨fun c hc => List.mem_cons_of_mem _ (List.mem_append_left _ (i1 _ _ c hc)), fm_a.mpr ⟨fun c hc => List.mem_cons_of_mem _ (List.mem_append_right _ (List.mem_append_left _ (i2 _ _ c hc))), fun c hc => List.mem_cons_of_mem _ (List.mem_append_right _ (List.mem_append_right _ (i3 _ _ c hc)))⟩⟩⟩
  · intro p fs c ns g b d f e md _ _ _ _ _ _ i1 i2 i3 i4 γ r
    exact fm_c.mpr ⟨List.mem_cons_self, fm_a.mpr ⟨fun c hc => List.mem_cons_of_mem _ (List.mem_append_left _ (i1 _ _ c hc)), fm_a.mpr ⟨fun c hc => List.mem_cons_of_mem _ (List.mem_append_right _ (List.mem_append_left _ (i2 _ _ c hc))), fm_a.mpr ⟨fun c hc => List.mem_cons_of_mem _ (List.mem_append_right _ (List.mem_append_right _ (List.mem_append_left _ (i3 _ _ c hc)))), fun c hc => List.mem_cons_of_mem _ (List.mem_append_right _ (List.mem_append_right _ (List.mem_append_right _ (i4 _ _ c hc))))⟩⟩⟩⟩
  · intro p x e md _ _ ih γ r
    exact fm_c.mpr ⟨List.mem_cons_self, fun c hc => List.mem_cons_of_mem _ (ih γ r c hc)⟩
  · intro p j x y e md _ _ _ i1 i2 γ r
    exact fm_c.mpr ⟨List.mem_cons_self, fm_a.mpr ⟨fun c hc => List.mem_cons_of_mem _ (List.mem_append_left _ (i1 _ _ c hc)), fun c hc => List.mem_cons_of_mem _ (List.mem_append_right _ (i2 _ _ c hc))⟩⟩
  · intro p j x y b md _ _ i1 i2 γ r
    exact fm_c.mpr ⟨List.mem_cons_self, fm_a.mpr ⟨fun c hc => List.mem_cons_of_mem _ (List.mem_append_left _ (i1 _ _ c hc)), fun c hc => List.mem_cons_of_mem _ (List.mem_append_right _ (i2 _ _ c hc))⟩⟩
  · intro p x y b e md _ _ _ _ i1 i2 γ r
    exact fm_c.mpr ⟨List.mem_cons_self, fm_a.mpr ⟨fun c hc => List.mem_cons_of_mem _ (List.mem_append_left _ (i1 _ _ c hc)), fun c hc => List.mem_cons_of_mem _ (List.mem_append_right _ (i2 _ _ c hc))⟩⟩
  · intro p x b md _ ih γ r
    exact fm_c.mpr ⟨List.mem_cons_self, fun c hc => List.mem_cons_of_mem _ (ih γ r c hc)⟩
  · intro p x b md _ _ _ ih γ r
    exact fm_a.mpr ⟨fun c hc => List.mem_append_left _ (ih _ _ c hc), fun c hc => absurd hc List.not_mem_nil⟩
  · intro p x l b e md _ _ _ _ _ i1 i2 γ r
    exact fm_a.mpr ⟨fun c hc => List.mem_append_left _ (i1 _ _ c hc), fun c hc => List.mem_append_right _ (i2 _ _ c hc)⟩
theorem Wt_ot {x : TR} {p e : Nat} (w : Wt K x p e 0) : p ≤ otk x ∧ otk x < e := by
  refine Wt_ind (K := K) (P := fun x p e md => md = 0 → p ≤ otk x ∧ otk x < e) ?_ ?_ ?_ ?_ ?_ ?_ ?_ ?_ ?_ ?_ ?_ ?_ ?_ ?_ ?_ (tsz x) x p e 0 (Nat.le_refl _) w rfl
  · intro p md _ _; show p ≤ p ∧ p < _; omega
  · intro p md _ _; show p ≤ p ∧ p < _; omega
  · intro p md _ _; show p ≤ p ∧ p < _; omega
  · intro p md _ _; show p ≤ p ∧ p < _; omega
  · intro p as b md _ _ w1 _ _; have := Wt_lt w1; show p ≤ p ∧ p < _; omega
  · intro p x y b e md _ w1 w2 _ _ _; have := Wt_lt w1; have := Wt_lt w2; show p ≤ p ∧ p < _; omega
  · intro p x y z b c e md w1 w2 w3 _ _ _ _; have := Wt_lt w1; have := Wt_lt w2; have := Wt_lt w3; show p ≤ p ∧ p < _; omega
  · intro p fs c ns g b d f e md _ _ w1 w2 w3 w4 _ _ _ _ _; have := Wt_lt w1; have := Wt_lt w2; have := Wt_lt w3; have := Wt_lt w4; show p ≤ p ∧ p < _; omega
  · intro p x e md _ w1 _ _; have := Wt_lt w1; show p ≤ p ∧ p < _; omega
  · intro p j x y e md _ w1 w2 _ _ _; have := Wt_lt w1; have := Wt_lt w2; show p ≤ j ∧ j < _; omega
  · intro p j x y b md w1 w2 _ _ _; have := Wt_lt w1; have := Wt_lt w2; show p ≤ j ∧ j < _; omega
  · intro p x y b e md _ _ w1 w2 _ _ _; have := Wt_lt w1; have := Wt_lt w2; show p ≤ p ∧ p < _; omega
  · intro p x b md w1 _ _; have := Wt_lt w1; show p ≤ p ∧ p < _; omega
  · intro p x b md h1 _ _ _ h; omega
  · intro p x l b e md h1 _ _ _ _ _ _ h; omega
set_option maxHeartbeats 1000000 in
theorem OK_cp {x : TR} {p e md : Nat} (w : Wt K x p e md) : ∀ ν ν' : Nat → Nat, (∀ i, p ≤ i → i < e → ν' i = ν i) → (OKs K pl V D lo hi rlo rhi ν x → OKs K pl V D lo hi rlo rhi ν' x) ∧ (∀ i, RwA D rlo rhi ν x i → RwA D rlo rhi ν' x i) ∧ (∀ i, RwB pl V D rlo rhi ν x i → RwB pl V D rlo rhi ν' x i) := by
  refine Wt_ind (K := K) (P := fun x p e md => ∀ ν ν' : Nat → Nat, (∀ i, p ≤ i → i < e → ν' i = ν i) → (OKs K pl V D lo hi rlo rhi ν x → OKs K pl V D lo hi rlo rhi ν' x) ∧ (∀ i, RwA D rlo rhi ν x i → RwA D rlo rhi ν' x i) ∧ (∀ i, RwB pl V D rlo rhi ν x i → RwB pl V D rlo rhi ν' x i)) ?_ ?_ ?_ ?_ ?_ ?_ ?_ ?_ ?_ ?_ ?_ ?_ ?_ ?_ ?_ (tsz x) x p e md (Nat.le_refl _) w
  · intro p md _ ν ν' h
    refine ⟨fun o => ?_, fun _ _ => trivial, fun _ _ => trivial⟩
    obtain ⟨⟨a1, a2, a3⟩, b1, b2⟩ := fm_1.mp o
    have e0 : ν' p = ν p := h p (by omega) (by omega)
    exact fm_1.mpr ⟨⟨by rw [e0]; exact a1, by rw [e0]; exact a2, by rw [e0]; exact a3⟩, by show lo ≤ ν' p; rw [e0]; exact b1, by show ν' p < hi; rw [e0]; exact b2⟩
  · intro p md _ ν ν' h
    refine ⟨fun o => ?_, fun _ _ => trivial, fun _ _ => trivial⟩
    obtain ⟨⟨a1, a2, a3⟩, b1, b2⟩ := fm_1.mp o
    have e0 : ν' p = ν p := h p (by omega) (by omega)
    exact fm_1.mpr ⟨⟨by rw [e0]; exact a1, by rw [e0]; exact a2, by rw [e0]; exact a3⟩, by show lo ≤ ν' p; rw [e0]; exact b1, by show ν' p < hi; rw [e0]; exact b2⟩
  · intro p md _ ν ν' h
    refine ⟨fun o => ?_, fun _ _ => trivial, fun _ _ => trivial⟩
    obtain ⟨⟨a1, a2, a3⟩, b1, b2⟩ := fm_1.mp o
    have e0 : ν' p = ν p := h p (by omega) (by omega)
    exact fm_1.mpr ⟨⟨by rw [e0]; exact a1, by rw [e0]; exact a2, by rw [e0]; exact a3⟩, by show lo ≤ ν' p; rw [e0]; exact b1, by show ν' p < hi; rw [e0]; exact b2⟩
  · intro p md _ ν ν' h
    refine ⟨fun o => ?_, fun _ _ => trivial, fun _ _ => trivial⟩
    obtain ⟨⟨a1, i, a2, a3, a4⟩, b1, b2⟩ := fm_1.mp o
    have e0 : ν' p = ν p := h p (by omega) (by omega)
    exact fm_1.mpr ⟨⟨by rw [e0]; exact a1, i, by rw [e0]; exact a2, by rw [e0]; exact a3, trivial, trivial⟩, by show lo ≤ ν' p; rw [e0]; exact b1, by show ν' p < hi; rw [e0]; exact b2⟩
  · intro p as b md _ _ w1 ih ν ν' h
    refine ⟨fun o => ?_, fun _ _ => trivial, fun _ _ => trivial⟩
    have l1 := Wt_lt w1
    obtain ⟨⟨⟨a1, i, a2, a3, a4⟩, b1, b2⟩, o2⟩ := fm_c.mp o
    have e0 : ν' p = ν p := h p (by omega) (by omega)
    obtain ⟨i1, i2, -⟩ := ih ν ν' (fun i q1 q2 => h i (by omega) (by omega))
    exact fm_c.mpr ⟨⟨⟨by rw [e0]; exact a1, i, by rw [e0]; exact a2, by rw [e0]; exact a3, i2 i a4.1, a4.2⟩, by show lo ≤ ν' p; rw [e0]; exact b1, by show ν' p < hi; rw [e0]; exact b2⟩, i1 o2⟩
  · intro p x y b e md _ w1 w2 ih1 ih2 ν ν' h
    refine ⟨fun o => ?_, fun _ _ => trivial, fun _ _ => trivial⟩
    have l1 := Wt_lt w1
    have l2 := Wt_lt w2
    have t1 := Wt_ot w1
    have t2 := Wt_ot w2
    obtain ⟨⟨⟨a1, a2, a3⟩, b1, b2⟩, o2⟩ := fm_c.mp o
    obtain ⟨o2, o3⟩ := fm_a.mp o2
    have e0 : ν' p = ν p := h p (by omega) (by omega)
    have e1 : ν' (otk x) = ν (otk x) := h _ (by omega) (by omega)
    have e2 : ν' (otk y) = ν (otk y) := h _ (by omega) (by omega)
    obtain ⟨i1, -, -⟩ := ih1 ν ν' (fun i q1 q2 => h i (by omega) (by omega))
    obtain ⟨i2, -, -⟩ := ih2 ν ν' (fun i q1 q2 => h i (by omega) (by omega))
    exact fm_c.mpr ⟨⟨⟨by rw [e0]; exact a1, by rw [e0, e1]; exact a2, by rw [e0, e2]; exact a3⟩, by show lo ≤ ν' p; rw [e0]; exact b1, by show ν' p < hi; rw [e0]; exact b2⟩, fm_a.mpr ⟨i1 o2, i2 o3⟩⟩
  · intro p x y z b c e md w1 w2 w3 ih1 ih2 ih3 ν ν' h
    refine ⟨fun o => ?_, fun _ _ => trivial, fun _ _ => trivial⟩
    have l1 := Wt_lt w1
    have l2 := Wt_lt w2
    have l3 := Wt_lt w3
    have t1 := Wt_ot w1
    have t2 := Wt_ot w2
    have t3 := Wt_ot w3
    obtain ⟨⟨⟨a1, a2, a3, a4⟩, b1, b2⟩, o2⟩ := fm_c.mp o
    obtain ⟨o2, o3⟩ := fm_a.mp o2
    obtain ⟨o3, o4⟩ := fm_a.mp o3
    have e0 : ν' p = ν p := h p (by omega) (by omega)
    have e1 : ν' (otk x) = ν (otk x) := h _ (by omega) (by omega)
    have e2 : ν' (otk y) = ν (otk y) := h _ (by omega) (by omega)
    have e3 : ν' (otk z) = ν (otk z) := h _ (by omega) (by omega)
    obtain ⟨i1, -, -⟩ := ih1 ν ν' (fun i q1 q2 => h i (by omega) (by omega))
    obtain ⟨i2, -, -⟩ := ih2 ν ν' (fun i q1 q2 => h i (by omega) (by omega))
    obtain ⟨i3, -, -⟩ := ih3 ν ν' (fun i q1 q2 => h i (by omega) (by omega))
    exact fm_c.mpr ⟨⟨⟨by rw [e0]; exact a1, by rw [e0, e1]; exact a2, by rw [e0, e2]; exact a3, by rw [e0, e3]; exact a4⟩, by show lo ≤ ν' p; rw [e0]; exact b1, by show ν' p < hi; rw [e0]; exact b2⟩, fm_a.mpr ⟨i1 o2, fm_a.mpr ⟨i2 o3, i3 o4⟩⟩⟩
  · intro p fs c ns g b d f e md _ _ w1 w2 w3 w4 ih1 ih2 ih3 ih4 ν ν' h
    refine ⟨fun o => ?_, fun _ _ => trivial, fun _ _ => trivial⟩
    have l1 := Wt_lt w1
    have l2 := Wt_lt w2
    have l3 := Wt_lt w3
    have l4 := Wt_lt w4
    have t2 := Wt_ot w2
    have t4 := Wt_ot w4
    obtain ⟨⟨⟨a1, ⟨i, a2, a3, a4⟩, a5, ⟨i', a6, a7, a8⟩, a9⟩, b1, b2⟩, o2⟩ := fm_c.mp o
    obtain ⟨o2, o3⟩ := fm_a.mp o2
    obtain ⟨o3, o4⟩ := fm_a.mp o3
    obtain ⟨o4, o5⟩ := fm_a.mp o4
    have e0 : ν' p = ν p := h p (by omega) (by omega)
    have e2 : ν' (otk c) = ν (otk c) := h _ (by omega) (by omega)
    have e4 : ν' (otk g) = ν (otk g) := h _ (by omega) (by omega)
    obtain ⟨i1, -, j1⟩ := ih1 ν ν' (fun i q1 q2 => h i (by omega) (by omega))
    obtain ⟨i2, -, -⟩ := ih2 ν ν' (fun i q1 q2 => h i (by omega) (by omega))
    obtain ⟨i3, -, j3⟩ := ih3 ν ν' (fun i q1 q2 => h i (by omega) (by omega))
    obtain ⟨i4, -, -⟩ := ih4 ν ν' (fun i q1 q2 => h i (by omega) (by omega))
    exact fm_c.mpr ⟨⟨⟨by rw [e0]; exact a1, ⟨i, by rw [e0]; exact a2, by rw [e0]; exact a3, j1 i a4.1, a4.2⟩, by rw [e0, e2]; exact a5, ⟨i', by rw [e0]; exact a6, by rw [e0]; exact a7, j3 i' a8.1, a8.2⟩, by rw [e0, e4]; exact a9⟩, by show lo ≤ ν' p; rw [e0]; exact b1, by show ν' p < hi; rw [e0]; exact b2⟩, fm_a.mpr ⟨i1 o2, fm_a.mpr ⟨i2 o3, fm_a.mpr ⟨i3 o4, i4 o5⟩⟩⟩⟩
  · intro p x e md _ w1 ih ν ν' h
    refine ⟨fun o => ?_, fun _ _ => trivial, fun _ _ => trivial⟩
    have l1 := Wt_lt w1
    have t1 := Wt_ot w1
    obtain ⟨⟨⟨a1, a2, a3⟩, b1, b2⟩, o2⟩ := fm_c.mp o
    have e0 : ν' p = ν p := h p (by omega) (by omega)
    have e1 : ν' (otk x) = ν (otk x) := h _ (by omega) (by omega)
    obtain ⟨i1, -, -⟩ := ih ν ν' (fun i q1 q2 => h i (by omega) (by omega))
    exact fm_c.mpr ⟨⟨⟨by rw [e0]; exact a1, by rw [e0]; exact a2, by rw [e0, e1]; exact a3⟩, by show lo ≤ ν' p; rw [e0]; exact b1, by show ν' p < hi; rw [e0]; exact b2⟩, i1 o2⟩
  · intro p j x y e md _ w1 w2 ih1 ih2 ν ν' h
    refine ⟨fun o => ?_, fun _ _ => trivial, fun _ _ => trivial⟩
    have l1 := Wt_lt w1
    have l2 := Wt_lt w2
    have t1 := Wt_ot w1
    have t2 := Wt_ot w2
    obtain ⟨⟨⟨a1, a2, a3, a4⟩, b1, b2⟩, o2⟩ := fm_c.mp o
    obtain ⟨o2, o3⟩ := fm_a.mp o2
    have e0 : ν' j = ν j := h j (by omega) (by omega)
    have e1 : ν' (otk x) = ν (otk x) := h _ (by omega) (by omega)
    have e2 : ν' (otk y) = ν (otk y) := h _ (by omega) (by omega)
    obtain ⟨i1, -, -⟩ := ih1 ν ν' (fun i q1 q2 => h i (by omega) (by omega))
    obtain ⟨i2, -, -⟩ := ih2 ν ν' (fun i q1 q2 => h i (by omega) (by omega))
    exact fm_c.mpr ⟨⟨⟨by rw [e0]; exact a1, by rw [e0, e1]; exact a2, by rw [e0, e2]; exact a3, by rw [e0, e1]; exact a4⟩, by show lo ≤ ν' j; rw [e0]; exact b1, by show ν' j < hi; rw [e0]; exact b2⟩, fm_a.mpr ⟨i1 o2, i2 o3⟩⟩
  · intro p j x y b md w1 w2 ih1 ih2 ν ν' h
    refine ⟨fun o => ?_, fun _ _ => trivial, fun _ _ => trivial⟩
    have l1 := Wt_lt w1
    have l2 := Wt_lt w2
    have t1 := Wt_ot w1
    have t2 := Wt_ot w2
    obtain ⟨⟨⟨a1, a2, a3, a4⟩, b1, b2⟩, o2⟩ := fm_c.mp o
    obtain ⟨o2, o3⟩ := fm_a.mp o2
    have e0 : ν' j = ν j := h j (by omega) (by omega)
    have e1 : ν' (otk x) = ν (otk x) := h _ (by omega) (by omega)
    have e2 : ν' (otk y) = ν (otk y) := h _ (by omega) (by omega)
    obtain ⟨i1, -, -⟩ := ih1 ν ν' (fun i q1 q2 => h i (by omega) (by omega))
    obtain ⟨i2, -, -⟩ := ih2 ν ν' (fun i q1 q2 => h i (by omega) (by omega))
    exact fm_c.mpr ⟨⟨⟨by rw [e0]; exact a1, by rw [e0, e1]; exact a2, by rw [e0, e2]; exact a3, by rw [e0, e1]; exact a4⟩, by show lo ≤ ν' j; rw [e0]; exact b1, by show ν' j < hi; rw [e0]; exact b2⟩, fm_a.mpr ⟨i1 o2, i2 o3⟩⟩
  · intro p x y b e md _ _ w1 w2 ih1 ih2 ν ν' h
    refine ⟨fun o => ?_, fun _ _ => trivial, fun _ _ => trivial⟩
    have l1 := Wt_lt w1
    have l2 := Wt_lt w2
    have t1 := Wt_ot w1
    have t2 := Wt_ot w2
    obtain ⟨⟨⟨a1, a2, a3, i, a4, a5⟩, b1, b2⟩, o2⟩ := fm_c.mp o
    obtain ⟨o2, o3⟩ := fm_a.mp o2
    have e0 : ν' p = ν p := h p (by omega) (by omega)
    have e1 : ν' (otk x) = ν (otk x) := h _ (by omega) (by omega)
    have e2 : ν' (otk y) = ν (otk y) := h _ (by omega) (by omega)
    obtain ⟨i1, -, -⟩ := ih1 ν ν' (fun i q1 q2 => h i (by omega) (by omega))
    obtain ⟨i2, -, -⟩ := ih2 ν ν' (fun i q1 q2 => h i (by omega) (by omega))
    exact fm_c.mpr ⟨⟨⟨by rw [e0]; exact a1, by rw [e0, e1]; exact a2, by rw [e0, e2]; exact a3, i, by rw [e0]; exact a4, a5⟩, by show lo ≤ ν' p; rw [e0]; exact b1, by show ν' p < hi; rw [e0]; exact b2⟩, fm_a.mpr ⟨i1 o2, i2 o3⟩⟩
  · intro p x b md w1 ih ν ν' h
    refine ⟨fun o => ?_, fun _ _ => trivial, fun _ _ => trivial⟩
    have l1 := Wt_lt w1
    have t1 := Wt_ot w1
    obtain ⟨⟨⟨a1, a2, a3⟩, b1, b2⟩, o2⟩ := fm_c.mp o
    have e0 : ν' p = ν p := h p (by omega) (by omega)
    have e1 : ν' (otk x) = ν (otk x) := h _ (by omega) (by omega)
    obtain ⟨i1, -, -⟩ := ih ν ν' (fun i q1 q2 => h i (by omega) (by omega))
    exact fm_c.mpr ⟨⟨⟨by rw [e0]; exact a1, by rw [e0]; exact a2, by rw [e0, e1]; exact a3⟩, by show lo ≤ ν' p; rw [e0]; exact b1, by show ν' p < hi; rw [e0]; exact b2⟩, i1 o2⟩
  · intro p x b md hmd _ w1 ih ν ν' h
    have l1 := Wt_lt w1
    have t1 := Wt_ot w1
    have g0 : p ≤ (if md = 101 then p else p + 2) := by split <;> omega
    have e1 : ν' (otk x) = ν (otk x) := h _ (by omega) (by omega)
    obtain ⟨i1, -, -⟩ := ih ν ν' (fun i q1 q2 => h i (by omega) (by omega))
    refine ⟨fun o => ?_, fun i q => ?_, fun i q => ?_⟩
    · obtain ⟨o2, o3⟩ := fm_a.mp o
      exact fm_a.mpr ⟨i1 o2, fun c hc => absurd hc List.not_mem_nil⟩
    · obtain ⟨q1, q2, q3, q4⟩ := q
      exact ⟨q1, q2, by rw [e1]; exact q3, trivial⟩
    · obtain ⟨q1, q2, q3, q4, q5, q6⟩ := q
      exact ⟨q1, q2, q3, q4, by rw [e1]; exact q5, trivial⟩
  · intro p x l b e md hmd _ _ w1 w2 ih1 ih2 ν ν' h
    have l1 := Wt_lt w1
    have l2 := Wt_lt w2
    have t1 := Wt_ot w1
    have g0 : p ≤ (if md = 101 then p else p + 2) := by split <;> omega
    have e1 : ν' (otk x) = ν (otk x) := h _ (by omega) (by omega)
    obtain ⟨i1, -, -⟩ := ih1 ν ν' (fun i q1 q2 => h i (by omega) (by omega))
    obtain ⟨i2, j2, k2⟩ := ih2 ν ν' (fun i q1 q2 => h i (by omega) (by omega))
    refine ⟨fun o => ?_, fun i q => ?_, fun i q => ?_⟩
    · obtain ⟨o2, o3⟩ := fm_a.mp o
      exact fm_a.mpr ⟨i1 o2, i2 o3⟩
    · obtain ⟨q1, q2, q3, q4⟩ := q
      exact ⟨q1, q2, by rw [e1]; exact q3, j2 _ q4⟩
    · obtain ⟨q1, q2, q3, q4, q5, q6⟩ := q
      exact ⟨q1, q2, q3, q4, by rw [e1]; exact q5, k2 _ q6⟩
end SBS
