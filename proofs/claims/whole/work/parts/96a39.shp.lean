/-! the shapes of all X of a program, and what lies within them -/
def shp (x : TR) : Prop := (∃ j, x = .tag 1 (.tag j .nil)) ∨ (∃ j, x = .tag 2 (.tag j .nil)) ∨ (∃ j, x = .tag 3 (.tag j .nil)) ∨ (∃ j as, x = .tag 4 (.tag j as)) ∨ (∃ j a b, x = .tag 5 (.tag j (.append a b))) ∨ (∃ j a b c, x = .tag 6 (.tag j (.append a (.append b c)))) ∨ (∃ j fs c ns g, x = .tag 7 (.tag j (.append fs (.append c (.append ns g))))) ∨ (∃ j a, x = .tag 8 (.tag j a)) ∨ (∃ j a b, x = .tag 9 (.tag j (.append a b))) ∨ (∃ j a b, x = .tag 10 (.tag j (.append a b))) ∨ (∃ j a b, x = .tag 11 (.tag j (.append a b))) ∨ (∃ j a, x = .tag 12 (.tag j a))
/-- all that lies within lies there, too -/
def TL (K : Nat → Nat) (l : List (TR × List Nat × Nat)) : Prop := ∀ z, z ∈ l → (∃ p e, Wt K z.1 p e 0) ∧ shp z.1 ∧ ∀ z', z' ∈ sbc z.1 z.2.1 z.2.2 → z' ∈ l
section SHP
variable {K : Nat → Nat}
theorem TL_nil : TL K [] := fun _ h => absurd h List.not_mem_nil
theorem TL_app {l1 l2 : List (TR × List Nat × Nat)} (h1 : TL K l1) (h2 : TL K l2) : TL K (l1 ++ l2) := fun z hz => by
  rcases List.mem_append.mp hz with hz | hz
  · obtain ⟨a, b, c⟩ := h1 z hz
    exact ⟨a, b, fun z' q => List.mem_append_left _ (c z' q)⟩
  · obtain ⟨a, b, c⟩ := h2 z hz
    exact ⟨a, b, fun z' q => List.mem_append_right _ (c z' q)⟩
theorem TL_cons {x : TR} {γ : List Nat} {r p e : Nat} {l : List (TR × List Nat × Nat)} (hs : sbc x γ r = (x, γ, r) :: l) (hw : Wt K x p e 0) (hp : shp x) (h : TL K l) : TL K (sbc x γ r) := fun z hz => by
  rw [hs] at hz
  rcases List.mem_cons.mp hz with hz | hz
  · subst hz
    exact ⟨⟨p, e, hw⟩, hp, fun z' q => q⟩
  · obtain ⟨a, b, c⟩ := h z hz
    refine ⟨a, b, fun z' q => ?_⟩
    rw [hs]
    exact List.mem_cons_of_mem _ (c z' q)
theorem tl_W {x : TR} {p e md : Nat} (w : Wt K x p e md) : ∀ (γ : List Nat) (r : Nat), TL K (sbc x γ r) := by
  refine Wt_ind (K := K) (P := fun x p e md => ∀ (γ : List Nat) (r : Nat), TL K (sbc x γ r)) ?_ ?_ ?_ ?_ ?_ ?_ ?_ ?_ ?_ ?_ ?_ ?_ ?_ ?_ ?_ (tsz x) x p e md (Nat.le_refl _) w
  · intro p md hK γ r; exact TL_cons (p := p) (e := p + 1) rfl ⟨rfl, rfl, rfl, hK⟩ (.inl ⟨_, rfl⟩) TL_nil
  · intro p md hK γ r; exact TL_cons (p := p) (e := p + 1) rfl ⟨rfl, rfl, rfl, hK⟩ (.inr (.inl ⟨_, rfl⟩)) TL_nil
  · intro p md hK γ r; exact TL_cons (p := p) (e := p + 1) rfl ⟨rfl, rfl, rfl, hK⟩ (.inr (.inr (.inl ⟨_, rfl⟩))) TL_nil
  · intro p md hK γ r; exact TL_cons (p := p) (e := p + 3) rfl ⟨rfl, hK, .inl ⟨rfl, rfl⟩⟩ (.inr (.inr (.inr (.inl ⟨_, _, rfl⟩)))) TL_nil
  · intro p as b md hK has w1 ih γ r; exact TL_cons (p := p) (e := b + 1) rfl ⟨rfl, hK, .inr ⟨b, has, w1, rfl⟩⟩ (.inr (.inr (.inr (.inl ⟨_, _, rfl⟩)))) (ih _ _)
  · intro p x y b e md hK w1 w2 i1 i2 γ r; exact TL_cons (p := p) (e := e) rfl ⟨rfl, hK, b, w1, w2⟩ (.inr (.inr (.inr (.inr (.inl ⟨_, _, _, rfl⟩))))) (TL_app (i1 _ _) (i2 _ _))
  · intro p x y z b c e md w1 w2 w3 i1 i2 i3 γ r; exact TL_cons (p := p) (e := e) rfl ⟨rfl, b, c, w1, w2, w3⟩ (.inr (.inr (.inr (.inr (.inr (.inl ⟨_, _, _, _, rfl⟩)))))) (TL_app (i1 _ _) (TL_app (i2 _ _) (i3 _ _)))
  · intro p fs c ns g b d f e md n1 n2 w1 w2 w3 w4 i1 i2 i3 i4 γ r; exact TL_cons (p := p) (e := e) rfl ⟨rfl, b, d, f, n1, n2, w1, w2, w3, w4⟩ (.inr (.inr (.inr (.inr (.inr (.inr (.inl ⟨_, _, _, _, _, rfl⟩))))))) (TL_app (i1 _ _) (TL_app (i2 _ _) (TL_app (i3 _ _) (i4 _ _))))
  · intro p x e md hK w1 ih γ r; exact TL_cons (p := p) (e := e) rfl ⟨rfl, hK, w1⟩ (.inr (.inr (.inr (.inr (.inr (.inr (.inr (.inl ⟨_, _, rfl⟩)))))))) (ih _ _)
  · intro p j x y e md hK w1 w2 i1 i2 γ r; exact TL_cons (p := p) (e := e) rfl ⟨hK, w1, w2⟩ (.inr (.inr (.inr (.inr (.inr (.inr (.inr (.inr (.inl ⟨_, _, _, rfl⟩))))))))) (TL_app (i1 _ _) (i2 _ _))
  · intro p j x y b md w1 w2 i1 i2 γ r; exact TL_cons (p := p) (e := b + 1) rfl ⟨w1, b, w2, rfl⟩ (.inr (.inr (.inr (.inr (.inr (.inr (.inr (.inr (.inr (.inl ⟨_, _, _, rfl⟩)))))))))) (TL_app (i1 _ _) (i2 _ _))
  · intro p x y b e md k1 k2 w1 w2 i1 i2 γ r; exact TL_cons (p := p) (e := e) rfl ⟨rfl, k1, k2, b, w1, w2⟩ (.inr (.inr (.inr (.inr (.inr (.inr (.inr (.inr (.inr (.inr (.inl ⟨_, _, _, rfl⟩))))))))))) (TL_app (i1 _ _) (i2 _ _))
  · intro p x b md w1 ih γ r; exact TL_cons (p := p) (e := b + 1) rfl ⟨rfl, b, w1, rfl⟩ (.inr (.inr (.inr (.inr (.inr (.inr (.inr (.inr (.inr (.inr (.inr ⟨_, _, rfl⟩))))))))))) (ih _ _)
  · intro p x b md hmd _ w1 ih γ r
    exact TL_app (ih γ r) TL_nil
  · intro p x l b e md hmd _ _ w1 w2 i1 i2 γ r
    exact TL_app (i1 γ r) (i2 γ r)
theorem tl_P {y : TR} {p e : Nat} (w : PW K y p e) : TL K (scP y) := by
  refine PW_ind (K := K) (P := fun y p e => TL K (scP y)) ?_ ?_ (tsz y) y p e (Nat.le_refl _) w
  · intro p cnt x b e0 _ _ _ w1 hb
    exact TL_app (tl_W w1 _ _) TL_nil
  · intro p cnt x r b e0 e _ _ _ w1 hb _ w2 ih
    exact TL_app (tl_W w1 _ _) ih
theorem hd_in {x : TR} {p e : Nat} (w : Wt K x p e 0) : ∀ (γ : List Nat) (r : Nat), (x, γ, r) ∈ sbc x γ r := by
  have : ∀ (s : Nat) (x : TR) (p e md : Nat), tsz x ≤ s → Wt K x p e md → md = 0 → ∀ (γ : List Nat) (r : Nat), (x, γ, r) ∈ sbc x γ r := by
    refine Wt_ind (K := K) (P := fun x p e md => md = 0 → ∀ (γ : List Nat) (r : Nat), (x, γ, r) ∈ sbc x γ r) ?_ ?_ ?_ ?_ ?_ ?_ ?_ ?_ ?_ ?_ ?_ ?_ ?_ ?_ ?_
    all_goals intros
    all_goals first | exact List.mem_cons_self | omega
  exact this (tsz x) x p e 0 (Nat.le_refl _) w rfl
/-- the functions' X lie there -/
theorem fu_sc {y : TR} {p e : Nat} (w : PW K y p e) : ∀ q cnt x, (q, cnt, x) ∈ fuP y → (∃ b e0, Wt K x b e0 0) ∧ (∀ z, z ∈ sbc x (pms (q + 2) cnt).reverse (4 * q) → z ∈ scP y) ∧ (4 * q, nds x, some (otk x)) ∈ rgP y := by
  refine PW_ind (K := K) (P := fun y p e => ∀ q cnt x, (q, cnt, x) ∈ fuP y → (∃ b e0, Wt K x b e0 0) ∧ (∀ z, z ∈ sbc x (pms (q + 2) cnt).reverse (4 * q) → z ∈ scP y) ∧ (4 * q, nds x, some (otk x)) ∈ rgP y) ?_ ?_ (tsz y) y p e (Nat.le_refl _) w
  · intro p cnt x b e0 _ _ _ w1 hb q cnt' x' hq
    have hq := List.mem_singleton.mp hq
    cases hq
    exact ⟨⟨b, e0, w1⟩, fun z hz => List.mem_append_left _ hz, List.mem_cons_self⟩
  · intro p cnt x r b e0 e _ _ _ w1 hb _ w2 ih q cnt' x' hq
    rcases List.mem_cons.mp hq with hq | hq
    · cases hq
      exact ⟨⟨b, e0, w1⟩, fun z hz => List.mem_append_left _ hz, List.mem_cons_self⟩
    · obtain ⟨a, b, c⟩ := ih q cnt' x' hq
      exact ⟨a, fun z hz => List.mem_append_right _ (b z hz), List.mem_append_right _ c⟩
end SHP
