/-! own numbers for own tokens; own codes for regions -/
section INJ
variable {K pl : Nat → Nat} {V : Nat → Int64} {m : Nat} {S : im_S} {lo hi rlo rhi : Nat} {ν ρ : Nat → Nat}
theorem bgk_p {x : TR} {p e : Nat} (w : Wt K x p e 0) : bgk x = p := by
  refine Wt_ind (K := K) (P := fun x p e md => md = 0 → bgk x = p) ?_ ?_ ?_ ?_ ?_ ?_ ?_ ?_ ?_ ?_ ?_ ?_ ?_ ?_ ?_ (tsz x) x p e 0 (Nat.le_refl _) w rfl
  · intros; rfl
  · intros; rfl
  · intros; rfl
  · intros; rfl
  · intros; rfl
  · intros; rfl
  · intros; rfl
  · intros; rfl
  · intros; rfl
  · intro p j x y e md _ _ _ i1 _ _; exact i1 rfl
  · intro p j x y b md _ _ i1 _ _; exact i1 rfl
  · intros; rfl
  · intros; rfl
  · intro p x b md h1 _ _ _ h; omega
  · intro p x l b e md h1 _ _ _ _ _ _ h; omega
/-- an X within an X lies so, too -/
theorem sub_W {x : TR} {p e md : Nat} (w : Wt K x p e md) : ∀ y, y ∈ sbs x → ∃ p' e', p ≤ p' ∧ e' ≤ e ∧ Wt K y p' e' 0 ∧ ∀ z, z ∈ sbs y → z ∈ sbs x := by
  have up : ∀ {l1 l2 : List TR} {p q e f : Nat} {y : TR}, q ≤ p → e ≤ f → (∀ z, z ∈ l1 → z ∈ l2) → (∃ p' e', p ≤ p' ∧ e' ≤ e ∧ Wt K y p' e' 0 ∧ ∀ z, z ∈ sbs y → z ∈ l1) → ∃ p' e', q ≤ p' ∧ e' ≤ f ∧ Wt K y p' e' 0 ∧ ∀ z, z ∈ sbs y → z ∈ l2 := fun {l1 l2 p q e f y} h1 h2 h3 ⟨p', e', a, b, c, d⟩ => ⟨p', e', by omega, by omega, c, fun z hz => h3 z (d z hz)⟩
  have A : ∀ {l1 l2 : List TR}, ∀ z, z ∈ l1 → z ∈ l1 ++ l2 := fun z h => List.mem_append_left _ h
  have B : ∀ {l1 l2 : List TR}, ∀ z, z ∈ l2 → z ∈ l1 ++ l2 := fun z h => List.mem_append_right _ h
  have C : ∀ {b : TR} {l : List TR}, ∀ z, z ∈ l → z ∈ b :: l := fun z h => List.mem_cons_of_mem _ h
  refine Wt_ind (K := K) (P := fun x p e md => ∀ y, y ∈ sbs x → ∃ p' e', p ≤ p' ∧ e' ≤ e ∧ Wt K y p' e' 0 ∧ ∀ z, z ∈ sbs y → z ∈ sbs x) ?_ ?_ ?_ ?_ ?_ ?_ ?_ ?_ ?_ ?_ ?_ ?_ ?_ ?_ ?_ (tsz x) x p e md (Nat.le_refl _) w
  · intro p md k; exact fm_1.mpr ⟨p, p + 1, by omega, by omega, ⟨rfl, rfl, rfl, k⟩, fun z h => h⟩
  · intro p md k; exact fm_1.mpr ⟨p, p + 1, by omega, by omega, ⟨rfl, rfl, rfl, k⟩, fun z h => h⟩
  · intro p md k; exact fm_1.mpr ⟨p, p + 1, by omega, by omega, ⟨rfl, rfl, rfl, k⟩, fun z h => h⟩
  · intro p md k; exact fm_1.mpr ⟨p, p + 3, by omega, by omega, ⟨rfl, k, Or.inl ⟨rfl, rfl⟩⟩, fun z h => h⟩
  · intro p as b md k hn w1 ih
    exact fm_c.mpr ⟨⟨p, b + 1, by omega, by omega, ⟨rfl, k, Or.inr ⟨b, hn, w1, rfl⟩⟩, fun z h => h⟩, fun y hy => up (by omega) (by omega) C (ih y hy)⟩
  · intro p x y b e md k w1 w2 i1 i2
    have := Wt_lt w1; have := Wt_lt w2
    exact fm_c.mpr ⟨⟨p, e, by omega, by omega, ⟨rfl, k, b, w1, w2⟩, fun z h => h⟩, fm_a.mpr ⟨fun y hy => up (by omega) (by omega) (fun z h => C z (A z h)) (i1 y hy), fun y hy => up (by omega) (by omega) (fun z h => C z (B z h)) (i2 y hy)⟩⟩
  · intro p x y z b c e md w1 w2 w3 i1 i2 i3
    have := Wt_lt w1; have := Wt_lt w2; have := Wt_lt w3
    exact fm_c.mpr ⟨⟨p, e, by omega, by omega, ⟨rfl, b, c, w1, w2, w3⟩, fun z h => h⟩, fm_a.mpr ⟨fun y hy => up (by omega) (by omega) (fun z h => C z (A z h)) (i1 y hy), fm_a.mpr ⟨fun y hy => up (by omega) (by omega) (fun z h => C z (B z (A z h))) (i2 y hy), fun y hy => up (by omega) (by omega) (fun z h => C z (B z (B z h))) (i3 y hy)⟩⟩⟩
  · intro p fs c ns g b d f e md n1 n2 w1 w2 w3 w4 i1 i2 i3 i4
    have := Wt_lt w1; have := Wt_lt w2; have := Wt_lt w3; have := Wt_lt w4
    exact fm_c.mpr ⟨⟨p, e, by omega, by omega, ⟨rfl, b, d, f, n1, n2, w1, w2, w3, w4⟩, fun z h => h⟩, fm_a.mpr ⟨fun y hy => up (by omega) (by omega) (fun z h => C z (A z h)) (i1 y hy), fm_a.mpr ⟨fun y hy => up (by omega) (by omega) (fun z h => C z (B z (A z h))) (i2 y hy), fm_a.mpr ⟨fun y hy => up (by omega) (by omega) (fun z h => C z (B z (B z (A z h)))) (i3 y hy), fun y hy => up (by omega) (by omega) (fun z h => C z (B z (B z (B z h)))) (i4 y hy)⟩⟩⟩⟩
  · intro p x e md k w1 ih
    have := Wt_lt w1
    exact fm_c.mpr ⟨⟨p, e, by omega, by omega, ⟨rfl, k, w1⟩, fun z h => h⟩, fun y hy => up (by omega) (by omega) C (ih y hy)⟩
  · intro p j x y e md k w1 w2 i1 i2
    have := Wt_lt w1; have := Wt_lt w2
    exact fm_c.mpr ⟨⟨p, e, by omega, by omega, ⟨k, w1, w2⟩, fun z h => h⟩, fm_a.mpr ⟨fun y hy => up (by omega) (by omega) (fun z h => C z (A z h)) (i1 y hy), fun y hy => up (by omega) (by omega) (fun z h => C z (B z h)) (i2 y hy)⟩⟩
  · intro p j x y b md w1 w2 i1 i2
    have := Wt_lt w1; have := Wt_lt w2
    exact fm_c.mpr ⟨⟨p, b + 1, by omega, by omega, ⟨w1, b, w2, rfl⟩, fun z h => h⟩, fm_a.mpr ⟨fun y hy => up (by omega) (by omega) (fun z h => C z (A z h)) (i1 y hy), fun y hy => up (by omega) (by omega) (fun z h => C z (B z h)) (i2 y hy)⟩⟩
  · intro p x y b e md k1 k2 w1 w2 i1 i2
    have := Wt_lt w1; have := Wt_lt w2
    exact fm_c.mpr ⟨⟨p, e, by omega, by omega, ⟨rfl, k1, k2, b, w1, w2⟩, fun z h => h⟩, fm_a.mpr ⟨fun y hy => up (by omega) (by omega) (fun z h => C z (A z h)) (i1 y hy), fun y hy => up (by omega) (by omega) (fun z h => C z (B z h)) (i2 y hy)⟩⟩
  · intro p x b md w1 ih
    have := Wt_lt w1
    exact fm_c.mpr ⟨⟨p, b + 1, by omega, by omega, ⟨rfl, b, w1, rfl⟩, fun z h => h⟩, fun y hy => up (by omega) (by omega) C (ih y hy)⟩
  · intro p x b md hmd _ w1 ih
    have g0 : p ≤ (if md = 101 then p else p + 2) := by split <;> omega
    exact fm_a.mpr ⟨fun y hy => up g0 (by omega) A (ih y hy), fun y hy => absurd hy List.not_mem_nil⟩
  · intro p x l b e md hmd _ _ w1 w2 i1 i2
    have := Wt_lt w1; have := Wt_lt w2
    have g0 : p ≤ (if md = 101 then p else p + 2) := by split <;> omega
    exact fm_a.mpr ⟨fun y hy => up g0 (by omega) A (i1 y hy), fun y hy => up (by omega) (by omega) B (i2 y hy)⟩
/-- what tells a node's token: its place, or that of its second part -/
def tkW (pl : Nat → Nat) (S : im_S) (k j c : Nat) : Prop := S.1 81 k = nI c ∧ 1 ≤ c ∧ c ≤ 12 ∧ ((c ≠ 9 ∧ c ≠ 10 ∧ S.1 82 k = nI (pl j)) ∨ ((c = 9 ∨ c = 10) ∧ ∃ k2 : Nat, k2 < 2 ^ 31 ∧ S.1 84 k = nI k2 ∧ S.1 82 k2 = nI (pl (j + 1))))
theorem tk_w {y : TR} {p e : Nat} (w : Wt K y p e 0) (o : OKs K pl V S lo hi rlo rhi ν y) (hhi : hi ≤ 1200) : ∃ c, tkW pl S (ν (otk y)) (otk y) c ∧ otk y + (if c = 9 ∨ c = 10 then 1 else 0) < e := by
  have hot := Wt_ot w
  refine Wt_ind (K := K) (P := fun y p e md => md = 0 → OKs K pl V S lo hi rlo rhi ν y → ∃ c, tkW pl S (ν (otk y)) (otk y) c ∧ otk y + (if c = 9 ∨ c = 10 then 1 else 0) < e) ?_ ?_ ?_ ?_ ?_ ?_ ?_ ?_ ?_ ?_ ?_ ?_ ?_ ?_ ?_ (tsz y) y p e 0 (Nat.le_refl _) w rfl o
  · intro p md _ _ o; exact ⟨1, ⟨(fm_1.mp o).1.1.1, by omega, by omega, Or.inl ⟨by omega, by omega, (fm_1.mp o).1.1.2.1 (by omega) (by omega)⟩⟩, by show p + 0 < _; omega⟩
  · intro p md _ _ o; exact ⟨2, ⟨(fm_1.mp o).1.1.1, by omega, by omega, Or.inl ⟨by omega, by omega, (fm_1.mp o).1.1.2.1 (by omega) (by omega)⟩⟩, by show p + 0 < _; omega⟩
  · intro p md _ _ o; exact ⟨3, ⟨(fm_1.mp o).1.1.1, by omega, by omega, Or.inl ⟨by omega, by omega, (fm_1.mp o).1.1.2.1 (by omega) (by omega)⟩⟩, by show p + 0 < _; omega⟩
  · intro p md _ _ o; exact ⟨4, ⟨(fm_1.mp o).1.1.1, by omega, by omega, Or.inl ⟨by omega, by omega, (fm_1.mp o).1.1.2.1 (by omega) (by omega)⟩⟩, by show p + 0 < _; omega⟩
  · intro p as b md _ _ w1 _ _ o; have := Wt_lt w1; exact ⟨4, ⟨(fm_c.mp o).1.1.1.1, by omega, by omega, Or.inl ⟨by omega, by omega, (fm_c.mp o).1.1.1.2.1 (by omega) (by omega)⟩⟩, by show p + 0 < _; omega⟩
  · intro p x y b e md _ w1 w2 _ _ _ o; have := Wt_lt w1; have := Wt_lt w2; exact ⟨5, ⟨(fm_c.mp o).1.1.1.1, by omega, by omega, Or.inl ⟨by omega, by omega, (fm_c.mp o).1.1.1.2.1 (by omega) (by omega)⟩⟩, by show p + 0 < _; omega⟩
  · intro p x y z b c e md w1 w2 w3 _ _ _ _ o; have := Wt_lt w1; have := Wt_lt w2; have := Wt_lt w3; exact ⟨6, ⟨(fm_c.mp o).1.1.1.1, by omega, by omega, Or.inl ⟨by omega, by omega, (fm_c.mp o).1.1.1.2.1 (by omega) (by omega)⟩⟩, by show p + 0 < _; omega⟩
  · intro p fs c ns g b d f e md _ _ w1 w2 w3 w4 _ _ _ _ _ o; have := Wt_lt w1; have := Wt_lt w2; have := Wt_lt w3; have := Wt_lt w4; exact ⟨7, ⟨(fm_c.mp o).1.1.1.1, by omega, by omega, Or.inl ⟨by omega, by omega, (fm_c.mp o).1.1.1.2.1 (by omega) (by omega)⟩⟩, by show p + 0 < _; omega⟩
  · intro p x e md _ w1 _ _ o; have := Wt_lt w1; exact ⟨8, ⟨(fm_c.mp o).1.1.1.1, by omega, by omega, Or.inl ⟨by omega, by omega, (fm_c.mp o).1.1.1.2.1 (by omega) (by omega)⟩⟩, by show p + 0 < _; omega⟩
  · intro p j x y e md _ w1 w2 _ _ _ o
    have := Wt_lt w2
    obtain ⟨⟨⟨a1, a2, a3, a4⟩, _⟩, o2⟩ := fm_c.mp o
    obtain ⟨o2, o3⟩ := fm_a.mp o2
    have hk := (o3 y (Wt_ms w2)).2.2
    have hp := plc w2 o3
    rw [bgk_p w2] at hp
    exact ⟨9, ⟨a1.1, by omega, by omega, Or.inr ⟨Or.inl rfl, ν (otk y), by omega, a3, hp⟩⟩, by show j + 1 < _; omega⟩
  · intro p j x y b md w1 w2 _ _ _ o
    have := Wt_lt w2
    obtain ⟨⟨⟨a1, a2, a3, a4⟩, _⟩, o2⟩ := fm_c.mp o
    obtain ⟨o2, o3⟩ := fm_a.mp o2
    have hk := (o3 y (Wt_ms w2)).2.2
    have hp := plc w2 o3
    rw [bgk_p w2] at hp
    exact ⟨10, ⟨a1.1, by omega, by omega, Or.inr ⟨Or.inr rfl, ν (otk y), by omega, a3, hp⟩⟩, by show j + 1 < _; omega⟩
  · intro p x y b e md _ _ w1 w2 _ _ _ o; have := Wt_lt w1; have := Wt_lt w2; exact ⟨11, ⟨(fm_c.mp o).1.1.1.1, by omega, by omega, Or.inl ⟨by omega, by omega, (fm_c.mp o).1.1.1.2.1 (by omega) (by omega)⟩⟩, by show p + 0 < _; omega⟩
  · intro p x b md w1 _ _ o; have := Wt_lt w1; exact ⟨12, ⟨(fm_c.mp o).1.1.1.1, by omega, by omega, Or.inl ⟨by omega, by omega, (fm_c.mp o).1.1.1.2.1 (by omega) (by omega)⟩⟩, by show p + 0 < _; omega⟩
  · intro p x b md h1 _ _ _ h; omega
  · intro p x l b e md h1 _ _ _ _ _ _ h; omega
theorem tkW_inj (T : TH K pl V m) {k j j' c c' : Nat} (h : tkW pl S k j c) (h' : tkW pl S k j' c') (hj : j + (if c = 9 ∨ c = 10 then 1 else 0) ≤ m) (hj' : j' + (if c' = 9 ∨ c' = 10 then 1 else 0) ≤ m) : j = j' := by
  obtain ⟨a1, a2, a3, a4⟩ := h
  obtain ⟨b1, b2, b3, b4⟩ := h'
  rw [a1] at b1
  have hc : c = c' := (nI_eq (by omega) (by omega)).mp b1
  subst hc
  rcases a4 with ⟨n1, n2, a4⟩ | ⟨n1, k2, n2, a5, a6⟩
  · rw [if_neg (by omega)] at hj hj'
    rcases b4 with ⟨-, -, b4⟩ | ⟨n3, _⟩
    · rw [a4] at b4
      exact T.inj (by omega) (by omega) b4
    · omega
  · rw [if_pos n1] at hj hj'
    rcases b4 with ⟨n3, n4, _⟩ | ⟨-, k3, n3, b5, b6⟩
    · omega
    · rw [a5] at b5
      have : k2 = k3 := (nI_eq (by omega) (by omega)).mp b5
      subst this
      rw [a6] at b6
      have := T.inj hj hj' b6
      omega
theorem inj_2 (T : TH K pl V m) (hhi : hi ≤ 1200) {x x' y y' : TR} {p e p' e' : Nat} (w : Wt K x p e 0) (w' : Wt K x' p' e' 0) (o : OKs K pl V S lo hi rlo rhi ν x) (o' : OKs K pl V S lo hi rlo rhi ν x') (he : e ≤ m) (he' : e' ≤ m) (hy : y ∈ sbs x) (hy' : y' ∈ sbs x') (h : ν (otk y) = ν (otk y')) : otk y = otk y' := by
  obtain ⟨a, b, a1, a2, a3, a4⟩ := sub_W w y hy
  obtain ⟨a', b', c1, c2, c3, c4⟩ := sub_W w' y' hy'
  obtain ⟨c, t1, t2⟩ := tk_w a3 (fun z hz => o z (a4 z hz)) hhi
  obtain ⟨c', u1, u2⟩ := tk_w c3 (fun z hz => o' z (c4 z hz)) hhi
  rw [← h] at u1
  exact tkW_inj T t1 u1 (by omega) (by omega)
/-- codes of regions -/
theorem rg_cd {x : TR} {p e md : Nat} (w : Wt K x p e md) : (∀ g, g ∈ rgs x → 4 * p ≤ g.1 ∧ g.1 < 4 * e) ∧ ((rgs x).map Prod.fst).Nodup := by
  have nil : ∀ a b : Nat, (∀ g, g ∈ ([] : List (Nat × List Nat × Option Nat)) → 4 * a ≤ g.1 ∧ g.1 < 4 * b) ∧ (([] : List (Nat × List Nat × Option Nat)).map Prod.fst).Nodup := fun a b => ⟨fun g hg => absurd hg List.not_mem_nil, List.nodup_nil⟩
  have nap : ∀ {l1 l2 : List (Nat × List Nat × Option Nat)}, (l1.map Prod.fst).Nodup → (l2.map Prod.fst).Nodup → (∀ g, g ∈ l1 → ∀ h, h ∈ l2 → g.1 ≠ h.1) → ((l1 ++ l2).map Prod.fst).Nodup := fun {l1 l2} h1 h2 h3 => by
    rw [List.map_append, List.nodup_append]
    refine ⟨h1, h2, fun a ha b hb => ?_⟩
    obtain ⟨g, hg, rfl⟩ := List.mem_map.mp ha
    obtain ⟨h, hh, rfl⟩ := List.mem_map.mp hb
    exact h3 g hg h hh
  have nco : ∀ {g : Nat × List Nat × Option Nat} {l : List (Nat × List Nat × Option Nat)}, (l.map Prod.fst).Nodup → (∀ h, h ∈ l → g.1 ≠ h.1) → ((g :: l).map Prod.fst).Nodup := fun {g l} h1 h2 => by
    refine List.nodup_cons.mpr ⟨fun hm => ?_, h1⟩
    obtain ⟨h, hh, he⟩ := List.mem_map.mp hm
    exact h2 h hh he.symm
  refine Wt_ind (K := K) (P := fun x p e md => (∀ g, g ∈ rgs x → 4 * p ≤ g.1 ∧ g.1 < 4 * e) ∧ ((rgs x).map Prod.fst).Nodup) ?_ ?_ ?_ ?_ ?_ ?_ ?_ ?_ ?_ ?_ ?_ ?_ ?_ ?_ ?_ (tsz x) x p e md (Nat.le_refl _) w
  · intro p md _; exact nil _ _
  · intro p md _; exact nil _ _
  · intro p md _; exact nil _ _
  · intro p md _; exact nil _ _
  · intro p as b md _ _ w1 ih
    exact ⟨fun g hg => by have := ih.1 g hg; omega, ih.2⟩
  · intro p x y b e md _ w1 w2 i1 i2
    have := Wt_lt w1; have := Wt_lt w2
    exact ⟨fm_a.mpr ⟨fun g hg => by have := i1.1 g hg; omega, fun g hg => by have := i2.1 g hg; omega⟩, nap i1.2 i2.2 (fun g hg h hh => by have := i1.1 g hg; have := i2.1 h hh; omega)⟩
  · intro p x y z b c e md w1 w2 w3 i1 i2 i3
    have := Wt_lt w1; have := Wt_lt w2; have := Wt_lt w3
    refine ⟨fm_a.mpr ⟨fun g hg => by have := i1.1 g hg; omega, fm_a.mpr ⟨fm_c.mpr ⟨by show 4 * p ≤ 4 * p ∧ 4 * p < _; omega, fun g hg => by have := i2.1 g hg; omega⟩, fm_c.mpr ⟨by show 4 * p ≤ 4 * p + 1 ∧ 4 * p + 1 < _; omega, fun g hg => by have := i3.1 g hg; omega⟩⟩⟩, nap i1.2 (nap (nco i2.2 (fun h hh => by have := i2.1 h hh; show 4 * p ≠ h.1; omega)) (nco i3.2 (fun h hh => by have := i3.1 h hh; show 4 * p + 1 ≠ h.1; omega)) ?_) ?_⟩
    · exact fm_c.mpr ⟨fm_c.mpr ⟨by show 4 * p ≠ 4 * p + 1; omega, fun h hh => by have := i3.1 h hh; show 4 * p ≠ h.1; omega⟩, fun g hg => fm_c.mpr ⟨by have := i2.1 g hg; show g.1 ≠ 4 * p + 1; omega, fun h hh => by have := i2.1 g hg; have := i3.1 h hh; omega⟩⟩
    · exact fun g hg => fm_a.mpr ⟨fm_c.mpr ⟨by have := i1.1 g hg; show g.1 ≠ 4 * p; omega, fun h hh => by have := i1.1 g hg; have := i2.1 h hh; omega⟩, fm_c.mpr ⟨by have := i1.1 g hg; show g.1 ≠ 4 * p + 1; omega, fun h hh => by have := i1.1 g hg; have := i3.1 h hh; omega⟩⟩
  · intro p fs c ns g b d f e md _ _ w1 w2 w3 w4 i1 i2 i3 i4
    have := Wt_lt w1; have := Wt_lt w2; have := Wt_lt w3; have := Wt_lt w4
    refine ⟨fm_a.mpr ⟨fun g hg => by have := i1.1 g hg; omega, fm_a.mpr ⟨fm_c.mpr ⟨by show 4 * p ≤ 4 * p ∧ 4 * p < _; omega, fun g hg => by have := i2.1 g hg; omega⟩, fm_a.mpr ⟨fm_c.mpr ⟨by show 4 * p ≤ 4 * p + 1 ∧ 4 * p + 1 < _; omega, fun g hg => by have := i3.1 g hg; omega⟩, fm_c.mpr ⟨by show 4 * p ≤ 4 * p + 2 ∧ 4 * p + 2 < _; omega, fun g hg => by have := i4.1 g hg; omega⟩⟩⟩⟩, nap i1.2 (nap (nco i2.2 (fun h hh => by have := i2.1 h hh; show 4 * p ≠ h.1; omega)) (nap (nco i3.2 (fun h hh => by have := i3.1 h hh; show 4 * p + 1 ≠ h.1; omega)) (nco i4.2 (fun h hh => by have := i4.1 h hh; show 4 * p + 2 ≠ h.1; omega)) ?_) ?_) ?_⟩
    · exact fm_c.mpr ⟨fm_c.mpr ⟨by show 4 * p + 1 ≠ 4 * p + 2; omega, fun h hh => by have := i4.1 h hh; show 4 * p + 1 ≠ h.1; omega⟩, fun g hg => fm_c.mpr ⟨by have := i3.1 g hg; show g.1 ≠ 4 * p + 2; omega, fun h hh => by have := i3.1 g hg; have := i4.1 h hh; omega⟩⟩
    · exact fm_c.mpr ⟨fm_a.mpr ⟨fm_c.mpr ⟨by show 4 * p ≠ 4 * p + 1; omega, fun h hh => by have := i3.1 h hh; show 4 * p ≠ h.1; omega⟩, fm_c.mpr ⟨by show 4 * p ≠ 4 * p + 2; omega, fun h hh => by have := i4.1 h hh; show 4 * p ≠ h.1; omega⟩⟩, fun g hg => fm_a.mpr ⟨fm_c.mpr ⟨by have := i2.1 g hg; show g.1 ≠ 4 * p + 1; omega, fun h hh => by have := i2.1 g hg; have := i3.1 h hh; omega⟩, fm_c.mpr ⟨by have := i2.1 g hg; show g.1 ≠ 4 * p + 2; omega, fun h hh => by have := i2.1 g hg; have := i4.1 h hh; omega⟩⟩⟩
    · exact fun g hg => fm_a.mpr ⟨fm_c.mpr ⟨by have := i1.1 g hg; show g.1 ≠ 4 * p; omega, fun h hh => by have := i1.1 g hg; have := i2.1 h hh; omega⟩, fm_a.mpr ⟨fm_c.mpr ⟨by have := i1.1 g hg; show g.1 ≠ 4 * p + 1; omega, fun h hh => by have := i1.1 g hg; have := i3.1 h hh; omega⟩, fm_c.mpr ⟨by have := i1.1 g hg; show g.1 ≠ 4 * p + 2; omega, fun h hh => by have := i1.1 g hg; have := i4.1 h hh; omega⟩⟩⟩
  · intro p x e md _ w1 ih
    exact ⟨fun g hg => by have := ih.1 g hg; omega, ih.2⟩
  · intro p j x y e md _ w1 w2 i1 i2
    have := Wt_lt w1; have := Wt_lt w2
    exact ⟨fm_a.mpr ⟨fun g hg => by have := i1.1 g hg; omega, fun g hg => by have := i2.1 g hg; omega⟩, nap i1.2 i2.2 (fun g hg h hh => by have := i1.1 g hg; have := i2.1 h hh; omega)⟩
  · intro p j x y b md w1 w2 i1 i2
    have := Wt_lt w1; have := Wt_lt w2
    exact ⟨fm_a.mpr ⟨fun g hg => by have := i1.1 g hg; omega, fun g hg => by have := i2.1 g hg; omega⟩, nap i1.2 i2.2 (fun g hg h hh => by have := i1.1 g hg; have := i2.1 h hh; omega)⟩
  · intro p x y b e md _ _ w1 w2 i1 i2
    have := Wt_lt w1; have := Wt_lt w2
    exact ⟨fm_a.mpr ⟨fun g hg => by have := i1.1 g hg; omega, fm_c.mpr ⟨by show 4 * p ≤ 4 * p ∧ 4 * p < _; omega, fun g hg => by have := i2.1 g hg; omega⟩⟩, nap i1.2 (nco i2.2 (fun h hh => by have := i2.1 h hh; show 4 * p ≠ h.1; omega)) (fun g hg => fm_c.mpr ⟨by have := i1.1 g hg; show g.1 ≠ 4 * p; omega, fun h hh => by have := i1.1 g hg; have := i2.1 h hh; omega⟩)⟩
  · intro p x b md w1 ih
    exact ⟨fun g hg => by have := ih.1 g hg; omega, ih.2⟩
  · intro p x b md hmd _ w1 ih
    have g0 : p ≤ (if md = 101 then p else p + 2) := by split <;> omega
    refine ⟨fm_a.mpr ⟨fun g hg => by have := ih.1 g hg; omega, fun g hg => absurd hg List.not_mem_nil⟩, ?_⟩
    show ((rgs x ++ []).map Prod.fst).Nodup
    rw [List.append_nil]; exact ih.2
  · intro p x l b e md hmd _ _ w1 w2 i1 i2
    have := Wt_lt w1; have := Wt_lt w2
    have g0 : p ≤ (if md = 101 then p else p + 2) := by split <;> omega
    exact ⟨fm_a.mpr ⟨fun g hg => by have := i1.1 g hg; omega, fun g hg => by have := i2.1 g hg; omega⟩, nap i1.2 i2.2 (fun g hg h hh => by have := i1.1 g hg; have := i2.1 h hh; omega)⟩
theorem mpR_ex : ∀ (rg : List (Nat × List Nat × Option Nat)) (n : Nat), (rg.map Prod.fst).Nodup → ∃ ρ : Nat → Nat, mpR ρ rg n := by
  intro rg
  induction rg with
  | nil => intro n _; exact ⟨fun _ => 0, rfl⟩
  | cons g rg ih =>
    intro n h
    obtain ⟨h1, h2⟩ := List.nodup_cons.mp h
    obtain ⟨ρ, hρ⟩ := ih (n + 1) h2
    refine ⟨fun c => if c = g.1 then n else ρ c, ?_⟩
    show (if g.1 = g.1 then n else ρ g.1) :: rg.map (fun g' => if g'.1 = g.1 then n else ρ g'.1) = n :: List.range' (n + 1) rg.length
    rw [if_pos rfl, ← hρ]
    congr 1
    refine List.map_congr_left (fun a ha => ?_)
    exact if_neg (show ¬ a.1 = g.1 from fun z => h1 (by rw [← z]; exact List.mem_map.mpr ⟨a, ha, rfl⟩))
end INJ
