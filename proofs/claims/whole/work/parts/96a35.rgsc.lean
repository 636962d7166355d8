/-! the nodes of a region are the X that lie there -/
def SCl (l : List (TR × List Nat × Nat)) (t c : Nat) : Prop := ∃ z, z ∈ l ∧ otk z.1 = t ∧ z.2.2 = c
def RGl (l : List (Nat × List Nat × Option Nat)) (t c : Nat) : Prop := ∃ g, g ∈ l ∧ g.1 = c ∧ t ∈ g.2.1
def IRg (x : TR) (r t c : Nat) : Prop := (c = r ∧ t ∈ nds x) ∨ RGl (rgs x) t c
theorem SCl_in {l l' : List (TR × List Nat × Nat)} {t c : Nat} (h : ∀ z, z ∈ l → z ∈ l') (q : SCl l t c) : SCl l' t c := by
  obtain ⟨z, h1, h2⟩ := q
  exact ⟨z, h z h1, h2⟩
theorem RGl_in {l l' : List (Nat × List Nat × Option Nat)} {t c : Nat} (h : ∀ z, z ∈ l → z ∈ l') (q : RGl l t c) : RGl l' t c := by
  obtain ⟨z, h1, h2⟩ := q
  exact ⟨z, h z h1, h2⟩
theorem I_same {X x : TR} {r t c : Nat} (h1 : ∀ t, t ∈ nds x → t ∈ nds X) (h2 : ∀ g, g ∈ rgs x → g ∈ rgs X) (q : IRg x r t c) : IRg X r t c := by
  rcases q with ⟨q1, q2⟩ | q
  · exact Or.inl ⟨q1, h1 t q2⟩
  · exact Or.inr (RGl_in h2 q)
theorem I_other {X x : TR} {r r' t c : Nat} {o : Option Nat} (h1 : (r', nds x, o) ∈ rgs X) (h2 : ∀ g, g ∈ rgs x → g ∈ rgs X) (q : IRg x r' t c) : IRg X r t c := by
  rcases q with ⟨q1, q2⟩ | q
  · exact Or.inr ⟨_, h1, q1.symm, q2⟩
  · exact Or.inr (RGl_in h2 q)
theorem RGl_app {l1 l2 : List (Nat × List Nat × Option Nat)} {t c : Nat} (q : RGl (l1 ++ l2) t c) : RGl l1 t c ∨ RGl l2 t c := by
  obtain ⟨z, h1, h2⟩ := q
  rcases List.mem_append.mp h1 with h1 | h1
  · exact Or.inl ⟨z, h1, h2⟩
  · exact Or.inr ⟨z, h1, h2⟩
theorem RGl_cons {x : TR} {r t c : Nat} {o : Option Nat} (q : RGl ((r, nds x, o) :: rgs x) t c) : IRg x r t c := by
  obtain ⟨z, h1, h2⟩ := q
  rcases List.mem_cons.mp h1 with rfl | h1
  · exact Or.inl ⟨h2.1.symm, h2.2⟩
  · exact Or.inr ⟨z, h1, h2⟩
theorem ml {α : Type} {l1 l2 : List α} : ∀ t, t ∈ l1 → t ∈ l1 ++ l2 := fun _ h => List.mem_append_left _ h
theorem mr {α : Type} {l1 l2 : List α} : ∀ t, t ∈ l2 → t ∈ l1 ++ l2 := fun _ h => List.mem_append_right _ h
theorem mc {α : Type} {a : α} {l : List α} : ∀ t, t ∈ l → t ∈ a :: l := fun _ h => List.mem_cons_of_mem _ h
theorem mco {α : Type} {l1 l2 l3 : List α} (f : ∀ t, t ∈ l1 → t ∈ l2) (g : ∀ t, t ∈ l2 → t ∈ l3) : ∀ t, t ∈ l1 → t ∈ l3 := fun t h => g t (f t h)
section RSC
variable {K : Nat → Nat}
theorem rg_sc {x : TR} {p e md : Nat} (w : Wt K x p e md) : ∀ (γ : List Nat) (r : Nat), (∀ z, z ∈ sbc x γ r → IRg x r (otk z.1) z.2.2) ∧ ∀ t c, IRg x r t c → SCl (sbc x γ r) t c := by
  refine Wt_ind (K := K) (P := fun x p e md => ∀ (γ : List Nat) (r : Nat), (∀ z, z ∈ sbc x γ r → IRg x r (otk z.1) z.2.2) ∧ ∀ t c, IRg x r t c → SCl (sbc x γ r) t c) ?_ ?_ ?_ ?_ ?_ ?_ ?_ ?_ ?_ ?_ ?_ ?_ ?_ ?_ ?_ (tsz x) x p e md (Nat.le_refl _) w
  · intro p md _ γ r
    refine ⟨fun z hz => ?_, fun t c h => ?_⟩
    · obtain rfl := List.mem_singleton.mp hz
      exact Or.inl ⟨rfl, List.mem_singleton.mpr rfl⟩
    · rcases h with ⟨rfl, h⟩ | ⟨g, hg, -⟩
      · exact ⟨_, List.mem_singleton.mpr rfl, (List.mem_singleton.mp h).symm, rfl⟩
      · exact absurd hg List.not_mem_nil
  · intro p md _ γ r
    refine ⟨fun z hz => ?_, fun t c h => ?_⟩
    · obtain rfl := List.mem_singleton.mp hz
      exact Or.inl ⟨rfl, List.mem_singleton.mpr rfl⟩
    · rcases h with ⟨rfl, h⟩ | ⟨g, hg, -⟩
      · exact ⟨_, List.mem_singleton.mpr rfl, (List.mem_singleton.mp h).symm, rfl⟩
      · exact absurd hg List.not_mem_nil
  · intro p md _ γ r
    refine ⟨fun z hz => ?_, fun t c h => ?_⟩
    · obtain rfl := List.mem_singleton.mp hz
      exact Or.inl ⟨rfl, List.mem_singleton.mpr rfl⟩
    · rcases h with ⟨rfl, h⟩ | ⟨g, hg, -⟩
      · exact ⟨_, List.mem_singleton.mpr rfl, (List.mem_singleton.mp h).symm, rfl⟩
      · exact absurd hg List.not_mem_nil
  · intro p md _ γ r
    refine ⟨fun z hz => ?_, fun t c h => ?_⟩
    · obtain rfl := List.mem_singleton.mp hz
      exact Or.inl ⟨rfl, List.mem_singleton.mpr rfl⟩
    · rcases h with ⟨rfl, h⟩ | ⟨g, hg, -⟩
      · exact ⟨_, List.mem_singleton.mpr rfl, (List.mem_singleton.mp h).symm, rfl⟩
      · exact absurd hg List.not_mem_nil
  · intro p as b md _ _ w1 ih γ r
    refine ⟨fun z hz => ?_, fun t c' h => ?_⟩
    · rcases List.mem_cons.mp hz with rfl | hz
      · exact Or.inl ⟨rfl, List.mem_append_right _ (List.mem_singleton.mpr rfl)⟩
      · exact I_same (ml) (fun _ h => h) ((ih _ _).1 z hz)
    · rcases h with ⟨rfl, h⟩ | h
      · rcases List.mem_append.mp h with h | h
        · exact SCl_in (mco (fun _ h => h) mc) ((ih _ _).2 _ _ (Or.inl ⟨rfl, h⟩))
        · exact ⟨_, List.mem_cons_self, (List.mem_singleton.mp h).symm, rfl⟩
      · exact SCl_in (mco (fun _ h => h) mc) ((ih _ _).2 _ _ (Or.inr h))
  · intro p x y b e md _ w1 w2 i1 i2 γ r
    refine ⟨fun z hz => ?_, fun t c' h => ?_⟩
    · rcases List.mem_cons.mp hz with rfl | hz
      · exact Or.inl ⟨rfl, List.mem_append_right _ (List.mem_append_right _ (List.mem_singleton.mpr rfl))⟩
      rcases List.mem_append.mp hz with hz | hz
      · exact I_same (ml) (ml) ((i1 _ _).1 z hz)
      · exact I_same (mco (ml) mr) (mco (fun _ h => h) mr) ((i2 _ _).1 z hz)
    · rcases h with ⟨rfl, h⟩ | h
      · rcases List.mem_append.mp h with h | h
        · exact SCl_in (mco (ml) mc) ((i1 _ _).2 _ _ (Or.inl ⟨rfl, h⟩))
        rcases List.mem_append.mp h with h | h
        · exact SCl_in (mco (mco (fun _ h => h) mr) mc) ((i2 _ _).2 _ _ (Or.inl ⟨rfl, h⟩))
        · exact ⟨_, List.mem_cons_self, (List.mem_singleton.mp h).symm, rfl⟩
      · rcases RGl_app h with h | h
        · exact SCl_in (mco (ml) mc) ((i1 _ _).2 _ _ (Or.inr h))
        · exact SCl_in (mco (mco (fun _ h => h) mr) mc) ((i2 _ _).2 _ _ (Or.inr h))
  · intro p x y z b c e md w1 w2 w3 i1 i2 i3 γ r
    refine ⟨fun z hz => ?_, fun t c' h => ?_⟩
    · rcases List.mem_cons.mp hz with rfl | hz
      · exact Or.inl ⟨rfl, List.mem_append_right _ (List.mem_singleton.mpr rfl)⟩
      rcases List.mem_append.mp hz with hz | hz
      · exact I_same (ml) (ml) ((i1 _ _).1 z hz)
      rcases List.mem_append.mp hz with hz | hz
      · exact I_other (List.mem_append_right _ (List.mem_append_left _ (List.mem_cons_self))) (mco (mco (mc) ml) mr) ((i2 _ _).1 z hz)
      · exact I_other (List.mem_append_right _ (List.mem_append_right _ (List.mem_cons_self))) (mco (mco (mc) mr) mr) ((i3 _ _).1 z hz)
    · rcases h with ⟨rfl, h⟩ | h
      · rcases List.mem_append.mp h with h | h
        · exact SCl_in (mco (ml) mc) ((i1 _ _).2 _ _ (Or.inl ⟨rfl, h⟩))
        · exact ⟨_, List.mem_cons_self, (List.mem_singleton.mp h).symm, rfl⟩
      · rcases RGl_app h with h | h
        · exact SCl_in (mco (ml) mc) ((i1 _ _).2 _ _ (Or.inr h))
        rcases RGl_app h with h | h
        · exact SCl_in (mco (mco (ml) mr) mc) ((i2 _ _).2 _ _ (RGl_cons h))
        · exact SCl_in (mco (mco (mco (fun _ h => h) mr) mr) mc) ((i3 _ _).2 _ _ (RGl_cons h))
  · intro p fs c ns g b d f e md _ _ w1 w2 w3 w4 i1 i2 i3 i4 γ r
    refine ⟨fun z hz => ?_, fun t c' h => ?_⟩
    · rcases List.mem_cons.mp hz with rfl | hz
      · exact Or.inl ⟨rfl, List.mem_append_right _ (List.mem_singleton.mpr rfl)⟩
      rcases List.mem_append.mp hz with hz | hz
      · exact I_same (ml) (ml) ((i1 _ _).1 z hz)
      rcases List.mem_append.mp hz with hz | hz
      · exact I_other (List.mem_append_right _ (List.mem_append_left _ (List.mem_cons_self))) (mco (mco (mc) ml) mr) ((i2 _ _).1 z hz)
      rcases List.mem_append.mp hz with hz | hz
      · exact I_other (List.mem_append_right _ (List.mem_append_right _ (List.mem_append_left _ (List.mem_cons_self)))) (mco (mco (mco (mc) ml) mr) mr) ((i3 _ _).1 z hz)
      · exact I_other (List.mem_append_right _ (List.mem_append_right _ (List.mem_append_right _ (List.mem_cons_self)))) (mco (mco (mco (mc) mr) mr) mr) ((i4 _ _).1 z hz)
    · rcases h with ⟨rfl, h⟩ | h
      · rcases List.mem_append.mp h with h | h
        · exact SCl_in (mco (ml) mc) ((i1 _ _).2 _ _ (Or.inl ⟨rfl, h⟩))
        · exact ⟨_, List.mem_cons_self, (List.mem_singleton.mp h).symm, rfl⟩
      · rcases RGl_app h with h | h
        · exact SCl_in (mco (ml) mc) ((i1 _ _).2 _ _ (Or.inr h))
        rcases RGl_app h with h | h
        · exact SCl_in (mco (mco (ml) mr) mc) ((i2 _ _).2 _ _ (RGl_cons h))
        rcases RGl_app h with h | h
        · exact SCl_in (mco (mco (mco (ml) mr) mr) mc) ((i3 _ _).2 _ _ (RGl_cons h))
        · exact SCl_in (mco (mco (mco (mco (fun _ h => h) mr) mr) mr) mc) ((i4 _ _).2 _ _ (RGl_cons h))
  · intro p x e md _ w1 ih γ r
    refine ⟨fun z hz => ?_, fun t c' h => ?_⟩
    · rcases List.mem_cons.mp hz with rfl | hz
      · exact Or.inl ⟨rfl, List.mem_append_right _ (List.mem_singleton.mpr rfl)⟩
      · exact I_same (ml) (fun _ h => h) ((ih _ _).1 z hz)
    · rcases h with ⟨rfl, h⟩ | h
      · rcases List.mem_append.mp h with h | h
        · exact SCl_in (mco (fun _ h => h) mc) ((ih _ _).2 _ _ (Or.inl ⟨rfl, h⟩))
        · exact ⟨_, List.mem_cons_self, (List.mem_singleton.mp h).symm, rfl⟩
      · exact SCl_in (mco (fun _ h => h) mc) ((ih _ _).2 _ _ (Or.inr h))
  · intro p j x y e md _ w1 w2 i1 i2 γ r
    refine ⟨fun z hz => ?_, fun t c' h => ?_⟩
    · rcases List.mem_cons.mp hz with rfl | hz
      · exact Or.inl ⟨rfl, List.mem_append_right _ (List.mem_append_right _ (List.mem_singleton.mpr rfl))⟩
      rcases List.mem_append.mp hz with hz | hz
      · exact I_same (ml) (ml) ((i1 _ _).1 z hz)
      · exact I_same (mco (ml) mr) (mco (fun _ h => h) mr) ((i2 _ _).1 z hz)
    · rcases h with ⟨rfl, h⟩ | h
      · rcases List.mem_append.mp h with h | h
        · exact SCl_in (mco (ml) mc) ((i1 _ _).2 _ _ (Or.inl ⟨rfl, h⟩))
        rcases List.mem_append.mp h with h | h
        · exact SCl_in (mco (mco (fun _ h => h) mr) mc) ((i2 _ _).2 _ _ (Or.inl ⟨rfl, h⟩))
        · exact ⟨_, List.mem_cons_self, (List.mem_singleton.mp h).symm, rfl⟩
      · rcases RGl_app h with h | h
        · exact SCl_in (mco (ml) mc) ((i1 _ _).2 _ _ (Or.inr h))
        · exact SCl_in (mco (mco (fun _ h => h) mr) mc) ((i2 _ _).2 _ _ (Or.inr h))
  · intro p j x y b md w1 w2 i1 i2 γ r
    refine ⟨fun z hz => ?_, fun t c' h => ?_⟩
    · rcases List.mem_cons.mp hz with rfl | hz
      · exact Or.inl ⟨rfl, List.mem_append_right _ (List.mem_append_right _ (List.mem_singleton.mpr rfl))⟩
      rcases List.mem_append.mp hz with hz | hz
      · exact I_same (ml) (ml) ((i1 _ _).1 z hz)
      · exact I_same (mco (ml) mr) (mco (fun _ h => h) mr) ((i2 _ _).1 z hz)
    · rcases h with ⟨rfl, h⟩ | h
      · rcases List.mem_append.mp h with h | h
        · exact SCl_in (mco (ml) mc) ((i1 _ _).2 _ _ (Or.inl ⟨rfl, h⟩))
        rcases List.mem_append.mp h with h | h
        · exact SCl_in (mco (mco (fun _ h => h) mr) mc) ((i2 _ _).2 _ _ (Or.inl ⟨rfl, h⟩))
        · exact ⟨_, List.mem_cons_self, (List.mem_singleton.mp h).symm, rfl⟩
      · rcases RGl_app h with h | h
        · exact SCl_in (mco (ml) mc) ((i1 _ _).2 _ _ (Or.inr h))
        · exact SCl_in (mco (mco (fun _ h => h) mr) mc) ((i2 _ _).2 _ _ (Or.inr h))
  · intro p x y b e md _ _ w1 w2 i1 i2 γ r
    refine ⟨fun z hz => ?_, fun t c' h => ?_⟩
    · rcases List.mem_cons.mp hz with rfl | hz
      · exact Or.inl ⟨rfl, List.mem_append_right _ (List.mem_singleton.mpr rfl)⟩
      rcases List.mem_append.mp hz with hz | hz
      · exact I_same (ml) (ml) ((i1 _ _).1 z hz)
      · exact I_other (List.mem_append_right _ (List.mem_cons_self)) (mco (mc) mr) ((i2 _ _).1 z hz)
    · rcases h with ⟨rfl, h⟩ | h
      · rcases List.mem_append.mp h with h | h
        · exact SCl_in (mco (ml) mc) ((i1 _ _).2 _ _ (Or.inl ⟨rfl, h⟩))
        · exact ⟨_, List.mem_cons_self, (List.mem_singleton.mp h).symm, rfl⟩
      · rcases RGl_app h with h | h
        · exact SCl_in (mco (ml) mc) ((i1 _ _).2 _ _ (Or.inr h))
        · exact SCl_in (mco (mco (fun _ h => h) mr) mc) ((i2 _ _).2 _ _ (RGl_cons h))
  · intro p x b md w1 ih γ r
    refine ⟨fun z hz => ?_, fun t c' h => ?_⟩
    · rcases List.mem_cons.mp hz with rfl | hz
      · exact Or.inl ⟨rfl, List.mem_append_right _ (List.mem_singleton.mpr rfl)⟩
      · exact I_same (ml) (fun _ h => h) ((ih _ _).1 z hz)
    · rcases h with ⟨rfl, h⟩ | h
      · rcases List.mem_append.mp h with h | h
        · exact SCl_in (mco (fun _ h => h) mc) ((ih _ _).2 _ _ (Or.inl ⟨rfl, h⟩))
        · exact ⟨_, List.mem_cons_self, (List.mem_singleton.mp h).symm, rfl⟩
      · exact SCl_in (mco (fun _ h => h) mc) ((ih _ _).2 _ _ (Or.inr h))
  · intro p x b md hmd _ w1 ih γ r
    refine ⟨fun z hz => ?_, fun t c' h => ?_⟩
    · rcases List.mem_append.mp hz with hz | hz
      · exact I_same ml ml ((ih _ _).1 z hz)
      · exact absurd hz List.not_mem_nil
    · rcases h with ⟨rfl, h⟩ | h
      · rcases List.mem_append.mp h with h | h
        · exact SCl_in ml ((ih _ _).2 _ _ (Or.inl ⟨rfl, h⟩))
        · exact absurd h List.not_mem_nil
      · rcases RGl_app h with h | ⟨g, hg, -⟩
        · exact SCl_in ml ((ih _ _).2 _ _ (Or.inr h))
        · exact absurd hg List.not_mem_nil
  · intro p x l b e md hmd _ _ w1 w2 i1 i2 γ r
    refine ⟨fun z hz => ?_, fun t c' h => ?_⟩
    · rcases List.mem_append.mp hz with hz | hz
      · exact I_same (ml) (ml) ((i1 _ _).1 z hz)
      · exact I_same (mco (fun _ h => h) mr) (mco (fun _ h => h) mr) ((i2 _ _).1 z hz)
    · rcases h with ⟨rfl, h⟩ | h
      · rcases List.mem_append.mp h with h | h
        · exact SCl_in (ml) ((i1 _ _).2 _ _ (Or.inl ⟨rfl, h⟩))
        · exact SCl_in (mco (fun _ h => h) mr) ((i2 _ _).2 _ _ (Or.inl ⟨rfl, h⟩))
      · rcases RGl_app h with h | h
        · exact SCl_in (ml) ((i1 _ _).2 _ _ (Or.inr h))
        · exact SCl_in (mco (fun _ h => h) mr) ((i2 _ _).2 _ _ (Or.inr h))
/-- the nodes of a program's regions are its X, each in its region -/
theorem rg_P {y : TR} {p e : Nat} (w : PW K y p e) : (∀ z, z ∈ scP y → RGl (rgP y) (otk z.1) z.2.2) ∧ ∀ t c, RGl (rgP y) t c → SCl (scP y) t c := by
  refine PW_ind (K := K) (P := fun y p e => (∀ z, z ∈ scP y → RGl (rgP y) (otk z.1) z.2.2) ∧ ∀ t c, RGl (rgP y) t c → SCl (scP y) t c) ?_ ?_ (tsz y) y p e (Nat.le_refl _) w
  · intro p cnt x b e0 _ _ _ w1 hb
    refine ⟨fun z hz => ?_, fun t c h => ?_⟩
    · rcases List.mem_append.mp hz with hz | hz
      · rcases (rg_sc w1 _ _).1 z hz with ⟨q1, q2⟩ | q
        · exact ⟨_, List.mem_append_left _ List.mem_cons_self, q1.symm, q2⟩
        · exact RGl_in (mco mc ml) q
      · exact absurd hz List.not_mem_nil
    · rcases RGl_app h with h | ⟨g, hg, -⟩
      · exact SCl_in ml ((rg_sc w1 _ _).2 _ _ (RGl_cons h))
      · exact absurd hg List.not_mem_nil
  · intro p cnt x r b e0 e _ _ _ w1 hb _ w2 ih
    refine ⟨fun z hz => ?_, fun t c h => ?_⟩
    · rcases List.mem_append.mp hz with hz | hz
      · rcases (rg_sc w1 _ _).1 z hz with ⟨q1, q2⟩ | q
        · exact ⟨_, List.mem_append_left _ List.mem_cons_self, q1.symm, q2⟩
        · exact RGl_in (mco mc ml) q
      · exact RGl_in mr (ih.1 z hz)
    · rcases RGl_app h with h | h
      · exact SCl_in ml ((rg_sc w1 _ _).2 _ _ (RGl_cons h))
      · exact SCl_in mr (ih.2 t c h)
end RSC
