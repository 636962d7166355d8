/-! the reference lays regions: where the pieces lie -/
def lpD (K : Nat → Int32 → Int32 → im_S → Option (Int32 × im_S)) (x1 x2 : Int32) (S : im_S) : Option (Unit × im_S) := gd (in_b x1 1200) ((K 0 ((S.1 83) x1.toNatClampNeg) x2 S).bind (fun q => gd (in_b x1 1200) ((K 0 ((q.2.1 84) x1.toNatClampNeg) x2 q.2).bind (fun q2 => lpT x1 x2 q2.2 q2.2))))
def lpI (K : Nat → Int32 → Int32 → im_S → Option (Int32 × im_S)) (x1 x2 : Int32) (S : im_S) : Option (Unit × im_S) := gd (in_b x1 1200) ((K 0 ((S.1 83) x1.toNatClampNeg) x2 S).bind (fun q => gd (in_b x1 1200) ((K 1 ((q.2.1 84) x1.toNatClampNeg) 0 q.2).bind (fun q2 => gd (in_b x1 1200) (gd (in_b x1 1200) ((K 1 ((q2.2.1 85) x1.toNatClampNeg) 0 (uI q2.2 110 x1.toNatClampNeg q2.1)).bind (fun q3 => gd (in_b x1 1200) (lpT x1 x2 (uI q3.2 111 x1.toNatClampNeg q3.1) q3.2))))))))
def lpB (K : Nat → Int32 → Int32 → im_S → Option (Int32 × im_S)) (x1 x2 : Int32) (S : im_S) : Option (Unit × im_S) := gd (in_b x1 1200) ((K 0 ((S.1 83) x1.toNatClampNeg) x2 S).bind (fun q => gd (in_b x1 1200) ((K 1 ((q.2.1 84) x1.toNatClampNeg) 0 q.2).bind (fun q2 => gd (in_b x1 1200) (lpT x1 x2 (uI q2.2 110 x1.toNatClampNeg q2.1) q2.2)))))
theorem lay_eq (K : Nat → Int32 → Int32 → im_S → Option (Int32 × im_S)) (fu : Nat) (x1 x2 : Int32) (S : im_S) : f_X11_lay K fu x1 x2 S = if (x1 : Int32) ≠ (-1) then (gd (in_b x1 1200) (if ((S.1 81) x1.toNatClampNeg) = (4 : Int32) then (f_X11_lay_L261 K fu fu x1 x2 0 S) else (if ((S.1 81) x1.toNatClampNeg) = (5 : Int32) then lpD K x1 x2 S else (if ((S.1 81) x1.toNatClampNeg) = (6 : Int32) then lpI K x1 x2 S else (if ((S.1 81) x1.toNatClampNeg) = (7 : Int32) then (f_X11_lay_L108 K fu fu x1 x2 0 S) else (if ((S.1 81) x1.toNatClampNeg) = (8 : Int32) then lpD K x1 x2 S else (if ((S.1 81) x1.toNatClampNeg) = (9 : Int32) then lpD K x1 x2 S else (if ((S.1 81) x1.toNatClampNeg) = (10 : Int32) then lpD K x1 x2 S else (if ((S.1 81) x1.toNatClampNeg) = (11 : Int32) then lpB K x1 x2 S else lpD K x1 x2 S))))))))) else (some ((), S)) := rfl
theorem l261_eq (K : Nat → Int32 → Int32 → im_S → Option (Int32 × im_S)) (fu nf : Nat) (z1 z2 z3 : Int32) (S : im_S) : f_X11_lay_L261 K fu (nf + 1) z1 z2 z3 S = gd (in_b z1 1200) (if ((S.1 90) z1.toNatClampNeg : Int32) ≤ z3 then lpT z1 z2 S S else (gd (in_b z1 1200) (gd (in_b (((S.1 89) z1.toNatClampNeg) + z3) 1200) ((K 0 ((S.1 95) ((((S.1 89) z1.toNatClampNeg) + z3).toNatClampNeg)) z2 S).bind (fun qS3 => f_X11_lay_L261 K fu nf z1 z2 (z3 + 1) qS3.2))))) := rfl
theorem l171_eq (K : Nat → Int32 → Int32 → im_S → Option (Int32 × im_S)) (fu nf : Nat) (z1 z2 z3 : Int32) (S : im_S) : f_X11_lay_L171 K fu (nf + 1) z1 z2 z3 S = gd (in_b z1 1200) (if ((S.1 92) z1.toNatClampNeg : Int32) ≤ z3 then gd (in_b z1 1200) ((K 1 ((S.1 84) z1.toNatClampNeg) 0 S).bind (fun qS2 => gd (in_b z1 1200) (lpT z1 z2 (uI qS2.2 112 z1.toNatClampNeg qS2.1) qS2.2))) else (gd (in_b z1 1200) (gd (in_b (((S.1 91) z1.toNatClampNeg) + z3) 1200) (gd (in_b z1 1200) ((K 0 ((S.1 95) ((((S.1 91) z1.toNatClampNeg) + z3).toNatClampNeg)) ((S.1 111) z1.toNatClampNeg) S).bind (fun qS6 => f_X11_lay_L171 K fu nf z1 z2 (z3 + 1) qS6.2)))))) := rfl
section LYS
variable {K pl : Nat → Nat} {V : Nat → Int64} {m fu : Nat} {lo hi rlo rhi : Nat} {ν ρ : Nat → Nat}
/-- own tokens and how many -/
def NdS (x : TR) (p e : Nat) : Prop := (∀ t, t ∈ nds x → ∃ y, y ∈ sbs x ∧ otk y = t) ∧ (∀ g, g ∈ rgs x → ∀ t, t ∈ g.2.1 → ∃ y, y ∈ sbs x ∧ otk y = t) ∧ (nds x).length + p ≤ e ∧ (rgs x).length + p ≤ e
theorem sb_up {l1 l2 : List TR} {t : Nat} (h : ∀ y, y ∈ l1 → y ∈ l2) (q : ∃ y, y ∈ l1 ∧ otk y = t) : ∃ y, y ∈ l2 ∧ otk y = t := by
  obtain ⟨y, h1, h2⟩ := q
  exact ⟨y, h y h1, h2⟩
theorem nd_S {x : TR} {p e md : Nat} (w : Wt K x p e md) : NdS x p e := by
  have A : ∀ {α : Type} {a : α} {l1 l2 : List α}, a ∈ l1 → a ∈ l1 ++ l2 := fun h => List.mem_append_left _ h
  have B : ∀ {α : Type} {a : α} {l1 l2 : List α}, a ∈ l2 → a ∈ l1 ++ l2 := fun h => List.mem_append_right _ h
  have C : ∀ {α : Type} {a b : α} {l : List α}, a ∈ l → a ∈ b :: l := fun h => List.mem_cons_of_mem _ h
  refine Wt_ind (K := K) (P := fun x p e md => NdS x p e) ?_ ?_ ?_ ?_ ?_ ?_ ?_ ?_ ?_ ?_ ?_ ?_ ?_ ?_ ?_ (tsz x) x p e md (Nat.le_refl _) w
  · intro p md _
    exact ⟨fm_1.mpr ⟨_, List.mem_cons_self, rfl⟩, fun g hg => absurd hg List.not_mem_nil, by show 1 + p ≤ _; omega, by show 0 + p ≤ _; omega⟩
  · intro p md _
    exact ⟨fm_1.mpr ⟨_, List.mem_cons_self, rfl⟩, fun g hg => absurd hg List.not_mem_nil, by show 1 + p ≤ _; omega, by show 0 + p ≤ _; omega⟩
  · intro p md _
    exact ⟨fm_1.mpr ⟨_, List.mem_cons_self, rfl⟩, fun g hg => absurd hg List.not_mem_nil, by show 1 + p ≤ _; omega, by show 0 + p ≤ _; omega⟩
  · intro p md _
    exact ⟨fm_1.mpr ⟨_, List.mem_cons_self, rfl⟩, fun g hg => absurd hg List.not_mem_nil, by show 1 + p ≤ _; omega, by show 0 + p ≤ _; omega⟩
  · intro p as b md _ _ w1 ih
    obtain ⟨i1, i2, i3, i4⟩ := ih
    refine ⟨fm_a.mpr ⟨fun t ht => sb_up (fun y => C) (i1 t ht), fm_1.mpr ⟨_, List.mem_cons_self, rfl⟩⟩, fun g hg t ht => sb_up (fun y => C) (i2 g hg t ht), ?_, ?_⟩
    · show (nds as ++ [p]).length + p ≤ b + 1
      rw [List.length_append]; show (nds as).length + 1 + p ≤ _; omega
    · show (rgs as).length + p ≤ b + 1; omega
  · intro p x y b e md _ w1 w2 ih1 ih2
    obtain ⟨i1, i2, i3, i4⟩ := ih1
    obtain ⟨j1, j2, j3, j4⟩ := ih2
    refine ⟨fm_a.mpr ⟨fun t ht => sb_up (fun y h => C (A h)) (i1 t ht), fm_a.mpr ⟨fun t ht => sb_up (fun y h => C (B h)) (j1 t ht), fm_1.mpr ⟨_, List.mem_cons_self, rfl⟩⟩⟩, fm_a.mpr ⟨fun g hg t ht => sb_up (fun y h => C (A h)) (i2 g hg t ht), fun g hg t ht => sb_up (fun y h => C (B h)) (j2 g hg t ht)⟩, ?_, ?_⟩
    · show (nds x ++ (nds y ++ [p])).length + p ≤ _
      rw [List.length_append, List.length_append]; show (nds x).length + ((nds y).length + 1) + p ≤ _; omega
    · show (rgs x ++ rgs y).length + p ≤ _
      rw [List.length_append]; omega
  · intro p x y z b c e md w1 w2 w3 ih1 ih2 ih3
    obtain ⟨i1, i2, i3, i4⟩ := ih1
    obtain ⟨j1, j2, j3, j4⟩ := ih2
    obtain ⟨k1, k2, k3, k4⟩ := ih3
    have l2 := Wt_lt w2
    have l3 := Wt_lt w3
    refine ⟨fm_a.mpr ⟨fun t ht => sb_up (fun y h => C (A h)) (i1 t ht), fm_1.mpr ⟨_, List.mem_cons_self, rfl⟩⟩, fm_a.mpr ⟨fun g hg t ht => sb_up (fun y h => C (A h)) (i2 g hg t ht), fm_a.mpr ⟨fm_c.mpr ⟨fun t ht => sb_up (fun y h => C (B (A h))) (j1 t ht), fun g hg t ht => sb_up (fun y h => C (B (A h))) (j2 g hg t ht)⟩, fm_c.mpr ⟨fun t ht => sb_up (fun y h => C (B (B h))) (k1 t ht), fun g hg t ht => sb_up (fun y h => C (B (B h))) (k2 g hg t ht)⟩⟩⟩, ?_, ?_⟩
    · show (nds x ++ [p]).length + p ≤ e
      rw [List.length_append]; show (nds x).length + 1 + p ≤ _; omega
    · show (rgs x ++ (((4 * p, nds y, some (otk y)) :: rgs y) ++ ((4 * p + 1, nds z, some (otk z)) :: rgs z))).length + p ≤ e
      rw [List.length_append, List.length_append]; show (rgs x).length + ((rgs y).length + 1 + ((rgs z).length + 1)) + p ≤ e; omega
  · intro p fs c ns g b d f e md _ _ w1 w2 w3 w4 ih1 ih2 ih3 ih4
    obtain ⟨i1, i2, i3, i4⟩ := ih1
    obtain ⟨j1, j2, j3, j4⟩ := ih2
    obtain ⟨k1, k2, k3, k4⟩ := ih3
    obtain ⟨m1, m2, m3, m4⟩ := ih4
    have l2 := Wt_lt w2
    have l3 := Wt_lt w3
    have l4 := Wt_lt w4
    refine ⟨fm_a.mpr ⟨fun t ht => sb_up (fun y h => C (A h)) (i1 t ht), fm_1.mpr ⟨_, List.mem_cons_self, rfl⟩⟩, fm_a.mpr ⟨fun g hg t ht => sb_up (fun y h => C (A h)) (i2 g hg t ht), fm_a.mpr ⟨fm_c.mpr ⟨fun t ht => sb_up (fun y h => C (B (A h))) (j1 t ht), fun g hg t ht => sb_up (fun y h => C (B (A h))) (j2 g hg t ht)⟩, fm_a.mpr ⟨fm_c.mpr ⟨fun t ht => sb_up (fun y h => C (B (B (A h)))) (k1 t ht), fun g hg t ht => sb_up (fun y h => C (B (B (A h)))) (k2 g hg t ht)⟩, fm_c.mpr ⟨fun t ht => sb_up (fun y h => C (B (B (B h)))) (m1 t ht), fun g hg t ht => sb_up (fun y h => C (B (B (B h)))) (m2 g hg t ht)⟩⟩⟩⟩, ?_, ?_⟩
    · show (nds fs ++ [p]).length + p ≤ e
      rw [List.length_append]; show (nds fs).length + 1 + p ≤ _; omega
    · show (rgs fs ++ (((4 * p, nds c, some (otk c)) :: rgs c) ++ (((4 * p + 1, nds ns, none) :: rgs ns) ++ ((4 * p + 2, nds g, some (otk g)) :: rgs g)))).length + p ≤ e
      rw [List.length_append, List.length_append, List.length_append]; show (rgs fs).length + ((rgs c).length + 1 + ((rgs ns).length + 1 + ((rgs g).length + 1))) + p ≤ e; omega
  · intro p x e md _ w1 ih
    obtain ⟨i1, i2, i3, i4⟩ := ih
    refine ⟨fm_a.mpr ⟨fun t ht => sb_up (fun y => C) (i1 t ht), fm_1.mpr ⟨_, List.mem_cons_self, rfl⟩⟩, fun g hg t ht => sb_up (fun y => C) (i2 g hg t ht), ?_, ?_⟩
    · show (nds x ++ [p]).length + p ≤ _
      rw [List.length_append]; show (nds x).length + 1 + p ≤ _; omega
    · show (rgs x).length + p ≤ _; omega
  · intro p j x y e md _ w1 w2 ih1 ih2
    obtain ⟨i1, i2, i3, i4⟩ := ih1
    obtain ⟨j1, j2, j3, j4⟩ := ih2
    refine ⟨fm_a.mpr ⟨fun t ht => sb_up (fun y h => C (A h)) (i1 t ht), fm_a.mpr ⟨fun t ht => sb_up (fun y h => C (B h)) (j1 t ht), fm_1.mpr ⟨_, List.mem_cons_self, rfl⟩⟩⟩, fm_a.mpr ⟨fun g hg t ht => sb_up (fun y h => C (A h)) (i2 g hg t ht), fun g hg t ht => sb_up (fun y h => C (B h)) (j2 g hg t ht)⟩, ?_, ?_⟩
    · show (nds x ++ (nds y ++ [j])).length + p ≤ _
      rw [List.length_append, List.length_append]; show (nds x).length + ((nds y).length + 1) + p ≤ _; omega
    · show (rgs x ++ rgs y).length + p ≤ _
      rw [List.length_append]; omega
  · intro p j x y b md w1 w2 ih1 ih2
    obtain ⟨i1, i2, i3, i4⟩ := ih1
    obtain ⟨j1, j2, j3, j4⟩ := ih2
    refine ⟨fm_a.mpr ⟨fun t ht => sb_up (fun y h => C (A h)) (i1 t ht), fm_a.mpr ⟨fun t ht => sb_up (fun y h => C (B h)) (j1 t ht), fm_1.mpr ⟨_, List.mem_cons_self, rfl⟩⟩⟩, fm_a.mpr ⟨fun g hg t ht => sb_up (fun y h => C (A h)) (i2 g hg t ht), fun g hg t ht => sb_up (fun y h => C (B h)) (j2 g hg t ht)⟩, ?_, ?_⟩
    · show (nds x ++ (nds y ++ [j])).length + p ≤ _
      rw [List.length_append, List.length_append]; show (nds x).length + ((nds y).length + 1) + p ≤ _; omega
    · show (rgs x ++ rgs y).length + p ≤ _
      rw [List.length_append]; omega
  · intro p x y b e md _ _ w1 w2 ih1 ih2
    obtain ⟨i1, i2, i3, i4⟩ := ih1
    obtain ⟨j1, j2, j3, j4⟩ := ih2
    have l2 := Wt_lt w2
    refine ⟨fm_a.mpr ⟨fun t ht => sb_up (fun y h => C (A h)) (i1 t ht), fm_1.mpr ⟨_, List.mem_cons_self, rfl⟩⟩, fm_a.mpr ⟨fun g hg t ht => sb_up (fun y h => C (A h)) (i2 g hg t ht), fm_c.mpr ⟨fun t ht => sb_up (fun y h => C (B h)) (j1 t ht), fun g hg t ht => sb_up (fun y h => C (B h)) (j2 g hg t ht)⟩⟩, ?_, ?_⟩
    · show (nds x ++ [p]).length + p ≤ e
      rw [List.length_append]; show (nds x).length + 1 + p ≤ _; omega
    · show (rgs x ++ ((4 * p, nds y, some (otk y)) :: rgs y)).length + p ≤ e
      rw [List.length_append]; show (rgs x).length + ((rgs y).length + 1) + p ≤ e; omega
  · intro p x b md w1 ih
    obtain ⟨i1, i2, i3, i4⟩ := ih
    refine ⟨fm_a.mpr ⟨fun t ht => sb_up (fun y => C) (i1 t ht), fm_1.mpr ⟨_, List.mem_cons_self, rfl⟩⟩, fun g hg t ht => sb_up (fun y => C) (i2 g hg t ht), ?_, ?_⟩
    · show (nds x ++ [p]).length + p ≤ _
      rw [List.length_append]; show (nds x).length + 1 + p ≤ _; omega
    · show (rgs x).length + p ≤ _; omega
  · intro p x b md hmd _ w1 ih
    obtain ⟨i1, i2, i3, i4⟩ := ih
    have g0 : p ≤ (if md = 101 then p else p + 2) := by split <;> omega
    refine ⟨fm_a.mpr ⟨fun t ht => sb_up (fun y => A) (i1 t ht), fun t ht => absurd ht List.not_mem_nil⟩, fm_a.mpr ⟨fun g hg t ht => sb_up (fun y => A) (i2 g hg t ht), fun g hg => absurd hg List.not_mem_nil⟩, ?_, ?_⟩
    · show (nds x ++ []).length + p ≤ b
      rw [List.append_nil]; omega
    · show (rgs x ++ []).length + p ≤ b
      rw [List.append_nil]; omega
  · intro p x l b e md hmd _ _ w1 w2 ih1 ih2
    obtain ⟨i1, i2, i3, i4⟩ := ih1
    obtain ⟨j1, j2, j3, j4⟩ := ih2
    have g0 : p ≤ (if md = 101 then p else p + 2) := by split <;> omega
    refine ⟨fm_a.mpr ⟨fun t ht => sb_up (fun y => A) (i1 t ht), fun t ht => sb_up (fun y => B) (j1 t ht)⟩, fm_a.mpr ⟨fun g hg t ht => sb_up (fun y => A) (i2 g hg t ht), fun g hg t ht => sb_up (fun y => B) (j2 g hg t ht)⟩, ?_, ?_⟩
    · show (nds x ++ nds l).length + p ≤ e
      rw [List.length_append]; omega
    · show (rgs x ++ rgs l).length + p ≤ e
      rw [List.length_append]; omega
end LYS
