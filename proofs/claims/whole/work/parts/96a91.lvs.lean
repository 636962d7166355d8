/-! the leaves of a region -/
def lfK : TR → Bool
  | .tag 1 _ => true
  | .tag 2 _ => true
  | .tag 3 _ => true
  | .tag 4 _ => true
  | .tag 7 _ => true
  | _ => false
def LvS (x : TR) (p : Nat) : Prop := ∀ (γ : List Nat) (r : Nat), (∀ z, z ∈ sbc x γ r → z.2.2 = r ∨ p ≤ z.2.2 / 4) ∧ (r / 4 < p → (∀ z, z ∈ sbc x γ r → z.2.2 = r → lfK z.1 = true → otk z.1 ∈ lvs x) ∧ ∀ t, t ∈ lvs x → ∃ z, z ∈ sbc x γ r ∧ z.2.2 = r ∧ otk z.1 = t ∧ lfK z.1 = true)
section LVS
variable {K : Nat → Nat} {y : TR}
/-- what a list of X gives to its region -/
def LvL (l : List (TR × List Nat × Nat)) (L : List Nat) (r p : Nat) : Prop := (∀ z, z ∈ l → z.2.2 = r ∨ p ≤ z.2.2 / 4) ∧ (r / 4 < p → (∀ z, z ∈ l → z.2.2 = r → lfK z.1 = true → otk z.1 ∈ L) ∧ ∀ t, t ∈ L → ∃ z, z ∈ l ∧ z.2.2 = r ∧ otk z.1 = t ∧ lfK z.1 = true)
theorem lv_ap {l1 l2 : List (TR × List Nat × Nat)} {L1 L2 : List Nat} {r p : Nat} (h1 : LvL l1 L1 r p) (h2 : LvL l2 L2 r p) : LvL (l1 ++ l2) (L2 ++ L1) r p := by
  refine ⟨fun z hz => ?_, fun hr => ⟨fun z hz q1 q2 => ?_, fun t ht => ?_⟩⟩
  · rcases List.mem_append.mp hz with hz | hz
    · exact h1.1 z hz
    · exact h2.1 z hz
  · rcases List.mem_append.mp hz with hz | hz
    · exact List.mem_append_right _ ((h1.2 hr).1 z hz q1 q2)
    · exact List.mem_append_left _ ((h2.2 hr).1 z hz q1 q2)
  · rcases List.mem_append.mp ht with ht | ht
    · obtain ⟨z, q1, q2⟩ := (h2.2 hr).2 t ht
      exact ⟨z, List.mem_append_right _ q1, q2⟩
    · obtain ⟨z, q1, q2⟩ := (h1.2 hr).2 t ht
      exact ⟨z, List.mem_append_left _ q1, q2⟩
theorem lv_mn {x : TR} {γ : List Nat} {r p p' : Nat} (h : LvS x p') (hp : p ≤ p') : LvL (sbc x γ r) (lvs x) r p := by
  obtain ⟨h1, h2⟩ := h γ r
  refine ⟨fun z hz => ?_, fun hr => h2 (by omega)⟩
  rcases h1 z hz with q | q
  · exact .inl q
  · exact .inr (by omega)
/-- X of another region -/
theorem lv_in {x : TR} {γ : List Nat} {r r' p p' : Nat} (h : LvS x p') (hp : p ≤ p') (hr : p ≤ r' / 4) : LvL (sbc x γ r') [] r p := by
  obtain ⟨h1, h2⟩ := h γ r'
  refine ⟨fun z hz => ?_, fun hr => ⟨fun z hz q _ => ?_, fun t ht => absurd ht List.not_mem_nil⟩⟩
  · rcases h1 z hz with q | q
    · rw [q]
      exact .inr hr
    · exact .inr (by omega)
  · rcases h1 z hz with q' | q'
    · rw [q'] at q
      omega
    · omega
theorem lv_a0 {l1 l2 : List (TR × List Nat × Nat)} {L : List Nat} {r p : Nat} (h1 : LvL l1 L r p) (h2 : LvL l2 [] r p) : LvL (l1 ++ l2) L r p := lv_ap h1 h2
theorem lv_t {X : TR} {γ : List Nat} {r p : Nat} {l : List (TR × List Nat × Nat)} {L : List Nat} (h : LvL l L r p) (hk : lfK X = true) : LvL ((X, γ, r) :: l) (L ++ [otk X]) r p := by
  refine ⟨fun z hz => ?_, fun hr => ⟨fun z hz q1 q2 => ?_, fun t ht => ?_⟩⟩
  · rcases List.mem_cons.mp hz with rfl | hz
    · exact .inl rfl
    · exact h.1 z hz
  · rcases List.mem_cons.mp hz with rfl | hz
    · exact List.mem_append_right _ (List.mem_singleton.mpr rfl)
    · exact List.mem_append_left _ ((h.2 hr).1 z hz q1 q2)
  · rcases List.mem_append.mp ht with ht | ht
    · obtain ⟨z, q1, q2⟩ := (h.2 hr).2 t ht
      exact ⟨z, List.mem_cons_of_mem _ q1, q2⟩
    · rw [List.mem_singleton.mp ht]
      exact ⟨_, List.mem_cons_self, rfl, rfl, hk⟩
theorem lv_f {X : TR} {γ : List Nat} {r p : Nat} {l : List (TR × List Nat × Nat)} {L : List Nat} (h : LvL l L r p) (hk : lfK X = false) : LvL ((X, γ, r) :: l) L r p := by
  refine ⟨fun z hz => ?_, fun hr => ⟨fun z hz q1 q2 => ?_, fun t ht => ?_⟩⟩
  · rcases List.mem_cons.mp hz with rfl | hz
    · exact .inl rfl
    · exact h.1 z hz
  · rcases List.mem_cons.mp hz with rfl | hz
    · rw [hk] at q2
      cases q2
    · exact (h.2 hr).1 z hz q1 q2
  · obtain ⟨z, q1, q2⟩ := (h.2 hr).2 t ht
    exact ⟨z, List.mem_cons_of_mem _ q1, q2⟩
theorem lv_nil {r p : Nat} : LvL [] [] r p := ⟨fun _ h => absurd h List.not_mem_nil, fun _ => ⟨fun _ h => absurd h List.not_mem_nil, fun _ h => absurd h List.not_mem_nil⟩⟩
theorem lv_W {x : TR} {p e md : Nat} (w : Wt K x p e md) : LvS x p := by
  refine Wt_ind (K := K) (P := fun x p e md => LvS x p) ?_ ?_ ?_ ?_ ?_ ?_ ?_ ?_ ?_ ?_ ?_ ?_ ?_ ?_ ?_ (tsz x) x p e md (Nat.le_refl _) w
  · intro p md _ γ r; exact lv_t (X := aNum p) (L := []) lv_nil rfl
  · intro p md _ γ r; exact lv_t (X := aTru p) (L := []) lv_nil rfl
  · intro p md _ γ r; exact lv_t (X := aNam p) (L := []) lv_nil rfl
  · intro p md _ γ r; exact lv_t (X := aCal p .nil) (L := []) lv_nil rfl
  · intro p as b md _ _ w1 ih γ r; exact lv_t (X := aCal p as) (lv_mn ih (by omega)) rfl
  · intro p x y b e md _ w1 w2 i1 i2 γ r
    have := Wt_lt w1
    exact lv_f (X := aLet p x y) (lv_ap (lv_mn i1 (by omega)) (lv_mn i2 (by omega))) rfl
  · intro p x y z b c e md w1 w2 w3 i1 i2 i3 γ r
    have := Wt_lt w1
    have := Wt_lt w2
    exact lv_f (X := aIf p x y z) (lv_a0 (lv_mn i1 (by omega)) (lv_a0 (lv_in i2 (by omega) (by omega)) (lv_in i3 (by omega) (by omega)))) rfl
  · intro p fs c ns g b d f e md _ _ w1 w2 w3 w4 i1 i2 i3 i4 γ r
    have := Wt_lt w1
    have := Wt_lt w2
    have := Wt_lt w3
    exact lv_t (X := aLoop p fs c ns g) (lv_a0 (lv_mn i1 (by omega)) (lv_a0 (lv_in i2 (by omega) (by omega)) (lv_a0 (lv_in i3 (by omega) (by omega)) (lv_in i4 (by omega) (by omega))))) rfl
  · intro p x e md _ w1 ih γ r; exact lv_f (X := aSig p x) (lv_mn ih (by omega)) rfl
  · intro p j x y e md _ w1 w2 i1 i2 γ r
    have := Wt_lt w1
    exact lv_f (X := aBin j x y) (lv_ap (lv_mn i1 (by omega)) (lv_mn i2 (by omega))) rfl
  · intro p j x y b md w1 w2 i1 i2 γ r
    have := Wt_lt w1
    exact lv_f (X := aCel j x y) (lv_ap (lv_mn i1 (by omega)) (lv_mn i2 (by omega))) rfl
  · intro p x y b e md _ _ w1 w2 i1 i2 γ r
    have := Wt_lt w1
    exact lv_f (X := aTab p x y) (lv_a0 (lv_mn i1 (by omega)) (lv_in i2 (by omega) (by omega))) rfl
  · intro p x b md w1 ih γ r; exact lv_f (X := aBrk p x) (lv_mn ih (by omega)) rfl
  · intro p x b md hmd _ w1 ih γ r
    exact lv_ap (lv_mn ih (by split <;> omega)) lv_nil
  · intro p x l b e md hmd _ _ w1 w2 i1 i2 γ r
    have h1 := Wt_lt w1
    have h2 : p ≤ b := by
      split at h1 <;> omega
    exact lv_ap (lv_mn i1 (by split <;> omega)) (lv_mn i2 (by omega))
end LVS
