/-! an own token belongs to one X -/
def OU (l : List (TR × List Nat × Nat)) (p e : Nat) : Prop := (∀ z, z ∈ l → p ≤ otk z.1 ∧ otk z.1 < e) ∧ ∀ z, z ∈ l → ∀ z', z' ∈ l → otk z.1 = otk z'.1 → z = z'
theorem OU_wk {l : List (TR × List Nat × Nat)} {p e p' e' : Nat} (h : OU l p e) (h1 : p' ≤ p) (h2 : e ≤ e') : OU l p' e' := ⟨fun z hz => by
  obtain ⟨a1, a2⟩ := h.1 z hz
  exact ⟨by omega, by omega⟩, h.2⟩
theorem OU_app {l1 l2 : List (TR × List Nat × Nat)} {p b b' e : Nat} (h1 : OU l1 p b) (h2 : OU l2 b' e) (hb : b ≤ b') (hp : p ≤ b') (he : b ≤ e) : OU (l1 ++ l2) p e := by
  refine ⟨fun c hc => ?_, fun c hc c' hc' q => ?_⟩
  · rcases List.mem_append.mp hc with hc | hc
    · obtain ⟨a1, a2⟩ := h1.1 c hc
      exact ⟨a1, by omega⟩
    · obtain ⟨a1, a2⟩ := h2.1 c hc
      exact ⟨by omega, a2⟩
  · rcases List.mem_append.mp hc with hc | hc
    · rcases List.mem_append.mp hc' with hc' | hc'
      · exact h1.2 c hc c' hc' q
      · obtain ⟨a1, a2⟩ := h1.1 c hc
        obtain ⟨b1, b2⟩ := h2.1 c' hc'
        omega
    · rcases List.mem_append.mp hc' with hc' | hc'
      · obtain ⟨a1, a2⟩ := h2.1 c hc
        obtain ⟨b1, b2⟩ := h1.1 c' hc'
        omega
      · exact h2.2 c hc c' hc' q
theorem OU_one {x : TR} {γ : List Nat} {r p e : Nat} (h1 : p ≤ otk x) (h2 : otk x < e) : OU [(x, γ, r)] p e := by
  refine ⟨fun z hz => ?_, fun z hz z' hz' _ => ?_⟩
  · obtain rfl := List.mem_singleton.mp hz
    exact ⟨h1, h2⟩
  · rw [List.mem_singleton.mp hz, List.mem_singleton.mp hz']
theorem OU_cons {x : TR} {γ : List Nat} {r p e : Nat} {l : List (TR × List Nat × Nat)} (h : OU l p e) (h1 : p ≤ otk x) (h2 : otk x < e) (h3 : ∀ z, z ∈ l → otk z.1 ≠ otk x) : OU ((x, γ, r) :: l) p e := by
  refine ⟨fun z hz => ?_, fun z hz z' hz' q => ?_⟩
  · rcases List.mem_cons.mp hz with rfl | hz
    · exact ⟨h1, h2⟩
    · exact h.1 z hz
  · rcases List.mem_cons.mp hz with rfl | hz
    · rcases List.mem_cons.mp hz' with rfl | hz'
      · rfl
      · exact absurd q.symm (h3 z' hz')
    · rcases List.mem_cons.mp hz' with rfl | hz'
      · exact absurd q (h3 z hz)
      · exact h.2 z hz z' hz' q
/-- an own token ahead of all the rest -/
theorem OU_hd {x : TR} {γ : List Nat} {r p p1 e e1 : Nat} {l : List (TR × List Nat × Nat)} (h : OU l p1 e1) (h1 : otk x = p) (h2 : p < p1) (h3 : e1 ≤ e) (h4 : p < e) : OU ((x, γ, r) :: l) p e := OU_cons (OU_wk h (by omega) h3) (by omega) (by omega) (fun z hz => by have := h.1 z hz; omega)
section OUS
variable {K : Nat → Nat}
theorem ou_W {x : TR} {p e md : Nat} (w : Wt K x p e md) : ∀ (γ : List Nat) (r : Nat), OU (sbc x γ r) p e := by
  refine Wt_ind (K := K) (P := fun x p e md => ∀ (γ : List Nat) (r : Nat), OU (sbc x γ r) p e) ?_ ?_ ?_ ?_ ?_ ?_ ?_ ?_ ?_ ?_ ?_ ?_ ?_ ?_ ?_ (tsz x) x p e md (Nat.le_refl _) w
  · intro p md _ γ r; exact OU_one (Nat.le_refl p) (Nat.lt_succ_self p)
  · intro p md _ γ r; exact OU_one (Nat.le_refl p) (Nat.lt_succ_self p)
  · intro p md _ γ r; exact OU_one (Nat.le_refl p) (Nat.lt_succ_self p)
  · intro p md _ γ r; exact OU_one (Nat.le_refl p) (show p < p + 3 by omega)
  · intro p as b md _ _ w1 ih γ r
    have := Wt_lt w1
    exact OU_hd (ih γ r) rfl (by omega) (by omega) (by omega)
  · intro p x y b e md _ w1 w2 i1 i2 γ r
    have := Wt_lt w1; have := Wt_lt w2
    exact OU_hd (OU_app (i1 _ _) (i2 _ _) (by omega) (by omega) (by omega)) rfl (by omega) (Nat.le_refl _) (by omega)
  · intro p x y z b c e md w1 w2 w3 i1 i2 i3 γ r
    have := Wt_lt w1; have := Wt_lt w2; have := Wt_lt w3
    exact OU_hd (OU_app (i1 _ _) (OU_app (i2 _ _) (i3 _ _) (by omega) (by omega) (by omega)) (by omega) (by omega) (by omega)) rfl (by omega) (Nat.le_refl _) (by omega)
  · intro p fs c ns g b d f e md _ _ w1 w2 w3 w4 i1 i2 i3 i4 γ r
    have := Wt_lt w1; have := Wt_lt w2; have := Wt_lt w3; have := Wt_lt w4
    exact OU_hd (OU_app (i1 _ _) (OU_app (i2 _ _) (OU_app (i3 _ _) (i4 _ _) (by omega) (by omega) (by omega)) (by omega) (by omega) (by omega)) (by omega) (by omega) (by omega)) rfl (by omega) (Nat.le_refl _) (by omega)
  · intro p x e md _ w1 ih γ r
    have := Wt_lt w1
    exact OU_hd (ih _ _) rfl (by omega) (Nat.le_refl _) (by omega)
  · intro p j x y e md _ w1 w2 i1 i2 γ r
    have := Wt_lt w1; have := Wt_lt w2
    refine OU_cons (OU_app (i1 γ r) (i2 γ r) (by omega) (by omega) (by omega)) (show p ≤ j by omega) (show j < e by omega) (fun z hz => ?_)
    show otk z.1 ≠ j
    rcases List.mem_append.mp hz with hz | hz
    · have := (i1 γ r).1 z hz; omega
    · have := (i2 γ r).1 z hz; omega
  · intro p j x y b md w1 w2 i1 i2 γ r
    have := Wt_lt w1; have := Wt_lt w2
    refine OU_cons (OU_wk (OU_app (i1 γ r) (i2 γ r) (by omega) (by omega) (by omega)) (Nat.le_refl _) (by omega)) (show p ≤ j by omega) (show j < b + 1 by omega) (fun z hz => ?_)
    show otk z.1 ≠ j
    rcases List.mem_append.mp hz with hz | hz
    · have := (i1 γ r).1 z hz; omega
    · have := (i2 γ r).1 z hz; omega
  · intro p x y b e md _ _ w1 w2 i1 i2 γ r
    have := Wt_lt w1; have := Wt_lt w2
    exact OU_hd (OU_app (i1 _ _) (i2 _ _) (by omega) (by omega) (by omega)) rfl (by omega) (Nat.le_refl _) (by omega)
  · intro p x b md w1 ih γ r
    have := Wt_lt w1
    exact OU_hd (ih _ _) rfl (by omega) (by omega) (by omega)
  · intro p x b md hmd _ w1 ih γ r
    have g0 : p ≤ (if md = 101 then p else p + 2) := by split <;> omega
    show OU (sbc x γ r ++ []) p b
    rw [List.append_nil]
    exact OU_wk (ih _ _) g0 (Nat.le_refl _)
  · intro p x l b e md hmd _ _ w1 w2 i1 i2 γ r
    have := Wt_lt w1; have := Wt_lt w2
    have g0 : p ≤ (if md = 101 then p else p + 2) := by split <;> omega
    exact OU_wk (OU_app (i1 _ _) (i2 _ _) (by omega) (by omega) (by omega)) g0 (Nat.le_refl _)
theorem ou_P {y : TR} {p e : Nat} (w : PW K y p e) : OU (scP y) p e := by
  refine PW_ind (K := K) (P := fun y p e => OU (scP y) p e) ?_ ?_ (tsz y) y p e (Nat.le_refl _) w
  · intro p cnt x b e0 _ _ _ w1 hb
    show OU (sbc x _ _ ++ []) p (e0 + 1)
    rw [List.append_nil]
    exact OU_wk (ou_W w1 _ _) (by omega) (by omega)
  · intro p cnt x r b e0 e _ _ _ w1 hb _ w2 ih
    have := Wt_lt w1; have := PW_lt w2
    exact OU_wk (OU_app (ou_W w1 _ _) ih (by omega) (by omega) (by omega)) (by omega) (Nat.le_refl _)
/-- where an X's parts are: its list is closed under parts -/
theorem sc_sb {y : TR} {p e : Nat} (w : PW K y p e) : ∀ z, z ∈ scP y → z.1 ∈ sbP y := by
  refine PW_ind (K := K) (P := fun y p e => ∀ z, z ∈ scP y → z.1 ∈ sbP y) ?_ ?_ (tsz y) y p e (Nat.le_refl _) w
  · intro p cnt x b e0 _ _ _ w1 hb z hz
    rcases List.mem_append.mp hz with hz | hz
    · exact List.mem_append_left _ (sbc_sbs w1 _ _ z hz)
    · exact absurd hz List.not_mem_nil
  · intro p cnt x r b e0 e _ _ _ w1 hb _ w2 ih z hz
    rcases List.mem_append.mp hz with hz | hz
    · exact List.mem_append_left _ (sbc_sbs w1 _ _ z hz)
    · exact List.mem_append_right _ (ih z hz)
end OUS
