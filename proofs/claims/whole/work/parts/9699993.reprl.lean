/-! the reference's arrays hold a tree while it is looked at -/
/-- as before, but for types, and the function of a call -/
def AgL (D E : im_S) (lo hi rlo rhi : Nat) : Prop := (∀ a i : Nat, 81 ≤ a → a ≤ 92 → a ≠ 88 → lo ≤ i → i < hi → (a ≠ 84 ∨ D.1 81 i ≠ 4) → E.1 a i = D.1 a i) ∧ (∀ i : Nat, lo ≤ i → i < hi → E.2.1 87 i = D.2.1 87 i) ∧ ∀ i : Nat, rlo ≤ i → i < rhi → E.1 94 i = D.1 94 i ∧ E.1 95 i = D.1 95 i ∧ E.2.1 93 i = D.2.1 93 i
theorem ndL_ag {K pl : Nat → Nat} {V : Nat → Int64} {D E : im_S} {lo hi rlo rhi c j k : Nat} (g : AgL D E lo hi rlo rhi) (h1 : lo ≤ k) (h2 : k < hi) (h : ndD K pl V D c j k) : ndD K pl V E c j k := by
  unfold ndD at h ⊢
  rw [g.1 81 k (by omega) (by omega) (by omega) h1 h2 (Or.inl (by omega)), g.1 82 k (by omega) (by omega) (by omega) h1 h2 (Or.inl (by omega)), g.1 86 k (by omega) (by omega) (by omega) h1 h2 (Or.inl (by omega)), g.2.1 k h1 h2]
  exact h
theorem L81 {K pl : Nat → Nat} {V : Nat → Int64} {D : im_S} {c j k : Nat} (h : ndD K pl V D c j k) (hc : c ≤ 12) (h4 : ¬ c = 4) : D.1 81 k ≠ 4 := by
  rw [h.1]
  exact fun z => h4 ((nI_eq (a := c) (b := 4) (by omega) (by omega)).mp z)
theorem RepD_lk {K pl : Nat → Nat} {V : Nat → Int64} {D E : im_S} {lo hi rlo rhi lo2 hi2 rlo2 rhi2 : Nat} (g : AgL D E lo hi rlo rhi) (h1 : lo2 ≤ lo) (h2 : hi ≤ hi2) (h3 : rlo2 ≤ rlo) (h4 : rhi ≤ rhi2) : ∀ (x : TR) (md k : Nat), mdk lo hi rlo rhi md k → (21 ≤ md → md ≤ 99 → D.1 81 k ≠ 4) → RepD K pl V D lo hi rlo rhi x md k → RepD K pl V E lo2 hi2 rlo2 rhi2 x md k := by
  intro x
  induction x with
  | nil => intro md k _ _ h; exact h
  | line => intro md k _ _ h; exact h
  | align _ => intro md k _ _ h; exact h
  | text _ => intro md k _ _ h; exact h
  | nest _ _ _ => intro md k _ _ h; exact h
  | group _ _ _ => intro md k _ _ h; exact h
  | tag c f ih =>
    intro md k hk h9 h
    unfold RepD at h ⊢
    by_cases c0 : md = 0
    · rw [if_pos c0] at h ⊢
      obtain ⟨q1, q2, q3, q4, q5⟩ := h
      exact ⟨by omega, by omega, q3, q4, ih c k ⟨fun _ _ => ⟨q1, q2⟩, fun q => by omega⟩ (fun _ _ => by omega) q5⟩
    rw [if_neg c0] at h ⊢
    by_cases c1 : md = 1 ∨ md = 2 ∨ md = 3
    · rw [if_pos c1] at h ⊢
      obtain ⟨q1, q2⟩ := hk.1 (by omega) (by omega)
      exact ⟨ndL_ag g q1 q2 h.1, h.2.1, by rw [g.1 83 k (by omega) (by omega) (by omega) q1 q2 (Or.inl (by omega))]; exact h.2.2.1, by rw [g.1 84 k (by omega) (by omega) (by omega) q1 q2 (Or.inr (L81 h.1 (by omega) (by omega)))]; exact h.2.2.2⟩
    rw [if_neg c1] at h ⊢
    by_cases c4 : md = 4
    · rw [if_pos c4] at h ⊢
      obtain ⟨q1, q2⟩ := hk.1 (by omega) (by omega)
      obtain ⟨i, e1, e2, e3⟩ := h.2
      refine ⟨ndL_ag g q1 q2 h.1, i, ?_, ?_, ih 101 i ⟨fun _ q => by omega, fun q => by omega⟩ (fun _ _ => by omega) e3⟩
      · rw [g.1 89 k (by omega) (by omega) (by omega) q1 q2 (Or.inl (by omega))]; exact e1
      · rw [g.1 90 k (by omega) (by omega) (by omega) q1 q2 (Or.inl (by omega))]; exact e2
    rw [if_neg c4] at h ⊢
    by_cases c8 : md = 8 ∨ md = 12
    · rw [if_pos c8] at h ⊢
      obtain ⟨q1, q2⟩ := hk.1 (by omega) (by omega)
      obtain ⟨i, e1, e2⟩ := h.2.2
      refine ⟨ndL_ag g q1 q2 h.1, by rw [g.1 84 k (by omega) (by omega) (by omega) q1 q2 (Or.inr (L81 h.1 (by omega) (by omega)))]; exact h.2.1, i, ?_, ih 0 i ⟨fun q => by omega, fun q => by omega⟩ (fun _ _ => by omega) e2⟩
      rw [g.1 83 k (by omega) (by omega) (by omega) q1 q2 (Or.inl (by omega))]; exact e1
    rw [if_neg c8] at h ⊢
    by_cases c11 : md = 11
    · rw [if_pos c11] at h ⊢
      obtain ⟨q1, q2⟩ := hk.1 (by omega) (by omega)
      obtain ⟨r1, ⟨i, e1, e2, e3, e4, e5, e6, e7⟩, r3⟩ := h
      refine ⟨ndL_ag g q1 q2 r1, ⟨i, ?_, by omega, by omega, ?_, ?_, ?_, ?_⟩, ih 31 k ⟨fun _ _ => ⟨q1, q2⟩, fun q => by omega⟩ (fun _ _ => L81 r1 (by omega) c4) r3⟩
      · rw [g.1 89 k (by omega) (by omega) (by omega) q1 q2 (Or.inl (by omega))]; exact e1
      · rw [(g.2.2 i (by omega) (by omega)).2.2]; exact e4
      · rw [(g.2.2 i (by omega) (by omega)).1]; exact e5
      · rw [(g.2.2 (i + 1) (by omega) (by omega)).2.2]; exact e6
      · rw [(g.2.2 (i + 1) (by omega) (by omega)).1]; exact e7
    rw [if_neg c11] at h ⊢
    by_cases c12 : md ≤ 12
    · rw [if_pos c12] at h ⊢
      obtain ⟨q1, q2⟩ := hk.1 (by omega) (by omega)
      exact ⟨ndL_ag g q1 q2 h.1, ih (20 + md) k ⟨fun _ _ => ⟨q1, q2⟩, fun q => by omega⟩ (fun _ _ => L81 h.1 (by omega) c4) h.2⟩
    rw [if_neg c12] at h ⊢
    by_cases c103 : md = 103
    · rw [if_pos c103] at h ⊢
      obtain ⟨q1, q2⟩ := hk.2 (Or.inl c103)
      obtain ⟨e1, e2, i, e3, e4⟩ := h
      obtain ⟨g1, g2, g3⟩ := g.2.2 k q1 q2
      refine ⟨by rw [g3]; exact e1, by rw [g1]; exact e2, i, by rw [g2]; exact e3, ih 0 i ⟨fun q => by omega, fun q => by omega⟩ (fun _ _ => by omega) e4⟩
    rw [if_neg c103] at h ⊢
    by_cases c104 : md = 104
    · rw [if_pos c104] at h ⊢
      obtain ⟨q1, q2⟩ := hk.2 (Or.inr c104)
      obtain ⟨i, e3, e4⟩ := h
      obtain ⟨g1, g2, g3⟩ := g.2.2 k q1 q2
      exact ⟨i, by rw [g2]; exact e3, ih 0 i ⟨fun q => by omega, fun q => by omega⟩ (fun _ _ => by omega) e4⟩
    rw [if_neg c104] at h
    exact h.elim
  | append x y ihx ihy =>
    intro md k hk h9 h
    unfold RepD at h ⊢
    have z0 : ∀ i : Nat, mdk lo hi rlo rhi 0 i := fun i => ⟨fun q => by omega, fun q => by omega⟩
    by_cases c1 : md = 25 ∨ md = 31
    · rw [if_pos c1] at h ⊢
      obtain ⟨q1, q2⟩ := hk.1 (by omega) (by omega)
      obtain ⟨k1, k2, e1, e2, e3, e4⟩ := h
      exact ⟨k1, k2, by rw [g.1 83 k (by omega) (by omega) (by omega) q1 q2 (Or.inl (by omega))]; exact e1, by rw [g.1 84 k (by omega) (by omega) (by omega) q1 q2 (Or.inr (h9 (by omega) (by omega)))]; exact e2, ihx 0 k1 (z0 k1) (fun _ _ => by omega) e3, ihy 0 k2 (z0 k2) (fun _ _ => by omega) e4⟩
    rw [if_neg c1] at h ⊢
    by_cases c2 : md = 29 ∨ md = 30
    · rw [if_pos c2] at h ⊢
      obtain ⟨q1, q2⟩ := hk.1 (by omega) (by omega)
      obtain ⟨k1, k2, e1, e2, e9, e3, e4⟩ := h
      have hb : lo ≤ k1 ∧ k1 < hi := by
        cases x with
        | tag c f => unfold RepD at e3; rw [if_pos rfl] at e3; exact ⟨e3.1, e3.2.1⟩
        | append a b => unfold RepD at e3; simp at e3
        | nil => unfold RepD at e3; omega
        | line => exact e3.elim
        | align _ => exact e3.elim
        | text _ => exact e3.elim
        | nest _ _ => exact e3.elim
        | group _ _ => exact e3.elim
      exact ⟨k1, k2, by rw [g.1 83 k (by omega) (by omega) (by omega) q1 q2 (Or.inl (by omega))]; exact e1, by rw [g.1 84 k (by omega) (by omega) (by omega) q1 q2 (Or.inr (h9 (by omega) (by omega)))]; exact e2, by rw [g.1 82 k (by omega) (by omega) (by omega) q1 q2 (Or.inl (by omega)), g.1 82 k1 (by omega) (by omega) (by omega) hb.1 hb.2 (Or.inl (by omega))]; exact e9, ihx 0 k1 (z0 k1) (fun _ _ => by omega) e3, ihy 0 k2 (z0 k2) (fun _ _ => by omega) e4⟩
    rw [if_neg c2] at h ⊢
    by_cases c3 : md = 26
    · rw [if_pos c3] at h ⊢
      obtain ⟨q1, q2⟩ := hk.1 (by omega) (by omega)
      obtain ⟨⟨k1, e1, e2⟩, e3⟩ := h
      exact ⟨⟨k1, by rw [g.1 83 k (by omega) (by omega) (by omega) q1 q2 (Or.inl (by omega))]; exact e1, ihx 0 k1 (z0 k1) (fun _ _ => by omega) e2⟩, ihy 46 k ⟨fun _ _ => ⟨q1, q2⟩, fun q => by omega⟩ (fun _ _ => h9 (by omega) (by omega)) e3⟩
    rw [if_neg c3] at h ⊢
    by_cases c4 : md = 46
    · rw [if_pos c4] at h ⊢
      obtain ⟨q1, q2⟩ := hk.1 (by omega) (by omega)
      obtain ⟨k1, k2, e1, e2, e3, e4⟩ := h
      exact ⟨k1, k2, by rw [g.1 84 k (by omega) (by omega) (by omega) q1 q2 (Or.inr (h9 (by omega) (by omega)))]; exact e1, by rw [g.1 85 k (by omega) (by omega) (by omega) q1 q2 (Or.inl (by omega))]; exact e2, ihx 0 k1 (z0 k1) (fun _ _ => by omega) e3, ihy 0 k2 (z0 k2) (fun _ _ => by omega) e4⟩
    rw [if_neg c4] at h ⊢
    by_cases c5 : md = 27
    · rw [if_pos c5] at h ⊢
      obtain ⟨q1, q2⟩ := hk.1 (by omega) (by omega)
      obtain ⟨⟨i, e1, e2, e3⟩, e4⟩ := h
      exact ⟨⟨i, by rw [g.1 89 k (by omega) (by omega) (by omega) q1 q2 (Or.inl (by omega))]; exact e1, by rw [g.1 90 k (by omega) (by omega) (by omega) q1 q2 (Or.inl (by omega))]; exact e2, ihx 102 i ⟨fun _ q => by omega, fun q => by omega⟩ (fun _ _ => by omega) e3⟩, ihy 47 k ⟨fun _ _ => ⟨q1, q2⟩, fun q => by omega⟩ (fun _ _ => h9 (by omega) (by omega)) e4⟩
    rw [if_neg c5] at h ⊢
    by_cases c6 : md = 47
    · rw [if_pos c6] at h ⊢
      obtain ⟨q1, q2⟩ := hk.1 (by omega) (by omega)
      obtain ⟨⟨k1, e1, e2⟩, e3⟩ := h
      exact ⟨⟨k1, by rw [g.1 83 k (by omega) (by omega) (by omega) q1 q2 (Or.inl (by omega))]; exact e1, ihx 0 k1 (z0 k1) (fun _ _ => by omega) e2⟩, ihy 67 k ⟨fun _ _ => ⟨q1, q2⟩, fun q => by omega⟩ (fun _ _ => h9 (by omega) (by omega)) e3⟩
    rw [if_neg c6] at h ⊢
    by_cases c7 : md = 67
    · rw [if_pos c7] at h ⊢
      obtain ⟨q1, q2⟩ := hk.1 (by omega) (by omega)
      obtain ⟨⟨i, e1, e2, e3⟩, k1, e4, e5⟩ := h
      exact ⟨⟨i, by rw [g.1 91 k (by omega) (by omega) (by omega) q1 q2 (Or.inl (by omega))]; exact e1, by rw [g.1 92 k (by omega) (by omega) (by omega) q1 q2 (Or.inl (by omega))]; exact e2, ihx 102 i ⟨fun _ q => by omega, fun q => by omega⟩ (fun _ _ => by omega) e3⟩, k1, by rw [g.1 84 k (by omega) (by omega) (by omega) q1 q2 (Or.inr (h9 (by omega) (by omega)))]; exact e4, ihy 0 k1 (z0 k1) (fun _ _ => by omega) e5⟩
    rw [if_neg c7] at h ⊢
    by_cases c8 : md = 101
    · rw [if_pos c8] at h ⊢
      obtain ⟨q1, q2, e2, e3⟩ := h
      exact ⟨by omega, by omega, ihx 104 k ⟨fun _ q => by omega, fun _ => ⟨q1, q2⟩⟩ (fun _ _ => by omega) e2, ihy 101 (k + 1) ⟨fun _ q => by omega, fun q => by omega⟩ (fun _ _ => by omega) e3⟩
    rw [if_neg c8] at h ⊢
    by_cases c9 : md = 102
    · rw [if_pos c9] at h ⊢
      obtain ⟨q1, q2, e2, e3⟩ := h
      exact ⟨by omega, by omega, ihx 103 k ⟨fun _ q => by omega, fun _ => ⟨q1, q2⟩⟩ (fun _ _ => by omega) e2, ihy 102 (k + 1) ⟨fun _ q => by omega, fun q => by omega⟩ (fun _ _ => by omega) e3⟩
    rw [if_neg c9] at h
    exact h.elim

