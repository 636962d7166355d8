/-! how the reference's arrays hold a tree: nodes lo .. hi - 1, rows rlo .. rhi - 1 -/
def tln : TR → Nat
  | .append _ r => tln r + 1
  | _ => 0
/-- the fields of a node of label c, token j, at k, but for its children -/
def ndD (K pl : Nat → Nat) (V : Nat → Int64) (D : im_S) (c j k : Nat) : Prop :=
  D.1 81 k = nI c ∧ (c ≠ 9 → c ≠ 10 → D.1 82 k = nI (pl j)) ∧ (c = 1 ∨ c = 3 ∨ c = 4 → D.2.1 87 k = V j) ∧ (c = 2 → D.2.1 87 k = if K j = 15 then 1 else 0) ∧ (c = 5 → D.2.1 87 k = V (j + 1) ∧ D.1 86 k = nI (pl (j + 1))) ∧ (c = 8 ∨ c = 9 → D.1 86 k = nI (K j))
def RepD (K pl : Nat → Nat) (V : Nat → Int64) (D : im_S) (lo hi rlo rhi : Nat) : TR → Nat → Nat → Prop
  | .nil, md, _ => md = 101 ∨ md = 102
  | .tag c f, md, k =>
    if md = 0 then lo ≤ k ∧ k < hi ∧ 1 ≤ c ∧ c ≤ 12 ∧ RepD K pl V D lo hi rlo rhi f c k
    else if md = 1 ∨ md = 2 ∨ md = 3 then ndD K pl V D md c k ∧ f = .nil ∧ D.1 83 k = -1 ∧ D.1 84 k = -1
    else if md = 4 then ndD K pl V D md c k ∧ (∃ i : Nat, D.1 89 k = nI i ∧ D.1 90 k = nI (tln f) ∧ RepD K pl V D lo hi rlo rhi f 101 i)
    else if md = 8 ∨ md = 12 then ndD K pl V D md c k ∧ D.1 84 k = -1 ∧ (∃ k1 : Nat, D.1 83 k = nI k1 ∧ RepD K pl V D lo hi rlo rhi f 0 k1)
    else if md = 11 then ndD K pl V D md c k ∧ (∃ i : Nat, D.1 89 k = nI i ∧ rlo ≤ i ∧ i + 1 < rhi ∧ D.2.1 93 i = V (c + 1) ∧ D.1 94 i = nI (pl (c + 1)) ∧ D.2.1 93 (i + 1) = V (c + 3) ∧ D.1 94 (i + 1) = nI (pl (c + 3))) ∧ RepD K pl V D lo hi rlo rhi f 31 k
    else if md ≤ 12 then ndD K pl V D md c k ∧ RepD K pl V D lo hi rlo rhi f (20 + md) k
    else if md = 103 then D.2.1 93 k = V c ∧ D.1 94 k = nI (pl c) ∧ (∃ k1 : Nat, D.1 95 k = nI k1 ∧ RepD K pl V D lo hi rlo rhi f 0 k1)
    else if md = 104 then ∃ k1 : Nat, D.1 95 k = nI k1 ∧ RepD K pl V D lo hi rlo rhi f 0 k1
    else False
  | .append x y, md, k =>
    if md = 25 ∨ md = 31 then ∃ k1 k2 : Nat, D.1 83 k = nI k1 ∧ D.1 84 k = nI k2 ∧ RepD K pl V D lo hi rlo rhi x 0 k1 ∧ RepD K pl V D lo hi rlo rhi y 0 k2
    else if md = 29 ∨ md = 30 then ∃ k1 k2 : Nat, D.1 83 k = nI k1 ∧ D.1 84 k = nI k2 ∧ D.1 82 k = D.1 82 k1 ∧ RepD K pl V D lo hi rlo rhi x 0 k1 ∧ RepD K pl V D lo hi rlo rhi y 0 k2
    else if md = 26 then (∃ k1 : Nat, D.1 83 k = nI k1 ∧ RepD K pl V D lo hi rlo rhi x 0 k1) ∧ RepD K pl V D lo hi rlo rhi y 46 k
    else if md = 46 then ∃ k1 k2 : Nat, D.1 84 k = nI k1 ∧ D.1 85 k = nI k2 ∧ RepD K pl V D lo hi rlo rhi x 0 k1 ∧ RepD K pl V D lo hi rlo rhi y 0 k2
    else if md = 27 then (∃ i : Nat, D.1 89 k = nI i ∧ D.1 90 k = nI (tln x) ∧ RepD K pl V D lo hi rlo rhi x 102 i) ∧ RepD K pl V D lo hi rlo rhi y 47 k
    else if md = 47 then (∃ k1 : Nat, D.1 83 k = nI k1 ∧ RepD K pl V D lo hi rlo rhi x 0 k1) ∧ RepD K pl V D lo hi rlo rhi y 67 k
    else if md = 67 then (∃ i : Nat, D.1 91 k = nI i ∧ D.1 92 k = nI (tln x) ∧ RepD K pl V D lo hi rlo rhi x 102 i) ∧ (∃ k1 : Nat, D.1 84 k = nI k1 ∧ RepD K pl V D lo hi rlo rhi y 0 k1)
    else if md = 101 then rlo ≤ k ∧ k < rhi ∧ RepD K pl V D lo hi rlo rhi x 104 k ∧ RepD K pl V D lo hi rlo rhi y 101 (k + 1)
    else if md = 102 then rlo ≤ k ∧ k < rhi ∧ RepD K pl V D lo hi rlo rhi x 103 k ∧ RepD K pl V D lo hi rlo rhi y 102 (k + 1)
    else False
  | _, _, _ => False
/-- two states hold the same nodes lo .. hi - 1 and rows rlo .. rhi - 1 -/
def AgD (D E : im_S) (lo hi rlo rhi : Nat) : Prop := (∀ a i : Nat, 81 ≤ a → a ≤ 92 → lo ≤ i → i < hi → E.1 a i = D.1 a i) ∧ (∀ i : Nat, lo ≤ i → i < hi → E.2.1 87 i = D.2.1 87 i) ∧ ∀ i : Nat, rlo ≤ i → i < rhi → E.1 94 i = D.1 94 i ∧ E.1 95 i = D.1 95 i ∧ E.2.1 93 i = D.2.1 93 i
theorem ndD_ag {K pl : Nat → Nat} {V : Nat → Int64} {D E : im_S} {lo hi rlo rhi c j k : Nat} (g : AgD D E lo hi rlo rhi) (h1 : lo ≤ k) (h2 : k < hi) (h : ndD K pl V D c j k) : ndD K pl V E c j k := by
  unfold ndD at h ⊢
  rw [g.1 81 k (by omega) (by omega) h1 h2, g.1 82 k (by omega) (by omega) h1 h2, g.1 86 k (by omega) (by omega) h1 h2, g.2.1 k h1 h2]
  exact h
/-- what a part of a tree at k owes of k -/
def mdk (lo hi rlo rhi md k : Nat) : Prop := (1 ≤ md → md ≤ 99 → lo ≤ k ∧ k < hi) ∧ (md = 103 ∨ md = 104 → rlo ≤ k ∧ k < rhi)
theorem RepD_mono {K pl : Nat → Nat} {V : Nat → Int64} {D E : im_S} {lo hi rlo rhi lo2 hi2 rlo2 rhi2 : Nat} (g : AgD D E lo hi rlo rhi) (h1 : lo2 ≤ lo) (h2 : hi ≤ hi2) (h3 : rlo2 ≤ rlo) (h4 : rhi ≤ rhi2) : ∀ (x : TR) (md k : Nat), mdk lo hi rlo rhi md k → RepD K pl V D lo hi rlo rhi x md k → RepD K pl V E lo2 hi2 rlo2 rhi2 x md k := by
  intro x
  induction x with
  | nil => intro md k _ h; exact h
  | line => intro md k _ h; exact h
  | align _ => intro md k _ h; exact h
  | text _ => intro md k _ h; exact h
  | nest _ _ _ => intro md k _ h; exact h
  | group _ _ _ => intro md k _ h; exact h
  | tag c f ih =>
    intro md k hk h
    unfold RepD at h ⊢
    by_cases c0 : md = 0
    · rw [if_pos c0] at h ⊢
      obtain ⟨q1, q2, q3, q4, q5⟩ := h
      exact ⟨by omega, by omega, q3, q4, ih c k ⟨fun _ _ => ⟨q1, q2⟩, fun q => by omega⟩ q5⟩
    rw [if_neg c0] at h ⊢
    by_cases c1 : md = 1 ∨ md = 2 ∨ md = 3
    · rw [if_pos c1] at h ⊢
      obtain ⟨q1, q2⟩ := hk.1 (by omega) (by omega)
      exact ⟨ndD_ag g q1 q2 h.1, h.2.1, by rw [g.1 83 k (by omega) (by omega) q1 q2]; exact h.2.2.1, by rw [g.1 84 k (by omega) (by omega) q1 q2]; exact h.2.2.2⟩
    rw [if_neg c1] at h ⊢
    by_cases c4 : md = 4
    · rw [if_pos c4] at h ⊢
      obtain ⟨q1, q2⟩ := hk.1 (by omega) (by omega)
      obtain ⟨i, e1, e2, e3⟩ := h.2
      refine ⟨ndD_ag g q1 q2 h.1, i, ?_, ?_, ih 101 i ⟨fun _ q => by omega, fun q => by omega⟩ e3⟩
      · rw [g.1 89 k (by omega) (by omega) q1 q2]; exact e1
      · rw [g.1 90 k (by omega) (by omega) q1 q2]; exact e2
    rw [if_neg c4] at h ⊢
    by_cases c8 : md = 8 ∨ md = 12
    · rw [if_pos c8] at h ⊢
      obtain ⟨q1, q2⟩ := hk.1 (by omega) (by omega)
      obtain ⟨i, e1, e2⟩ := h.2.2
      refine ⟨ndD_ag g q1 q2 h.1, by rw [g.1 84 k (by omega) (by omega) q1 q2]; exact h.2.1, i, ?_, ih 0 i ⟨fun q => by omega, fun q => by omega⟩ e2⟩
      rw [g.1 83 k (by omega) (by omega) q1 q2]; exact e1
    rw [if_neg c8] at h ⊢
    by_cases c11 : md = 11
    · rw [if_pos c11] at h ⊢
      obtain ⟨q1, q2⟩ := hk.1 (by omega) (by omega)
      obtain ⟨r1, ⟨i, e1, e2, e3, e4, e5, e6, e7⟩, r3⟩ := h
      refine ⟨ndD_ag g q1 q2 r1, ⟨i, ?_, by omega, by omega, ?_, ?_, ?_, ?_⟩, ih 31 k ⟨fun _ _ => ⟨q1, q2⟩, fun q => by omega⟩ r3⟩
      · rw [g.1 89 k (by omega) (by omega) q1 q2]; exact e1
      · rw [(g.2.2 i (by omega) (by omega)).2.2]; exact e4
      · rw [(g.2.2 i (by omega) (by omega)).1]; exact e5
      · rw [(g.2.2 (i + 1) (by omega) (by omega)).2.2]; exact e6
      · rw [(g.2.2 (i + 1) (by omega) (by omega)).1]; exact e7
    rw [if_neg c11] at h ⊢
    by_cases c12 : md ≤ 12
    · rw [if_pos c12] at h ⊢
      obtain ⟨q1, q2⟩ := hk.1 (by omega) (by omega)
      exact ⟨ndD_ag g q1 q2 h.1, ih (20 + md) k ⟨fun _ _ => ⟨q1, q2⟩, fun q => by omega⟩ h.2⟩
    rw [if_neg c12] at h ⊢
    by_cases c103 : md = 103
    · rw [if_pos c103] at h ⊢
      obtain ⟨q1, q2⟩ := hk.2 (Or.inl c103)
      obtain ⟨e1, e2, i, e3, e4⟩ := h
      obtain ⟨g1, g2, g3⟩ := g.2.2 k q1 q2
      refine ⟨by rw [g3]; exact e1, by rw [g1]; exact e2, i, by rw [g2]; exact e3, ih 0 i ⟨fun q => by omega, fun q => by omega⟩ e4⟩
    rw [if_neg c103] at h ⊢
    by_cases c104 : md = 104
    · rw [if_pos c104] at h ⊢
      obtain ⟨q1, q2⟩ := hk.2 (Or.inr c104)
      obtain ⟨i, e3, e4⟩ := h
      obtain ⟨g1, g2, g3⟩ := g.2.2 k q1 q2
      exact ⟨i, by rw [g2]; exact e3, ih 0 i ⟨fun q => by omega, fun q => by omega⟩ e4⟩
    rw [if_neg c104] at h
    exact h.elim
  | append x y ihx ihy =>
    intro md k hk h
    unfold RepD at h ⊢
    have z0 : ∀ i : Nat, mdk lo hi rlo rhi 0 i := fun i => ⟨fun q => by omega, fun q => by omega⟩
    by_cases c1 : md = 25 ∨ md = 31
    · rw [if_pos c1] at h ⊢
      obtain ⟨q1, q2⟩ := hk.1 (by omega) (by omega)
      obtain ⟨k1, k2, e1, e2, e3, e4⟩ := h
      exact ⟨k1, k2, by rw [g.1 83 k (by omega) (by omega) q1 q2]; exact e1, by rw [g.1 84 k (by omega) (by omega) q1 q2]; exact e2, ihx 0 k1 (z0 k1) e3, ihy 0 k2 (z0 k2) e4⟩
    rw [if_neg c1] at h ⊢
    by_cases c2 : md = 29 ∨ md = 30
    · rw [if_pos c2] at h ⊢
      obtain ⟨q1, q2⟩ := hk.1 (by omega) (by omega)
      obtain ⟨k1, k2, e1, e2, e9, e3, e4⟩ := h
      have hb : lo ≤ k1 ∧ k1 < hi := by
        cases x with
        | tag c f => unfold RepD at e3; rw [if_pos rfl] at e3; exact ⟨e3.1, e3.2.1⟩
        | append a b => unfold RepD at e3; simp at e3
        | nil => unfold RepD at e3; omega
        | line => exact e3.elim
        | align _ => exact e3.elim
        | text _ => exact e3.elim
        | nest _ _ => exact e3.elim
        | group _ _ => exact e3.elim
      exact ⟨k1, k2, by rw [g.1 83 k (by omega) (by omega) q1 q2]; exact e1, by rw [g.1 84 k (by omega) (by omega) q1 q2]; exact e2, by rw [g.1 82 k (by omega) (by omega) q1 q2, g.1 82 k1 (by omega) (by omega) hb.1 hb.2]; exact e9, ihx 0 k1 (z0 k1) e3, ihy 0 k2 (z0 k2) e4⟩
    rw [if_neg c2] at h ⊢
    by_cases c3 : md = 26
    · rw [if_pos c3] at h ⊢
      obtain ⟨q1, q2⟩ := hk.1 (by omega) (by omega)
      obtain ⟨⟨k1, e1, e2⟩, e3⟩ := h
      exact ⟨⟨k1, by rw [g.1 83 k (by omega) (by omega) q1 q2]; exact e1, ihx 0 k1 (z0 k1) e2⟩, ihy 46 k ⟨fun _ _ => ⟨q1, q2⟩, fun q => by omega⟩ e3⟩
    rw [if_neg c3] at h ⊢
    by_cases c4 : md = 46
    · rw [if_pos c4] at h ⊢
      obtain ⟨q1, q2⟩ := hk.1 (by omega) (by omega)
      obtain ⟨k1, k2, e1, e2, e3, e4⟩ := h
      exact ⟨k1, k2, by rw [g.1 84 k (by omega) (by omega) q1 q2]; exact e1, by rw [g.1 85 k (by omega) (by omega) q1 q2]; exact e2, ihx 0 k1 (z0 k1) e3, ihy 0 k2 (z0 k2) e4⟩
    rw [if_neg c4] at h ⊢
    by_cases c5 : md = 27
    · rw [if_pos c5] at h ⊢
      obtain ⟨q1, q2⟩ := hk.1 (by omega) (by omega)
      obtain ⟨⟨i, e1, e2, e3⟩, e4⟩ := h
      exact ⟨⟨i, by rw [g.1 89 k (by omega) (by omega) q1 q2]; exact e1, by rw [g.1 90 k (by omega) (by omega) q1 q2]; exact e2, ihx 102 i ⟨fun _ q => by omega, fun q => by omega⟩ e3⟩, ihy 47 k ⟨fun _ _ => ⟨q1, q2⟩, fun q => by omega⟩ e4⟩
    rw [if_neg c5] at h ⊢
    by_cases c6 : md = 47
    · rw [if_pos c6] at h ⊢
      obtain ⟨q1, q2⟩ := hk.1 (by omega) (by omega)
      obtain ⟨⟨k1, e1, e2⟩, e3⟩ := h
      exact ⟨⟨k1, by rw [g.1 83 k (by omega) (by omega) q1 q2]; exact e1, ihx 0 k1 (z0 k1) e2⟩, ihy 67 k ⟨fun _ _ => ⟨q1, q2⟩, fun q => by omega⟩ e3⟩
    rw [if_neg c6] at h ⊢
    by_cases c7 : md = 67
    · rw [if_pos c7] at h ⊢
      obtain ⟨q1, q2⟩ := hk.1 (by omega) (by omega)
      obtain ⟨⟨i, e1, e2, e3⟩, k1, e4, e5⟩ := h
      exact ⟨⟨i, by rw [g.1 91 k (by omega) (by omega) q1 q2]; exact e1, by rw [g.1 92 k (by omega) (by omega) q1 q2]; exact e2, ihx 102 i ⟨fun _ q => by omega, fun q => by omega⟩ e3⟩, k1, by rw [g.1 84 k (by omega) (by omega) q1 q2]; exact e4, ihy 0 k1 (z0 k1) e5⟩
    rw [if_neg c7] at h ⊢
    by_cases c8 : md = 101
    · rw [if_pos c8] at h ⊢
      obtain ⟨q1, q2, e2, e3⟩ := h
      exact ⟨by omega, by omega, ihx 104 k ⟨fun _ q => by omega, fun _ => ⟨q1, q2⟩⟩ e2, ihy 101 (k + 1) ⟨fun _ q => by omega, fun q => by omega⟩ e3⟩
    rw [if_neg c8] at h ⊢
    by_cases c9 : md = 102
    · rw [if_pos c9] at h ⊢
      obtain ⟨q1, q2, e2, e3⟩ := h
      exact ⟨by omega, by omega, ihx 103 k ⟨fun _ q => by omega, fun _ => ⟨q1, q2⟩⟩ e2, ihy 102 (k + 1) ⟨fun _ q => by omega, fun q => by omega⟩ e3⟩
    rw [if_neg c9] at h
    exact h.elim
