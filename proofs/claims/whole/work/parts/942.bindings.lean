/-! the reference reads rows of NAME = X; what it holds meanwhile, and how it lays it down -/
/-- the held list from i on -/
def HdB (K pl : Nat → Nat) (V : Nat → Int64) (m : Nat) (E : im_S) (bd : Bool) (lo hi rlo rhi : Nat) : TR → Nat → Prop
  | .append (.tag j x) r, i => (∃ t : Nat, t ≤ m ∧ E.1 132 i = nI t ∧ (bd = true → t = j)) ∧ (∃ k : Nat, k < 1200 ∧ E.1 133 i = nI k ∧ RepD K pl V E lo hi rlo rhi x 0 k) ∧ HdB K pl V m E bd lo hi rlo rhi r (i + 1)
  | .nil, _ => True
  | _, _ => False
section RBD
variable {K pl : Nat → Nat} {V : Nat → Int64} {m : Nat}
theorem HdB_mono {D E : im_S} {bd : Bool} {lo hi rlo rhi lo2 hi2 rlo2 rhi2 : Nat} (g : AgD D E lo hi rlo rhi) (h1 : lo2 ≤ lo) (h2 : hi ≤ hi2) (h3 : rlo2 ≤ rlo) (h4 : rhi ≤ rhi2) : ∀ (f : TR) (i : Nat), (∀ z, i ≤ z → z < i + tln f → E.1 132 z = D.1 132 z ∧ E.1 133 z = D.1 133 z) → HdB K pl V m D bd lo hi rlo rhi f i → HdB K pl V m E bd lo2 hi2 rlo2 rhi2 f i := by
  intro f
  induction f with
  | append b r _ ihr =>
    intro i hz h
    cases b with
    | tag j x =>
      unfold HdB at h ⊢
      obtain ⟨⟨t, t1, t2, t3⟩, ⟨k, k0, k1, k2⟩, h5⟩ := h
      have hz0 := hz i (Nat.le_refl _) (by show i < i + (tln r + 1); omega)
      refine ⟨⟨t, t1, by rw [hz0.1]; exact t2, t3⟩, ⟨k, k0, by rw [hz0.2]; exact k1, RepD_mono g h1 h2 h3 h4 x 0 k ⟨fun q => by omega, fun q => by omega⟩ k2⟩, ihr (i + 1) (fun z z1 z2 => hz z (by omega) (by show z < i + (tln r + 1); omega)) h5⟩
    | nil => exact h.elim
    | line => exact h.elim
    | align _ => exact h.elim
    | text _ => exact h.elim
    | nest _ _ => exact h.elim
    | append _ _ => exact h.elim
    | group _ _ => exact h.elim
  | nil => intro i _ h; exact h
  | line => intro i _ h; exact h
  | align _ => intro i _ h; exact h
  | text _ => intro i _ h; exact h
  | nest _ _ _ => intro i _ h; exact h
  | group _ _ _ => intro i _ h; exact h
  | tag _ _ _ => intro i _ h; exact h
/-- the held list becomes rows -/
theorem lay_rows (fu : Nat) {bd : Bool} {z1 z2 : Int32} {lo hi rlo rhi : Nat} : ∀ (f : TR) (i nf : Nat) (D : im_S) (pos dep n r h : Nat), HdB K pl V m D bd lo hi rlo rhi f i → Rd K pl V m D pos dep n r h → i + tln f = h → h ≤ 502 → tln f < nf → hi ≤ n → rhi ≤ r → K 1000 ≤ r → r + tln f < K 1000 + 600 → K 1000 ≤ 600 →
    ∃ E : im_S, f_X11_layRow_L12 fu nf z1 z2 (nI i) D = some (z2, uI E 75 78 (nI h - z1)) ∧ Rd K pl V m E pos dep n (r + tln f) h ∧ Kpt D E n r h ∧ (∀ c k, 81 ≤ c → c ≤ 92 → E.1 c k = D.1 c k) ∧ (rlo ≤ r → RepD K pl V E lo hi rlo (r + tln f) f (if bd = true then 102 else 101) r) := by
  intro f
  induction f with
  | append b rr _ ihr =>
    intro i nf D pos dep n r h hd H hi1 hh hnf l1 l2 l0 l3 l4
    obtain ⟨nf, rfl⟩ : ∃ z, nf = z + 1 := ⟨nf - 1, by omega⟩
    cases b with
    | tag j x =>
      have tl : tln (.append (.tag j x) rr) = tln rr + 1 := rfl
      rw [tl] at hi1 hnf l3 ⊢
      unfold HdB at hd
      obtain ⟨⟨t, t1, t2, t3⟩, ⟨k, k0, k1, k2⟩, h5⟩ := hd
      have hm := H.2.1
      have kp := ar_kp D n r h (V t) (nI (pl t)) (nI k)
      have Ha := Rd_ar H ⟨l0, by omega⟩ (V t) (nI (pl t)) (nI k)
      obtain ⟨u1, u2, u3⟩ := ar_f D r (V t) (nI (pl t)) (nI k)
      have ag : AgD D (arD D r (V t) (nI (pl t)) (nI k)) lo hi rlo rhi := ⟨fun a i p q _ s => kp.1 a i p q (by omega), fun i _ s => kp.2.1 i (by omega), fun i _ s => kp.2.2.1 i (by omega)⟩
      have a81 : ∀ c k', 81 ≤ c → c ≤ 92 → (arD D r (V t) (nI (pl t)) (nI k)).1 c k' = D.1 c k' := by
        intro c k' c1 c2
        unfold arD
        rw [uI_at, if_neg (by omega), uI_at, if_neg (by omega), uI_at, if_neg (by omega), uJ_1]
      have hd2 : HdB K pl V m (arD D r (V t) (nI (pl t)) (nI k)) bd lo hi rlo rhi rr (i + 1) := HdB_mono ag (Nat.le_refl _) (Nat.le_refl _) (Nat.le_refl _) (Nat.le_refl _) rr (i + 1) (fun z z1 z2 => kp.2.2.2 z (by omega)) h5
      obtain ⟨E, e1, e2, e3, e4, e5⟩ := ihr (i + 1) nf (arD D r (V t) (nI (pl t)) (nI k)) pos dep n (r + 1) h hd2 Ha (by omega) hh (by omega) l1 (by omega) (by omega) (by omega) l4
      refine ⟨E, ?_, ?_, Kpt_trans kp e3 (Nat.le_refl _) (by omega) (Nat.le_refl _), fun c k' c1 c2 => (e4 c k' c1 c2).trans (a81 c k' c1 c2), fun hrl => ?_⟩
      · rw [f_X11_layRow_L12, H.hld, if_neg (fun q => by have := (mI_le (a := h) (b := i) (by omega) (by omega)).mp q; omega), mI_in (a := i) (n := 502) (by omega) (by omega), nI_clamp (by omega), t2, k1, rd_addRow H (by omega) t1]
        show f_X11_layRow_L12 fu nf z1 z2 (nI i + 1) (arD D r (V t) (nI (pl t)) (nI k)) = _
        rw [show nI i + 1 = nI (i + 1) from nI_add i 1]
        exact e1
      · rw [show r + (tln rr + 1) = r + 1 + tln rr by omega]; exact e2
      · have g3 := e3.2.2.1 r (by omega)
        have rx : RepD K pl V E lo hi rlo (r + (tln rr + 1)) x 0 k := RepD_mono (D := D) (rlo := rlo) (rhi := rhi) ⟨fun a i p q _ s => by rw [e4 a i p q, a81 a i p q], fun i _ s => by rw [e3.2.1 i (by omega), kp.2.1 i (by omega)], fun i _ s => by have a1 := e3.2.2.1 i (by omega); have a2 := kp.2.2.1 i (by omega); exact ⟨a1.1.trans a2.1, a1.2.1.trans a2.2.1, a1.2.2.trans a2.2.2⟩⟩ (Nat.le_refl _) (Nat.le_refl _) (Nat.le_refl _) (by omega) x 0 k ⟨fun q => by omega, fun q => by omega⟩ k2
        have rr2 := e5 (by omega)
        rw [show r + 1 + tln rr = r + (tln rr + 1) by omega] at rr2
        cases bd with
        | true =>
          have tj := t3 rfl
          subst tj
          simp only [RepD]
          simp
          refine ⟨hrl, ⟨?_, ?_, k, ?_, rx⟩, rr2⟩
          · rw [g3.2.2]; exact u1
          · rw [g3.1]; exact u2
          · rw [g3.2.1]; exact u3
        | false =>
          simp only [RepD]
          simp
          refine ⟨hrl, ⟨k, ?_, rx⟩, rr2⟩
          rw [g3.2.1]; exact u3
    | nil => exact hd.elim
    | line => exact hd.elim
    | align _ => exact hd.elim
    | text _ => exact hd.elim
    | nest _ _ => exact hd.elim
    | append _ _ => exact hd.elim
    | group _ _ => exact hd.elim
  | nil =>
    intro i nf D pos dep n r h hd H hi1 hh hnf l1 l2 l0 l3 l4
    obtain ⟨nf, rfl⟩ : ∃ z, nf = z + 1 := ⟨nf - 1, by omega⟩
    have tl : tln .nil = 0 := rfl
    rw [tl] at hi1
    refine ⟨D, ?_, H, Kpt_refl _ _ _ _, fun _ _ _ _ => rfl, fun _ => ?_⟩
    · rw [f_X11_layRow_L12, H.hld, if_pos ((mI_le (a := h) (b := i) (by omega) (by omega)).mpr (by omega))]
    · cases bd with
      | true => exact Or.inr rfl
      | false => exact Or.inl rfl
  | line => intro i nf D pos dep n r h hd; exact hd.elim
  | align _ => intro i nf D pos dep n r h hd; exact hd.elim
  | text _ => intro i nf D pos dep n r h hd; exact hd.elim
  | nest _ _ _ => intro i nf D pos dep n r h hd; exact hd.elim
  | group _ _ _ => intro i nf D pos dep n r h hd; exact hd.elim
  | tag _ _ _ => intro i nf D pos dep n r h hd; exact hd.elim
end RBD
