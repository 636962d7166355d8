/-! a program's functions: what lies where -/
def PW (K : Nat → Nat) : TR → Nat → Nat → Prop
  | .append (.tag p (.append (.tag cnt .nil) x)) r, p0, e => p = p0 ∧ K p = 1 ∧ cnt ≤ 4 ∧ (∀ z, z < cnt → K (p + 2 + 2 * z) = 1) ∧ ∃ b e0, Wt K x b e0 0 ∧ p + 4 + 2 * cnt ≤ b + 1 ∧ ((r = .nil ∧ e0 + 1 = e) ∨ (r ≠ .nil ∧ PW K r (e0 + 1) e))
  | _, _, _ => False
section PGW
variable {K pl : Nat → Nat} {V : Nat → Int64} {m : Nat}
theorem pPa_W : ∀ (q n p b : Nat) (t : TR), pPa K q n p = (b, some t) → n ≤ 4 → ∃ k, t = .tag k .nil ∧ n < k ∧ k ≤ 4 ∧ b + 1 = p + 2 * (k - n) ∧ ∀ z, z < k - n → K (p + 2 * z) = 1 := by
  intro q
  induction q with
  | zero => intro n p b t h; cases h
  | succ q ih =>
    intro n p b t h hn
    rw [pPa] at h
    by_cases h4 : n = 4
    · rw [if_pos h4] at h; cases h
    rw [if_neg h4] at h
    by_cases h1 : K p = 1
    · rw [if_pos h1] at h
      by_cases h2 : K (p + 1) = 44
      · rw [if_pos h2] at h
        obtain ⟨k, k1, k2, k3, k4, k5⟩ := ih _ _ _ _ h (by omega)
        refine ⟨k, k1, by omega, k3, by omega, fun z hz => ?_⟩
        cases z with
        | zero => exact h1
        | succ z => rw [show p + 2 * (z + 1) = p + 2 + 2 * z by omega]; exact k5 z (by omega)
      · rw [if_neg h2] at h
        cases h
        refine ⟨n + 1, rfl, by omega, by omega, by omega, fun z hz => ?_⟩
        rw [show z = 0 by omega]; exact h1
    · rw [if_neg h1] at h; cases h
theorem pT_W {q b e : Nat} {x : TR} (h : pT K q b = (e, some x)) : ∃ e0, Wt K x (b + 1) e0 0 ∧ e0 + 1 = e := by
  unfold pT at h
  obtain ⟨-, h⟩ := pw_inv h
  obtain ⟨e0, y, h1, h⟩ := pbd_inv h
  obtain ⟨-, h⟩ := pw_inv h
  cases h
  exact ⟨e0, ((pX_W K q 0) _ _ _ h1).1, rfl⟩
theorem pF_W {q p e : Nat} {t : TR} (h : pF K q p = (e, some t)) : ∃ cnt x b e0, t = .tag p (.append (.tag cnt .nil) x) ∧ K p = 1 ∧ cnt ≤ 4 ∧ (∀ z, z < cnt → K (p + 2 + 2 * z) = 1) ∧ Wt K x b e0 0 ∧ p + 4 + 2 * cnt ≤ b + 1 ∧ e0 + 1 = e := by
  unfold pF at h
  obtain ⟨k1, h⟩ := pw_inv h
  obtain ⟨-, h⟩ := pw_inv h
  by_cases h2 : K (p + 2) = 41
  · rw [if_pos h2] at h
    obtain ⟨e1, x, h3, h⟩ := pbd_inv h
    cases h
    obtain ⟨e0, w, he⟩ := pT_W h3
    exact ⟨0, x, p + 3 + 1, e0, rfl, k1, by omega, fun z hz => by omega, w, by omega, he⟩
  · rw [if_neg h2] at h
    obtain ⟨e1, y, h3, h⟩ := pbd_inv h
    cases h
    unfold pL at h3
    obtain ⟨b, t, h4, h3⟩ := pbd_inv h3
    obtain ⟨-, h3⟩ := pw_inv h3
    obtain ⟨e2, x, h5, h3⟩ := pbd_inv h3
    cases h3
    obtain ⟨k, rfl, u1, u2, u3, u4⟩ := pPa_W _ _ _ _ _ h4 (by omega)
    obtain ⟨e0, w, he⟩ := pT_W h5
    exact ⟨k, x, b + 1 + 1, e0, rfl, k1, u2, fun z hz => u4 z (by omega), w, by omega, he⟩
theorem pP_W {q : Nat} : ∀ (t c p e : Nat) (y : TR), pP K q t c p = (e, some y) → PW K y p e := by
  intro t
  induction t with
  | zero => intro c p e y h; cases h
  | succ t ih =>
    intro c p e y h
    rw [pP] at h
    by_cases h8 : c = 8
    · rw [if_pos h8] at h; cases h
    rw [if_neg h8] at h
    obtain ⟨e1, f, h1, h⟩ := pbd_inv h
    obtain ⟨cnt, x, b, e0, rfl, k1, k2, k3, w, k4, k5⟩ := pF_W h1
    by_cases h0 : K e1 = 0
    · rw [if_pos h0] at h
      cases h
      exact ⟨rfl, k1, k2, k3, b, e0, w, k4, Or.inl ⟨rfl, k5⟩⟩
    · rw [if_neg h0] at h
      obtain ⟨e2, r, h2, h⟩ := pbd_inv h
      cases h
      refine ⟨rfl, k1, k2, k3, b, e0, w, k4, Or.inr ⟨?_, ?_⟩⟩
      · intro hr
        rw [hr] at h2
        have := ih _ _ _ _ h2
        exact this
      · rw [k5]; exact ih _ _ _ _ h2
/-- all functions -/
def FA (P : Nat → Nat → Nat → TR → Prop) : TR → Nat → Prop
  | .append (.tag p (.append (.tag cnt _) x)) r, c => P c p cnt x ∧ FA P r (c + 1)
  | _, _ => True
theorem PW_ind {P : TR → Nat → Nat → Prop} (h1 : ∀ p cnt x b e0, K p = 1 → cnt ≤ 4 → (∀ z, z < cnt → K (p + 2 + 2 * z) = 1) → Wt K x b e0 0 → p + 4 + 2 * cnt ≤ b + 1 → P (.append (.tag p (.append (.tag cnt .nil) x)) .nil) p (e0 + 1))
    (h2 : ∀ p cnt x r b e0 e, K p = 1 → cnt ≤ 4 → (∀ z, z < cnt → K (p + 2 + 2 * z) = 1) → Wt K x b e0 0 → p + 4 + 2 * cnt ≤ b + 1 → r ≠ .nil → PW K r (e0 + 1) e → P r (e0 + 1) e → P (.append (.tag p (.append (.tag cnt .nil) x)) r) p e) : ∀ (s : Nat) (y : TR) (p e : Nat), tsz y ≤ s → PW K y p e → P y p e := by
  intro s
  induction s with
  | zero => intro y p e hs; cases y <;> simp [tsz] at hs
  | succ s ih =>
    intro y p e hs w
    unfold PW at w
    split at w
    · obtain ⟨rfl, k1, k2, k3, b, e0, w1, k4, h⟩ := w
      rcases h with ⟨rfl, rfl⟩ | ⟨hr, w2⟩
      · exact h1 _ _ _ _ _ k1 k2 k3 w1 k4
      · exact h2 _ _ _ _ _ _ _ k1 k2 k3 w1 k4 hr w2 (ih _ _ _ (by simp only [tsz] at hs; omega) w2)
    · exact w.elim
theorem PW_lt {y : TR} {p e : Nat} (w : PW K y p e) : p < e := by
  refine PW_ind (K := K) (P := fun y p e => p < e) ?_ ?_ (tsz y) y p e (Nat.le_refl _) w
  · intro p cnt x b e0 _ _ _ w1 h; have := Wt_lt w1; omega
  · intro p cnt x r b e0 e _ _ _ w1 h _ _ ih; have := Wt_lt w1; omega
theorem FA_mp {P Q : Nat → Nat → Nat → TR → Prop} (h : ∀ c p cnt x, P c p cnt x → Q c p cnt x) : ∀ (s : Nat) (y : TR) (c : Nat), tsz y ≤ s → FA P y c → FA Q y c := by
  intro s
  induction s with
  | zero => intro y c hs; cases y <;> simp [tsz] at hs
  | succ s ih =>
    intro y c hs w
    unfold FA at w ⊢
    split at w
    · exact ⟨h _ _ _ _ w.1, ih _ _ (by simp only [tsz] at hs; omega) w.2⟩
    · trivial
/-- numbers for all own tokens of a program -/
theorem nu_P {D : im_S} {lo hi rlo rhi : Nat} {y : TR} {p e : Nat} (w : PW K y p e) : ∀ f, RpF K pl V D lo hi rlo rhi y f → ∃ ν : Nat → Nat, FA (fun c p cnt x => OKs K pl V D lo hi rlo rhi ν x ∧ D.1 102 c = nI (ν (otk x))) y f := by
  have mono : ∀ (y : TR) (p e : Nat), PW K y p e → ∀ (ν ν' : Nat → Nat) (f : Nat), (∀ i, p ≤ i → i < e → ν' i = ν i) → FA (fun c p cnt x => OKs K pl V D lo hi rlo rhi ν x ∧ D.1 102 c = nI (ν (otk x))) y f → FA (fun c p cnt x => OKs K pl V D lo hi rlo rhi ν' x ∧ D.1 102 c = nI (ν' (otk x))) y f := by
    intro y p e w
    refine PW_ind (K := K) (P := fun y p e => ∀ (ν ν' : Nat → Nat) (f : Nat), (∀ i, p ≤ i → i < e → ν' i = ν i) → FA (fun c p cnt x => OKs K pl V D lo hi rlo rhi ν x ∧ D.1 102 c = nI (ν (otk x))) y f → FA (fun c p cnt x => OKs K pl V D lo hi rlo rhi ν' x ∧ D.1 102 c = nI (ν' (otk x))) y f) ?_ ?_ (tsz y) y p e (Nat.le_refl _) w
    · intro p cnt x b e0 _ _ _ w1 h ν ν' f ha hf
      have := Wt_ot w1
      refine ⟨⟨(OK_cp w1 ν ν' (fun i q1 q2 => ha i (by omega) (by omega))).1 hf.1.1, ?_⟩, trivial⟩
      rw [ha _ (by omega) (by omega)]; exact hf.1.2
    · intro p cnt x r b e0 e _ _ _ w1 h _ w2 ih ν ν' f ha hf
      have := Wt_ot w1
      have := Wt_lt w1
      have := PW_lt w2
      refine ⟨⟨(OK_cp w1 ν ν' (fun i q1 q2 => ha i (by omega) (by omega))).1 hf.1.1, ?_⟩, ih ν ν' (f + 1) (fun i q1 q2 => ha i (by omega) (by omega)) hf.2⟩
      rw [ha _ (by omega) (by omega)]; exact hf.1.2
  refine PW_ind (K := K) (P := fun y p e => ∀ f, RpF K pl V D lo hi rlo rhi y f → ∃ ν : Nat → Nat, FA (fun c p cnt x => OKs K pl V D lo hi rlo rhi ν x ∧ D.1 102 c = nI (ν (otk x))) y f) ?_ ?_ (tsz y) y p e (Nat.le_refl _) w
  · intro p cnt x b e0 _ _ _ w1 h f hf
    obtain ⟨⟨_, _, _, _, _, k, k1, k2⟩, -⟩ := hf
    obtain ⟨ν, o, hk⟩ := (nu_ex w1).1 k k2
    exact ⟨ν, ⟨o, by rw [hk]; exact k1⟩, trivial⟩
  · intro p cnt x r b e0 e _ _ _ w1 h _ w2 ih f hf
    obtain ⟨⟨_, _, _, _, _, k, k1, k2⟩, hf2⟩ := hf
    obtain ⟨ν, o, hk⟩ := (nu_ex w1).1 k k2
    obtain ⟨ν2, h2⟩ := ih (f + 1) hf2
    have t1 := Wt_ot w1
    refine ⟨mgN (e0 + 1) ν ν2, ⟨OK_lo w1 (by omega) o, ?_⟩, mono r _ _ w2 ν2 _ (f + 1) (fun i q1 q2 => mg_hi q1) h2⟩
    rw [mg_lo (by omega), hk]; exact k1
end PGW
