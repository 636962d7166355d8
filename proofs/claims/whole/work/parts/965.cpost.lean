/-! the class's parser: what an X leaves -/
def tv (V : Nat → Int64) : Nat → Nat := fun i => tvV (V i)
/-- the root of what was read last -/
def Rt (K pl : Nat → Nat) (V : Nat → Int64) (S : im_S) (N : Nat → Nat) (x : TR) : Prop := N (rtk x) < N (rtk x + 1) ∧ S.1 3 8 = nI (N (rtk x)) ∧ S.1 8 (N (rtk x)) = nI (tyk K (tv V) x) ∧ S.1 20 (N (rtk x)) = nI (pl (bgk x)) ∧ S.1 14 (N (rtk x)) = -1
def PX (K pl : Nat → Nat) (V : Nat → Int64) (m : Nat) (S : im_S) (N M L : Nat → Nat) (pos dep sz : Nat) (γ : List Nat) (n ρ τ f R : Nat) (S' : im_S) (N' M' L' : Nat → Nat) (n' ρ' τ' e : Nat) (x : TR) : Prop :=
  Cz K pl V m S n ρ τ sz γ.length R S' N' M' L' e dep sz γ n' ρ' τ' (pl e) (min f (pfc K pl V x γ 0 [] [])) ∧ Ag N M L N' M' L' pos ∧ Rt K pl V S' N' x ∧ (4000 ≤ pfc K pl V x γ 0 [] [] → G K pl V S' N' M' L' x γ R 0 0 .nil []) ∧ Seg S' N' (S'.1 26 R) (lvs x) (S.1 26 R)
/-- .. and what is done behind -/
def Kx (K pl : Nat → Nat) (V : Nat → Int64) (m : Nat) (S : im_S) (N M L : Nat → Nat) (pos dep sz : Nat) (γ : List Nat) (n ρ τ f R e : Nat) (x : TR) (Cont : im_S → Prop) : Prop := ∀ (S' : im_S) (N' M' L' : Nat → Nat) (n' ρ' τ' : Nat), PX K pl V m S N M L pos dep sz γ n ρ τ f R S' N' M' L' n' ρ' τ' e x → Cont S'
/-- a state from which an X, or an operand of one, is read -/
def Bg (K pl : Nat → Nat) (V : Nat → Int64) (m : Nat) (S : im_S) (N M L : Nat → Nat) (pos dep sz : Nat) (γ : List Nat) (n ρ τ f k R : Nat) : Prop := Cz K pl V m S n ρ τ sz γ.length R S N M L pos dep sz γ n ρ τ (pl pos) f ∧ Tp S sz k R ∧ R < ρ ∧ 0 < pos
/-- .. all of that, in one: a label that reads as Rr says, from p0 on -/
def HXc (K pl : Nat → Nat) (V : Nat → Int64) (m fu : Nat) (Rr : Nat → PR) (dep p0 : Nat) : Prop := ∀ (S : im_S) (N M L : Nat → Nat) (pos sz : Nat) (γ : List Nat) (n ρ τ f k R : Nat) (Q : Int32 → im_S → Prop), p0 ≤ pos → Bg K pl V m S N M L pos dep sz γ n ρ τ f k R → S.1 3 7 = 0 → 10 ≤ k →
  (∀ e, Rr pos = (e, none) → Rf pl e Q → Lp m fu pos S Q) ∧ ∀ e x, Rr pos = (e, some x) → Kx K pl V m S N M L pos dep sz γ n ρ τ f R e x (fun S' => FZ K m fu e sz S' Q) → Lp m fu pos S Q
/-- nodes below n are kept, but for where k0's value goes; so are regions but R's leaves -/
def Fx (S S' : im_S) (lo n ρ τ R k0 : Nat) : Prop := (∀ a k : Nat, 7 ≤ a → a ≤ 20 → lo ≤ k → k < n → (k ≠ k0 ∨ ¬ (a = 9 ∨ a = 10 ∨ a = 11 ∨ a = 14 ∨ a = 20)) → S'.1 a k = S.1 a k) ∧ (∀ k : Nat, lo ≤ k → k < n → S'.2.1 21 k = S.2.1 21 k) ∧ (∀ r : Nat, r < ρ → S'.1 27 r = S.1 27 r ∧ (r ≠ R → S'.1 26 r = S.1 26 r)) ∧ ∀ t : Nat, t < τ → S'.1 29 t = S.1 29 t
theorem Fx_refl (S : im_S) (lo n ρ τ R k0 : Nat) : Fx S S lo n ρ τ R k0 := ⟨fun _ _ _ _ _ _ _ => rfl, fun _ _ _ => rfl, fun _ _ => ⟨rfl, fun _ => rfl⟩, fun _ _ => rfl⟩
theorem Fx_uI {S S' : im_S} {lo n ρ τ R k0 a j : Nat} {v : Int32} (h : Fx S S' lo n ρ τ R k0) (q : (a < 7 ∨ 20 < a ∨ n ≤ j ∨ j < lo ∨ (j = k0 ∧ (a = 9 ∨ a = 10 ∨ a = 11 ∨ a = 14 ∨ a = 20))) ∧ (a ≠ 27 ∨ ρ ≤ j) ∧ (a ≠ 26 ∨ ρ ≤ j ∨ j = R) ∧ (a ≠ 29 ∨ τ ≤ j)) : Fx S (uI S' a j v) lo n ρ τ R k0 := by
  obtain ⟨a1, a2, a3, a4⟩ := h
  refine ⟨fun x k u1 u2 u0 u3 u4 => ?_, a2, fun r hr => ⟨?_, fun hR => ?_⟩, fun t ht => ?_⟩
  · rw [uI_ne (by omega)]; exact a1 x k u1 u2 u0 u3 u4
  · rw [uI_ne (by omega)]; exact (a3 r hr).1
  · rw [uI_ne (by omega)]; exact (a3 r hr).2 hR
  · rw [uI_ne (by omega)]; exact a4 t ht
theorem Fx_Fr {S S1 S2 : im_S} {lo n ρ τ R k0 n1 ρ1 τ1 sz kn R1 : Nat} (h : Fx S S1 lo n ρ τ R k0) (F : Fr S1 S2 n1 ρ1 τ1 sz kn R1) (h1 : n ≤ n1) (h2 : ρ ≤ ρ1) (h3 : τ ≤ τ1) (h6 : R1 = R ∨ ρ ≤ R1) : Fx S S2 lo n ρ τ R k0 := by
  obtain ⟨a1, a2, a3, a4⟩ := h
  obtain ⟨b1, b2, b3, b4, -⟩ := F
  exact ⟨fun x k u1 u2 u0 u3 u4 => (b1 x k u1 u2 (by omega)).trans (a1 x k u1 u2 u0 u3 u4), fun k u0 hk => (b2 k (by omega)).trans (a2 k u0 hk), fun r hr => ⟨((b3 r (by omega)).1).trans (a3 r hr).1, fun hR => ((b3 r (by omega)).2 (by omega)).trans ((a3 r hr).2 hR)⟩, fun t ht => (b4 t (by omega)).trans (a4 t ht)⟩
theorem Fx_ad {S S' : im_S} {lo n ρ τ R k0 n1 c R1 T sT : Nat} {t p : Int32} {v : Int64} (h : Fx S S' lo n ρ τ R k0) (h1 : n ≤ n1) (h2 : R1 = R ∨ ρ ≤ R1) : Fx S (adS S' n1 c t p v R1 T sT) lo n ρ τ R k0 := by
  obtain ⟨a1, a2, a3, a4⟩ := h
  refine ⟨fun x k u1 u2 u0 u3 u4 => ?_, fun k u0 hk => ?_, fun r hr => ⟨?_, fun hR => ?_⟩, fun t ht => ?_⟩
  · rw [ad_ne (by omega)]; exact a1 x k u1 u2 u0 u3 u4
  · rw [ad_21, if_neg (by omega)]; exact a2 k u0 hk
  · rw [ad_ne (by omega)]; exact (a3 r hr).1
  · rw [ad_ne (by omega)]; exact (a3 r hr).2 hR
  · rw [ad_ne (by omega)]; exact a4 t ht
theorem Fx_nt {S S' : im_S} {lo n ρ τ R k0 : Nat} {x1 x2 : Int32} (h : Fx S S' lo n ρ τ R k0) : Fx S (ntS S' x1 x2) lo n ρ τ R k0 := by
  obtain ⟨a1, a2, a3, a4⟩ := h
  exact ⟨fun x k u1 u2 u0 u3 u4 => by rw [nt_ne S' _ _ (by omega)]; exact a1 x k u1 u2 u0 u3 u4, fun k u0 hk => by rw [nt_21]; exact a2 k u0 hk, fun r hr => by rw [nt_ne S' _ _ (by omega), nt_ne S' _ _ (by omega)]; exact a3 r hr, fun t ht => by rw [nt_ne S' _ _ (by omega)]; exact a4 t ht⟩
theorem Fx_ck {S S' : im_S} {lo n ρ τ R k0 k : Nat} {w : Int32} (h : Fx S S' lo n ρ τ R k0) : Fx S (ckS S' k w) lo n ρ τ R k0 := by
  unfold ckS
  by_cases e : (S'.1 8 k : Int32) = w
  · rw [if_pos e]; exact h
  · rw [if_neg e]; exact Fx_nt h
theorem Fx_cn {S S' : im_S} {lo n ρ τ R k0 k : Nat} {r p t : Int32} (h : Fx S S' lo n ρ τ R k0) (hk : k = k0 ∨ n ≤ k ∨ k < lo) : Fx S (cnS S' k r p t) lo n ρ τ R k0 := by
  unfold cnS
  exact Fx_uI (Fx_uI (Fx_uI h (by omega)) (by omega)) (by omega)
theorem Fx_ps {S S' : im_S} {lo n ρ τ R k0 sz : Nat} {k nd rg : Int32} (h : Fx S S' lo n ρ τ R k0) : Fx S (psS S' sz k nd rg) lo n ρ τ R k0 := by
  unfold psS
  exact Fx_uI (Fx_uI (Fx_uI (Fx_uI h (by omega)) (by omega)) (by omega)) (by omega)
theorem Sb_Fx {S S' : im_S} {N M L : Nat → Nat} {p e R k0 : Nat} (h : Fx S S' (N p) (N e) (M e) (L e) R k0) (hR : R < M p) : Sb S S' N M L p e k0 := by
  obtain ⟨a1, a2, a3, a4⟩ := h
  exact ⟨fun a k q u v => a1 a k (by omega) (by omega) u v (Or.inr (by omega)), fun k u v => a2 k u v, fun a k q u v w => a1 a k (by omega) (by omega) u v (Or.inl w), fun r u v => (a3 r v).2 (by omega), fun r v => (a3 r v).1, fun t v => a4 t v⟩
theorem Seg_app {S : im_S} {N : Nat → Nat} : ∀ (l1 l2 : List Nat) (w e1 e2 : Int32), Seg S N w l1 e1 → Seg S N e1 l2 e2 → Seg S N w (l1 ++ l2) e2 := by
  intro l1
  induction l1 with
  | nil => intro l2 w e1 e2 h1 h2; have h1 : w = e1 := h1; rw [h1]; exact h2
  | cons p l1 ih => intro l2 w e1 e2 h1 h2; exact ⟨h1.1, h1.2.1, ih l2 _ e1 e2 h1.2.2 h2⟩
section CPO
variable {K pl : Nat → Nat} {V : Nat → Int64} {m fu : Nat} {Q : Int32 → im_S → Prop}
/-- what an X left is kept while the rest is read -/
theorem PX_keep {S : im_S} {N M L : Nat → Nat} {pos dep sz : Nat} {γ : List Nat} {n ρ τ f R : Nat} {S1 : im_S} {N1 M1 L1 : Nat → Nat} {n1 ρ1 τ1 e : Nat} {x : TR} (P : PX K pl V m S N M L pos dep sz γ n ρ τ f R S1 N1 M1 L1 n1 ρ1 τ1 e x) (w : Wt K x pos e 0) (hg : Gh N M L pos n ρ τ γ) (hR : R < ρ) (hpos : 0 < pos) {S2 : im_S} {N2 M2 L2 : Nat → Nat} (F : Fx S1 S2 n n1 ρ1 τ1 R (N1 (rtk x))) (hA : Ag N1 M1 L1 N2 M2 L2 e) :
    (4000 ≤ pfc K pl V x γ 0 [] [] → G K pl V S2 N2 M2 L2 x γ R 0 0 .nil []) ∧ Seg S2 N2 (S1.1 26 R) (lvs x) (S.1 26 R) ∧ N2 (rtk x) < N2 (rtk x + 1) ∧ N2 (rtk x) = N1 (rtk x) ∧ n ≤ N1 (rtk x) ∧ N1 (rtk x) < n1 ∧ n ≤ n1 ∧ ρ ≤ ρ1 ∧ τ ≤ τ1 ∧ pos < e := by
  obtain ⟨C, hA1, hRt, hG, hS⟩ := P
  obtain ⟨g1, g2, g3, g4, g5⟩ := C.2.1
  have hd := Wt_lt w
  have hr := Wt_rt w
  have a0 := hA1 pos (Nat.le_refl _)
  have m0 := g4 pos e (by omega) (Nat.le_refl _)
  have hn : N1 pos = n := by rw [a0.1]; exact hg.1
  have hρ : M1 pos = ρ := by rw [a0.2.1]; exact hg.2.1
  have hτ : L1 pos = τ := by rw [a0.2.2]; exact hg.2.2.1
  have F' : Fx S1 S2 (N1 pos) (N1 e) (M1 e) (L1 e) R (N1 (rtk x)) := by rw [g1, g2, g3, hn]; exact F
  have B := Sb_Fx (p := pos) F' (by omega)
  have m1 := g4 pos (rtk x) (by omega) (by omega)
  have m2 := g4 (rtk x + 1) e (by omega) (Nat.le_refl _)
  have m3 := hRt.1
  refine ⟨fun hz => G_st w g4 hA B (Or.inr (Or.inr rfl)) (fun b hb => (hg.2.2.2.2 b hb).1) (by omega) hpos (hG hz), Seg_st B g4 hA (lvs x) _ _ (lvs_in w) hS, ?_, (hA _ (by omega)).1, by omega, by omega, by omega, by omega, by omega, hd⟩
  rw [(hA _ (by omega)).1, (hA (rtk x + 1) (by omega)).1]
  exact hRt.1
end CPO
