/-! what the graph holds of a tree stays -/
section GST
variable {K pl : Nat → Nat} {V : Nat → Int64} {S S' : im_S} {N M L N' M' L' : Nat → Nat}
theorem hd_ag {r : TR} {p e md : Nat} (w : Wt K r p e md) (hA : ∀ j, j ≤ e → N' j = N j) : hdT N' r = hdT N r ∧ hdV N' r = hdV N r := by
  refine Wt_ind (K := K) (P := fun r p e _ => (∀ j, j ≤ e → N' j = N j) → hdT N' r = hdT N r ∧ hdV N' r = hdV N r) ?_ ?_ ?_ ?_ ?_ ?_ ?_ ?_ ?_ ?_ ?_ ?_ ?_ ?_ ?_ (tsz r) r p e md (Nat.le_refl _) w hA
  · intros; exact ⟨rfl, rfl⟩
  · intros; exact ⟨rfl, rfl⟩
  · intros; exact ⟨rfl, rfl⟩
  · intros; exact ⟨rfl, rfl⟩
  · intros; exact ⟨rfl, rfl⟩
  · intros; exact ⟨rfl, rfl⟩
  · intros; exact ⟨rfl, rfl⟩
  · intros; exact ⟨rfl, rfl⟩
  · intros; exact ⟨rfl, rfl⟩
  · intros; exact ⟨rfl, rfl⟩
  · intros; exact ⟨rfl, rfl⟩
  · intros; exact ⟨rfl, rfl⟩
  · intros; exact ⟨rfl, rfl⟩
  · intro p x b md _ _ w1 _ hA
    have h1 := Wt_rt w1
    have h2 := Wt_lt w1
    refine ⟨?_, ?_⟩
    · show nI (N' (rtk x)) = nI (N (rtk x)); rw [hA _ (by omega)]
    · show nI (N' p) = nI (N p)
      rw [hA _ (by by_cases hm : md = 101
                   · rw [if_pos hm] at h2; omega
                   · rw [if_neg hm] at h2; omega)]
  · intro p x r b e md _ _ _ w1 w2 _ _ hA
    have h1 := Wt_rt w1
    have h2 := Wt_lt w1
    have h3 := Wt_lt w2
    refine ⟨?_, ?_⟩
    · show nI (N' (rtk x)) = nI (N (rtk x)); rw [hA _ (by omega)]
    · show nI (N' p) = nI (N p)
      rw [hA _ (by by_cases hm : md = 101
                   · rw [if_pos hm] at h2; omega
                   · rw [if_neg hm] at h2; omega)]
theorem bnd_in {f : TR} {p e md : Nat} (w : Wt K f p e md) : ∀ (γ : List Nat) (b : Nat), b ∈ bnd f γ → b ∈ γ ∨ (p ≤ b ∧ b < e) := by
  refine Wt_ind (K := K) (P := fun f p e _ => ∀ (γ : List Nat) (b : Nat), b ∈ bnd f γ → b ∈ γ ∨ (p ≤ b ∧ b < e)) ?_ ?_ ?_ ?_ ?_ ?_ ?_ ?_ ?_ ?_ ?_ ?_ ?_ ?_ ?_ (tsz f) f p e md (Nat.le_refl _) w
  · intro p md _ γ b h; exact Or.inl h
  · intro p md _ γ b h; exact Or.inl h
  · intro p md _ γ b h; exact Or.inl h
  · intro p md _ γ b h; exact Or.inl h
  · intro p as b md _ _ _ _ γ c h; exact Or.inl h
  · intro p x y b e md _ _ _ _ _ γ c h; exact Or.inl h
  · intro p x y z b c e md _ _ _ _ _ _ γ d h; exact Or.inl h
  · intro p fs c ns g b d f e md _ _ _ _ _ _ _ _ _ _ γ i h; exact Or.inl h
  · intro p x e md _ _ _ γ b h; exact Or.inl h
  · intro p j x y e md _ _ _ _ _ γ b h; exact Or.inl h
  · intro p j x y b md _ _ _ _ γ c h; exact Or.inl h
  · intro p x y b e md _ _ _ _ _ _ γ c h; exact Or.inl h
  · intro p x b md _ _ γ c h; exact Or.inl h
  · intro p x b md _ _ w1 _ γ c h
    have h2 := Wt_lt w1
    have h : c ∈ p :: γ := h
    rcases List.mem_cons.mp h with q | q
    · right
      by_cases hm : md = 101
      · rw [if_pos hm] at h2; omega
      · rw [if_neg hm] at h2; omega
    · exact Or.inl q
  · intro p x r b e md _ _ _ w1 w2 _ ih γ c h
    have h2 := Wt_lt w1
    have h3 := Wt_lt w2
    have hp : p < e := by
      by_cases hm : md = 101
      · rw [if_pos hm] at h2; omega
      · rw [if_neg hm] at h2; omega
    have hb : p ≤ b + 1 := by
      by_cases hm : md = 101
      · rw [if_pos hm] at h2; omega
      · rw [if_neg hm] at h2; omega
    rcases ih (p :: γ) c h with q | q
    · rcases List.mem_cons.mp q with q | q
      · right; omega
      · exact Or.inl q
    · right; omega
theorem tks_in {f : TR} {p e md : Nat} (w : Wt K f p e md) : ∀ b, b ∈ tks f → p ≤ b ∧ b < e := by
  refine Wt_ind (K := K) (P := fun f p e _ => ∀ b, b ∈ tks f → p ≤ b ∧ b < e) ?_ ?_ ?_ ?_ ?_ ?_ ?_ ?_ ?_ ?_ ?_ ?_ ?_ ?_ ?_ (tsz f) f p e md (Nat.le_refl _) w
  · intro p md _ b h; cases h
  · intro p md _ b h; cases h
  · intro p md _ b h; cases h
  · intro p md _ b h; cases h
  · intro p as b md _ _ _ _ c h; cases h
  · intro p x y b e md _ _ _ _ _ c h; cases h
  · intro p x y z b c e md _ _ _ _ _ _ d h; cases h
  · intro p fs c ns g b d f e md _ _ _ _ _ _ _ _ _ _ i h; cases h
  · intro p x e md _ _ _ b h; cases h
  · intro p j x y e md _ _ _ _ _ b h; cases h
  · intro p j x y b md _ _ _ _ c h; cases h
  · intro p x y b e md _ _ _ _ _ _ c h; cases h
  · intro p x b md _ _ c h; cases h
  · intro p x b md _ _ w1 _ c h
    have h2 := Wt_lt w1
    have h : c ∈ [p] := h
    rw [List.mem_singleton] at h
    by_cases hm : md = 101
    · rw [if_pos hm] at h2; omega
    · rw [if_neg hm] at h2; omega
  · intro p x r b e md _ _ _ w1 w2 _ ih c h
    have h2 := Wt_lt w1
    have h3 := Wt_lt w2
    have hp : p ≤ b ∧ p < e := by
      by_cases hm : md = 101
      · rw [if_pos hm] at h2; omega
      · rw [if_neg hm] at h2; omega
    have h : c ∈ p :: tks r := h
    rcases List.mem_cons.mp h with q | q
    · omega
    · have := ih c q; omega
theorem fnd_in : ∀ (γ : List Nat) (j b : Nat), fnd V γ j = some b → b ∈ γ := by
  intro γ
  induction γ with
  | nil => intro j b h; cases h
  | cons c γ ih =>
    intro j b h
    unfold fnd at h
    by_cases e : V c = V j
    · rw [if_pos e] at h; cases h; exact List.mem_cons_self ..
    · rw [if_neg e] at h; exact List.mem_cons_of_mem _ (ih j b h)
theorem dpt_st {p e k0 R t : Nat} (B : Sb S S' N M L p e k0) (hR : R < M e) (ht : t < L e) (h : dpt S R t) : dpt S' R t := by
  obtain ⟨T, d, a0, a1, a2, a3⟩ := h
  obtain ⟨b1, b2, b3, b4, b5, b6⟩ := B
  exact ⟨T, d, a0, by rw [b5 R hR]; exact a1, by rw [b6 T (by omega)]; exact a2, by rw [b6 t ht]; exact a3⟩
set_option maxHeartbeats 4000000 in
theorem G_st0 (s : Nat) : ∀ (x : TR) (p e md : Nat), tsz x ≤ s → Wt K x p e md → ∀ (k0 : Nat) (γ : List Nat) (R md' c : Nat) (o : TR) (l : List Nat), Mn N M L e → Ag N M L N' M' L' e → Sb S S' N M L p e k0 → (k0 < N p ∨ N e ≤ k0 ∨ (md = 0 ∧ k0 = N (rtk x))) → (∀ b, b ∈ γ → b < p) → R < M p → c < p → (∀ b, b ∈ l → b < p) → G K pl V S N M L x γ R md' c o l → G K pl V S' N' M' L' x γ R md' c o l := by
  refine Wt_ind (K := K) (P := fun x p e md => ∀ (k0 : Nat) (γ : List Nat) (R md' c : Nat) (o : TR) (l : List Nat), Mn N M L e → Ag N M L N' M' L' e → Sb S S' N M L p e k0 → (k0 < N p ∨ N e ≤ k0 ∨ (md = 0 ∧ k0 = N (rtk x))) → (∀ b, b ∈ γ → b < p) → R < M p → c < p → (∀ b, b ∈ l → b < p) → G K pl V S N M L x γ R md' c o l → G K pl V S' N' M' L' x γ R md' c o l) ?_ ?_ ?_ ?_ ?_ ?_ ?_ ?_ ?_ ?_ ?_ ?_ ?_ ?_ ?_ s
  · intro p md _ k0 γ R md' c o l hM hA B hk hγ hR hc hl g
    have m1 := hM p (p + 1) (by omega) (Nat.le_refl _)
    exact nd_st B hM hA (Nat.le_refl _) (Nat.le_refl _) (by omega) g
  · intro p md _ k0 γ R md' c o l hM hA B hk hγ hR hc hl g
    have m1 := hM p (p + 1) (by omega) (Nat.le_refl _)
    exact nd_st B hM hA (Nat.le_refl _) (Nat.le_refl _) (by omega) g
  · intro p md _ k0 γ R md' c o l hM hA B hk hγ hR hc hl g
    have m1 := hM p (p + 1) (by omega) (Nat.le_refl _)
    obtain ⟨g1, b, g2, g3⟩ := g
    have hb := hγ b (fnd_in γ p b g2)
    refine ⟨nd_st B hM hA (Nat.le_refl _) (Nat.le_refl _) (by omega) g1, b, g2, ?_⟩
    rw [fd_st B hM hA (Nat.le_refl _) (Nat.le_refl _) g1.1 (Or.inl (by omega)), (hA b (by omega)).1]
    exact g3
  · intro p md _ k0 γ R md' c o l hM hA B hk hγ hR hc hl g
    have m1 := hM p (p + 3) (by omega) (Nat.le_refl _)
    obtain ⟨g1, g2, g3⟩ := g
    refine ⟨nd_st B hM hA (Nat.le_refl _) (by omega) (by omega) g1, ?_, trivial⟩
    rw [fd_st B hM hA (Nat.le_refl _) (by omega) g1.1 (Or.inl (by omega))]
    exact g2
  · intro p as b md _ _ w ih k0 γ R md' c o l hM hA B hk hγ hR hc hl g
    have hd := Wt_lt w
    have m1 := hM p (b + 1) (by omega) (Nat.le_refl _)
    have m2 := hM (p + 1) (p + 2) (by omega) (by omega)
    have m3 := hM b (b + 1) (by omega) (Nat.le_refl _)
    have m4 := hM p (p + 2) (by omega) (by omega)
    obtain ⟨g1, g2, g3⟩ := g
    have hM2 : Mn N M L b := fun i j h1 h2 => hM i j h1 (by omega)
    have hA2 : Ag N M L N' M' L' b := fun j h => hA j (by omega)
    have n0 := g1.1
    refine ⟨nd_st B hM hA (Nat.le_refl _) (by omega) (by omega) g1, ?_, ?_⟩
    · rw [fd_st B hM hA (Nat.le_refl _) (by omega) g1.1 (Or.inl (by omega)), (hd_ag w (fun j h => (hA2 j h).1)).1]
      exact g2
    · refine ih k0 γ R 101 p .nil [] hM2 hA2 (Sb_sub B hM (by omega) (by omega) (by omega)) ?_ (fun i hi => by have := hγ i hi; omega) (by omega) (by omega) (fun i hi => by cases hi) g3
      have hk3 : k0 = N p ∨ k0 < N p ∨ N (b + 1) ≤ k0 := by
        rcases hk with q | q | ⟨-, q⟩
        · exact Or.inr (Or.inl q)
        · exact Or.inr (Or.inr q)
        · exact Or.inl q
      omega
  · intro p x y b e md _ w1 w2 i1 i2 k0 γ R md' c o l hM hA B hk hγ hR hc hl g
    have d1 := Wt_lt w1
    have d2 := Wt_lt w2
    have r1 := Wt_rt w1
    have r2 := Wt_rt w2
    obtain ⟨g1, g2, g3, g4, g5, g6, g7, g8, g9⟩ := g
    have n0 := g1.1
    have n2 := g2.1
    have mA := hM (p + 1) (p + 3) (by omega) (by omega)
    have mA2 := hM p (p + 3) (by omega) (by omega)
    have mB := hM p (b + 1) (by omega) (by omega)
    have mC := hM b (b + 1) (by omega) (by omega)
    have mD := hM p e (by omega) (Nat.le_refl _)
    have mE := hM (b + 1) e (by omega) (Nat.le_refl _)
    have mF := hM (p + 3) b (by omega) (by omega)
    have hM2 : Mn N M L b := fun i j h1 h2 => hM i j h1 (by omega)
    have hA2 : Ag N M L N' M' L' b := fun j h => hA j (by omega)
    have hk3 : k0 < N p ∨ N e ≤ k0 ∨ k0 = N p := by
      rcases hk with q | q | ⟨-, q⟩
      · exact Or.inl q
      · exact Or.inr (Or.inl q)
      · exact Or.inr (Or.inr q)
    have mx := hM (p + 3) (rtk x) (by omega) (by omega)
    have mx2 := hM (rtk x + 1) b (by omega) (by omega)
    have my := hM (b + 1) (rtk y) (by omega) (by omega)
    have my2 := hM (rtk y + 1) e (by omega) (Nat.le_refl _)
    have kx : N (rtk x) ≠ k0 := by have := g5.1; omega
    have ky : N (rtk y) ≠ k0 := by have := g7.1; omega
    refine ⟨nd_st B hM hA (Nat.le_refl _) (by omega) (by omega) g1, vr_st B hM hA (by omega) (by omega) g2, ?_, ?_, rl_st B hM hA (by omega) (by omega) (by omega) kx g5, ?_, rl_st B hM hA (by omega) (by omega) (by omega) ky g7, ?_, ?_⟩
    · rw [fd_st B hM hA (by omega) (by omega) n2 (Or.inl (by omega)), B.2.2.2.2.1 R (by omega)]; exact g3
    · rw [fd_st B hM hA (Nat.le_refl _) (by omega) n0 (Or.inl (by omega)), (hA (p + 1) (by omega)).1]; exact g4
    · rw [fd_st B hM hA (by omega) (by omega) g5.1 (Or.inr ⟨by omega, kx⟩), (hA (p + 1) (by omega)).1]; exact g6
    · exact i1 k0 γ R 0 0 .nil [] hM2 hA2 (Sb_sub B hM (by omega) (by omega) (by omega)) (by omega) (fun i hi => by have := hγ i hi; omega) (by omega) (by omega) (fun i hi => by cases hi) g8
    · refine i2 k0 ((p + 1) :: γ) R 0 0 .nil [] hM hA (Sb_sub B hM (by omega) (by omega) (by omega)) (by omega) (fun i hi => ?_) (by omega) (by omega) (fun i hi => by cases hi) g9
      rcases List.mem_cons.mp hi with q | q
      · omega
      · have := hγ i q; omega
  · intro p x y z b c1 e md w1 w2 w3 i1 i2 i3 k0 γ R md' c o l hM hA B hk hγ hR hc hl g
    have d1 := Wt_lt w1
    have d2 := Wt_lt w2
    have d3 := Wt_lt w3
    have r1 := Wt_rt w1
    have r2 := Wt_rt w2
    have r3 := Wt_rt w3
    obtain ⟨g1, g2, g3, g4, g5, g6, g7, g8, g9, g10, g11, g12, g13, g14⟩ := g
    have n0 := g1.1
    have mA2 := hM p (p + 1) (by omega) (by omega)
    have mC := hM b (b + 1) (by omega) (by omega)
    have mC2 := hM c1 (c1 + 1) (by omega) (by omega)
    have mD := hM p e (by omega) (Nat.le_refl _)
    have mE := hM (c1 + 1) e (by omega) (Nat.le_refl _)
    have mF := hM (p + 1) b (by omega) (by omega)
    have mG := hM (b + 1) c1 (by omega) (by omega)
    have hMb : Mn N M L b := fun i j h1 h2 => hM i j h1 (by omega)
    have hAb : Ag N M L N' M' L' b := fun j h => hA j (by omega)
    have hMc : Mn N M L c1 := fun i j h1 h2 => hM i j h1 (by omega)
    have hAc : Ag N M L N' M' L' c1 := fun j h => hA j (by omega)
    have hk3 : k0 < N p ∨ N e ≤ k0 ∨ k0 = N p := by
      rcases hk with q | q | ⟨-, q⟩
      · exact Or.inl q
      · exact Or.inr (Or.inl q)
      · exact Or.inr (Or.inr q)
    have mx := hM (p + 1) (rtk x) (by omega) (by omega)
    have mx2 := hM (rtk x + 1) b (by omega) (by omega)
    have my := hM (b + 1) (rtk y) (by omega) (by omega)
    have my2 := hM (rtk y + 1) c1 (by omega) (by omega)
    have mz := hM (c1 + 1) (rtk z) (by omega) (by omega)
    have mz2 := hM (rtk z + 1) e (by omega) (Nat.le_refl _)
    have kx : N (rtk x) ≠ k0 := by have := g3.1; omega
    have ky : N (rtk y) ≠ k0 := by have := g8.1; omega
    have kz : N (rtk z) ≠ k0 := by have := g9.1; omega
    have eM := (hA p (by omega)).2.1
    have eM1 := (hA (p + 1) (by omega)).2.1
    obtain ⟨-, -, -, b26, b27, b29⟩ := id B
    refine ⟨nd_st B hM hA (Nat.le_refl _) (by omega) (by omega) g1, ?_, rl_st B hM hA (by omega) (by omega) (by omega) kx g3, ?_, ?_, ?_, ?_, rl_st B hM hA (by omega) (by omega) (by omega) ky g8, rl_st B hM hA (by omega) (by omega) (by omega) kz g9, ?_, ?_, ?_, ?_, ?_⟩
    · rw [fd_st B hM hA (Nat.le_refl _) (by omega) n0 (Or.inl (by omega)), (hA (rtk x) (by omega)).1]; exact g2
    · rw [eM, eM1]; exact g4
    · rw [fd_st B hM hA (Nat.le_refl _) (by omega) n0 (Or.inl (by omega)), eM]; exact g5
    · rw [eM, b27 (M p) (by omega), b27 R (by omega)]; exact g6
    · rw [eM, b27 (M p + 1) (by omega), b27 R (by omega)]; exact g7
    · rw [eM, b26 (M p) (by omega) (by omega)]
      exact Seg_st (Sb_sub B hM (p1 := b + 1) (e1 := c1) (by omega) (by omega) (by omega)) hMc hAc (lvs y) _ _ (lvs_in w2) g10
    · rw [eM, b26 (M p + 1) (by omega) (by omega)]
      exact Seg_st (Sb_sub B hM (p1 := c1 + 1) (e1 := e) (by omega) (by omega) (by omega)) hM hA (lvs z) _ _ (lvs_in w3) g11
    · exact i1 k0 γ R 0 0 .nil [] hMb hAb (Sb_sub B hM (by omega) (by omega) (by omega)) (by omega) (fun i hi => by have := hγ i hi; omega) (by omega) (by omega) (fun i hi => by cases hi) g12
    · rw [eM]; exact i2 k0 γ (M p) 0 0 .nil [] hMc hAc (Sb_sub B hM (by omega) (by omega) (by omega)) (by omega) (fun i hi => by have := hγ i hi; omega) (by omega) (by omega) (fun i hi => by cases hi) g13
    · rw [eM]; exact i3 k0 γ (M p + 1) 0 0 .nil [] hM hA (Sb_sub B hM (by omega) (by omega) (by omega)) (by omega) (fun i hi => by have := hγ i hi; omega) (by omega) (by omega) (fun i hi => by cases hi) g14
  · intro p fs c1 ns gg b d f e md _ _ w1 w2 w3 w4 i1 i2 i3 i4 k0 γ R md' c o l hM hA B hk hγ hR hc hl g
    have d1 := Wt_lt w1
    have d2 := Wt_lt w2
    have d3 := Wt_lt w3
    have d4 := Wt_lt w4
    have r2 := Wt_rt w2
    have r4 := Wt_rt w4
    obtain ⟨g1, g2, g3, g4, g5, g6, g7, g8, g9, g10, g11, g12, g13, g14, g15, g16, g17, g18, g19⟩ := g
    have n0 := g1.1
    have mA2 := hM p (p + 1) (by omega) (by omega)
    have mC := hM b (b + 1) (by omega) (by omega)
    have mC2 := hM d (d + 1) (by omega) (by omega)
    have mC3 := hM f (f + 1) (by omega) (by omega)
    have mD := hM p e (by omega) (Nat.le_refl _)
    have mF := hM (p + 1) b (by omega) (by omega)
    have mG := hM (b + 1) d (by omega) (by omega)
    have mH := hM (d + 1) f (by omega) (by omega)
    have mI := hM (f + 1) e (by omega) (by omega)
    have hMb : Mn N M L b := fun i j h1 h2 => hM i j h1 (by omega)
    have hAb : Ag N M L N' M' L' b := fun j h => hA j (by omega)
    have hMd : Mn N M L d := fun i j h1 h2 => hM i j h1 (by omega)
    have hAd : Ag N M L N' M' L' d := fun j h => hA j (by omega)
    have hMf : Mn N M L f := fun i j h1 h2 => hM i j h1 (by omega)
    have hAf : Ag N M L N' M' L' f := fun j h => hA j (by omega)
    have hk3 : k0 < N p ∨ N e ≤ k0 ∨ k0 = N p := by
      rcases hk with q | q | ⟨-, q⟩
      · exact Or.inl q
      · exact Or.inr (Or.inl q)
      · exact Or.inr (Or.inr q)
    have mx := hM (b + 1) (rtk c1) (by omega) (by omega)
    have mx2 := hM (rtk c1 + 1) d (by omega) (by omega)
    have mz := hM (f + 1) (rtk gg) (by omega) (by omega)
    have mz2 := hM (rtk gg + 1) e (by omega) (Nat.le_refl _)
    have kx : N (rtk c1) ≠ k0 := by have := g4.1; omega
    have kz : N (rtk gg) ≠ k0 := by have := g5.1; omega
    have eM := (hA p (by omega)).2.1
    have eM1 := (hA (p + 1) (by omega)).2.1
    have eL := (hA p (by omega)).2.2
    have eL1 := (hA (p + 1) (by omega)).2.2
    have hγ' : ∀ i, i ∈ bnd fs γ → i < b := fun i hi => by
      rcases bnd_in w1 γ i hi with q | q
      · have := hγ i q; omega
      · omega
    obtain ⟨-, -, -, b26, b27, b29⟩ := id B
    refine ⟨nd_st B hM hA (Nat.le_refl _) (by omega) (by omega) g1, ?_, ?_, rl_st B hM hA (by omega) (by omega) (by omega) kx g4, rl_st B hM hA (by omega) (by omega) (by omega) kz g5, ?_, ?_, ?_, ?_, ?_, ?_, ?_, ?_, ?_, ?_, ?_, ?_, ?_, ?_⟩
    · rw [fd_st B hM hA (Nat.le_refl _) (by omega) n0 (Or.inl (by omega)), (hd_ag w1 (fun j h => (hAb j h).1)).2]; exact g2
    · rw [fd_st B hM hA (Nat.le_refl _) (by omega) n0 (Or.inl (by omega)), (hA (rtk c1) (by omega)).1]; exact g3
    · rw [eM, eM1]; exact g6
    · rw [eL, eL1]; exact g7
    · rw [fd_st B hM hA (Nat.le_refl _) (by omega) n0 (Or.inl (by omega)), eM]; exact g8
    · rw [eM, eL, b27 (M p) (by omega)]; exact g9
    · rw [eM, eL, b27 (M p + 1) (by omega)]; exact g10
    · rw [eM, eL, b27 (M p + 2) (by omega)]; exact g11
    · rw [eL]; exact dpt_st B (by omega) (by omega) g12
    · rw [eM, b26 (M p) (by omega) (by omega)]
      exact Seg_st (Sb_sub B hM (p1 := b + 1) (e1 := d) (by omega) (by omega) (by omega)) hMd hAd (lvs c1) _ _ (lvs_in w2) g13
    · rw [eM, b26 (M p + 1) (by omega) (by omega)]
      exact Seg_st (Sb_sub B hM (p1 := d + 1) (e1 := f) (by omega) (by omega) (by omega)) hMf hAf (lvs ns) _ _ (lvs_in w3) g14
    · rw [eM, b26 (M p + 2) (by omega) (by omega)]
      exact Seg_st (Sb_sub B hM (p1 := f + 1) (e1 := e) (by omega) (by omega) (by omega)) hM hA (lvs gg) _ _ (lvs_in w4) g15
    · exact i1 k0 γ R 102 p ns [] hMb hAb (Sb_sub B hM (by omega) (by omega) (by omega)) (by omega) (fun i hi => by have := hγ i hi; omega) (by omega) (by omega) (fun i hi => by cases hi) g16
    · rw [eM]; exact i2 k0 _ (M p) 0 0 .nil [] hMd hAd (Sb_sub B hM (by omega) (by omega) (by omega)) (by omega) (fun i hi => by have := hγ' i hi; omega) (by omega) (by omega) (fun i hi => by cases hi) g17
    · rw [eM]; exact i3 k0 _ (M p + 1) 105 p .nil (tks fs) hMf hAf (Sb_sub B hM (by omega) (by omega) (by omega)) (by omega) (fun i hi => by have := hγ' i hi; omega) (by omega) (by omega) (fun i hi => by have := tks_in w1 i hi; omega) g18
    · rw [eM]; exact i4 k0 _ (M p + 2) 0 0 .nil [] hM hA (Sb_sub B hM (by omega) (by omega) (by omega)) (by omega) (fun i hi => by have := hγ' i hi; omega) (by omega) (by omega) (fun i hi => by cases hi) g19
  · intro p x e md _ w1 i1 k0 γ R md' c o l hM hA B hk hγ hR hc hl g
    have d1 := Wt_lt w1
    have r1 := Wt_rt w1
    obtain ⟨g1, g2, g3, g4⟩ := g
    have n0 := g1.1
    have mA := hM p (p + 1) (by omega) (by omega)
    have mD := hM (p + 1) e (by omega) (Nat.le_refl _)
    have hk3 : k0 < N p ∨ N e ≤ k0 ∨ k0 = N p := by
      rcases hk with q | q | ⟨-, q⟩
      · exact Or.inl q
      · exact Or.inr (Or.inl q)
      · exact Or.inr (Or.inr q)
    have mx := hM (p + 1) (rtk x) (by omega) (by omega)
    have mx2 := hM (rtk x + 1) e (by omega) (by omega)
    have kx : N (rtk x) ≠ k0 := by have := g3.1; omega
    refine ⟨nd_st B hM hA (Nat.le_refl _) (by omega) (by omega) g1, ?_, rl_st B hM hA (by omega) (by omega) (by omega) kx g3, ?_⟩
    · rw [fd_st B hM hA (Nat.le_refl _) (by omega) n0 (Or.inl (by omega)), (hA (rtk x) (by omega)).1]; exact g2
    · exact i1 k0 γ R 0 0 .nil [] hM hA (Sb_sub B hM (by omega) (by omega) (by omega)) (by omega) (fun i hi => by have := hγ i hi; omega) (by omega) (by omega) (fun i hi => by cases hi) g4
  · intro p j x y e md _ w1 w2 i1 i2 k0 γ R md' c o l hM hA B hk hγ hR hc hl g
    have d1 := Wt_lt w1
    have d2 := Wt_lt w2
    have r1 := Wt_rt w1
    have r2 := Wt_rt w2
    obtain ⟨g1, g2, g3, g4, g5, g6, g7⟩ := g
    have n0 := g1.1
    have mA := hM p j (by omega) (by omega)
    have mD := hM (j + 1) e (by omega) (Nat.le_refl _)
    have mE := hM j (j + 1) (by omega) (by omega)
    have hMj : Mn N M L j := fun i j h1 h2 => hM i j h1 (by omega)
    have hAj : Ag N M L N' M' L' j := fun j h => hA j (by omega)
    have hk3 : k0 < N p ∨ N e ≤ k0 ∨ k0 = N j := by
      rcases hk with q | q | ⟨-, q⟩
      · exact Or.inl q
      · exact Or.inr (Or.inl q)
      · exact Or.inr (Or.inr q)
    have mx := hM p (rtk x) (by omega) (by omega)
    have mx2 := hM (rtk x + 1) j (by omega) (by omega)
    have my := hM (j + 1) (rtk y) (by omega) (by omega)
    have my2 := hM (rtk y + 1) e (by omega) (by omega)
    have kx : N (rtk x) ≠ k0 := by have := g4.1; omega
    have ky : N (rtk y) ≠ k0 := by have := g5.1; omega
    refine ⟨nd_st B hM hA (by omega) (by omega) (by omega) g1, ?_, ?_, rl_st B hM hA (by omega) (by omega) (by omega) kx g4, rl_st B hM hA (by omega) (by omega) (by omega) ky g5, ?_, ?_⟩
    · rw [fd_st B hM hA (by omega) (by omega) n0 (Or.inl (by omega)), (hA (rtk x) (by omega)).1]; exact g2
    · rw [fd_st B hM hA (by omega) (by omega) n0 (Or.inl (by omega)), (hA (rtk y) (by omega)).1]; exact g3
    · exact i1 k0 γ R 0 0 .nil [] hMj hAj (Sb_sub B hM (by omega) (by omega) (by omega)) (by omega) hγ (by omega) (by omega) (fun i hi => by cases hi) g6
    · exact i2 k0 γ R 0 0 .nil [] hM hA (Sb_sub B hM (by omega) (by omega) (by omega)) (by omega) (fun i hi => by have := hγ i hi; omega) (by omega) (by omega) (fun i hi => by cases hi) g7
  · intro p j x y b md w1 w2 i1 i2 k0 γ R md' c o l hM hA B hk hγ hR hc hl g
    have d1 := Wt_lt w1
    have d2 := Wt_lt w2
    have r1 := Wt_rt w1
    have r2 := Wt_rt w2
    obtain ⟨g1, g2, g3, g4, g5, g6, g7⟩ := g
    have n0 := g1.1
    have mA := hM p j (by omega) (by omega)
    have mD := hM (j + 1) b (by omega) (by omega)
    have mE := hM j (j + 1) (by omega) (by omega)
    have mF := hM b (b + 1) (by omega) (by omega)
    have hMj : Mn N M L j := fun i j h1 h2 => hM i j h1 (by omega)
    have hAj : Ag N M L N' M' L' j := fun j h => hA j (by omega)
    have hMb : Mn N M L b := fun i j h1 h2 => hM i j h1 (by omega)
    have hAb : Ag N M L N' M' L' b := fun j h => hA j (by omega)
    have hk3 : k0 < N p ∨ N (b + 1) ≤ k0 ∨ k0 = N j := by
      rcases hk with q | q | ⟨-, q⟩
      · exact Or.inl q
      · exact Or.inr (Or.inl q)
      · exact Or.inr (Or.inr q)
    have mx := hM p (rtk x) (by omega) (by omega)
    have mx2 := hM (rtk x + 1) j (by omega) (by omega)
    have my := hM (j + 1) (rtk y) (by omega) (by omega)
    have my2 := hM (rtk y + 1) b (by omega) (by omega)
    have kx : N (rtk x) ≠ k0 := by have := g4.1; omega
    have ky : N (rtk y) ≠ k0 := by have := g5.1; omega
    refine ⟨nd_st B hM hA (by omega) (by omega) (by omega) g1, ?_, ?_, rl_st B hM hA (by omega) (by omega) (by omega) kx g4, rl_st B hM hA (by omega) (by omega) (by omega) ky g5, ?_, ?_⟩
    · rw [fd_st B hM hA (by omega) (by omega) n0 (Or.inl (by omega)), (hA (rtk x) (by omega)).1]; exact g2
    · rw [fd_st B hM hA (by omega) (by omega) n0 (Or.inl (by omega)), (hA (rtk y) (by omega)).1]; exact g3
    · exact i1 k0 γ R 0 0 .nil [] hMj hAj (Sb_sub B hM (by omega) (by omega) (by omega)) (by omega) hγ (by omega) (by omega) (fun i hi => by cases hi) g6
    · exact i2 k0 γ R 0 0 .nil [] hMb hAb (Sb_sub B hM (by omega) (by omega) (by omega)) (by omega) (fun i hi => by have := hγ i hi; omega) (by omega) (by omega) (fun i hi => by cases hi) g7
  · intro p x y b e md _ _ w1 w2 i1 i2 k0 γ R md' c o l hM hA B hk hγ hR hc hl g
    have d1 := Wt_lt w1
    have d2 := Wt_lt w2
    have r1 := Wt_rt w1
    have r2 := Wt_rt w2
    obtain ⟨g1, g2, g3, g4, g5, g6, g7, g8, g9, g10, g11, g12, g13, g14, g15, g16, g17, g18, g19⟩ := g
    have n0 := g1.1
    have n1 := g5.1
    have n3 := g6.1
    have mA := hM p (p + 1) (by omega) (by omega)
    have mA1 := hM (p + 1) (p + 2) (by omega) (by omega)
    have mA2 := hM (p + 2) (p + 3) (by omega) (by omega)
    have mA3 := hM (p + 4) (p + 5) (by omega) (by omega)
    have mD := hM (p + 5) b (by omega) (by omega)
    have mE := hM b (b + 2) (by omega) (by omega)
    have mF := hM (b + 2) e (by omega) (by omega)
    have hMb : Mn N M L b := fun i j h1 h2 => hM i j h1 (by omega)
    have hAb : Ag N M L N' M' L' b := fun j h => hA j (by omega)
    have hk3 : k0 < N p ∨ N e ≤ k0 ∨ k0 = N p := by
      rcases hk with q | q | ⟨-, q⟩
      · exact Or.inl q
      · exact Or.inr (Or.inl q)
      · exact Or.inr (Or.inr q)
    have mx := hM (p + 5) (rtk x) (by omega) (by omega)
    have mx2 := hM (rtk x + 1) b (by omega) (by omega)
    have my := hM (b + 2) (rtk y) (by omega) (by omega)
    have my2 := hM (rtk y + 1) e (by omega) (by omega)
    have m34 := hM (p + 3 + 1) (p + 5) (by omega) (by omega)
    have m05 := hM p (p + 5) (by omega) (by omega)
    have m15 := hM (p + 1) (p + 5) (by omega) (by omega)
    have m35 := hM (p + 3) (p + 5) (by omega) (by omega)
    have m25 := hM (p + 1 + 1) (p + 3) (by omega) (by omega)
    have kx : N (rtk x) ≠ k0 := by have := g3.1; omega
    have ky : N (rtk y) ≠ k0 := by have := g16.1; omega
    have k1 : N (p + 1) ≠ k0 := by omega
    have k3 : N (p + 3) ≠ k0 := by omega
    have eM := (hA p (by omega)).2.1
    have eM1 := (hA (p + 1) (by omega)).2.1
    have eL := (hA p (by omega)).2.2
    have eL1 := (hA (p + 1) (by omega)).2.2
    have eN := (hA p (by omega)).1
    obtain ⟨-, -, -, b26, b27, b29⟩ := id B
    refine ⟨nd_st B hM hA (Nat.le_refl _) (by omega) (by omega) g1, ?_, rl_st B hM hA (by omega) (by omega) (by omega) kx g3, ?_, vr_st B hM hA (by omega) (by omega) g5, vr_st B hM hA (by omega) (by omega) g6, ?_, ?_, ?_, ?_, ?_, ?_, ?_, ?_, ?_, rl_st B hM hA (by omega) (by omega) (by omega) ky g16, ?_, ?_, ?_⟩
    · rw [fd_st B hM hA (Nat.le_refl _) (by omega) n0 (Or.inl (by omega)), (hA (rtk x) (by omega)).1]; exact g2
    · rw [fd_st B hM hA (Nat.le_refl _) (by omega) n0 (Or.inl (by omega)), (hA (p + 1) (by omega)).1]; exact g4
    · rw [fd_st B hM hA (by omega) (by omega) n1 (Or.inr ⟨by omega, k1⟩), (hA (p + 3) (by omega)).1]; exact g7
    · rw [fd_st B hM hA (by omega) (by omega) n3 (Or.inr ⟨by omega, k3⟩), eN]; exact g8
    · rw [eM, eM1]; exact g9
    · rw [eL, eL1]; exact g10
    · rw [fd_st B hM hA (Nat.le_refl _) (by omega) n0 (Or.inl (by omega)), eM]; exact g11
    · rw [eM, eL, b27 (M p) (by omega)]; exact g12
    · rw [eL]; exact dpt_st B (by omega) (by omega) g13
    · rw [fd_st B hM hA (by omega) (by omega) n1 (Or.inl (by omega)), eL]; exact g14
    · rw [fd_st B hM hA (by omega) (by omega) n3 (Or.inl (by omega)), eL]; exact g15
    · rw [eM, b26 (M p) (by omega) (by omega)]
      exact Seg_st (Sb_sub B hM (p1 := b + 2) (e1 := e) (by omega) (by omega) (by omega)) hM hA (lvs y) _ _ (lvs_in w2) g17
    · exact i1 k0 γ R 0 0 .nil [] hMb hAb (Sb_sub B hM (by omega) (by omega) (by omega)) (by omega) (fun i hi => by have := hγ i hi; omega) (by omega) (by omega) (fun i hi => by cases hi) g18
    · rw [eM]
      refine i2 k0 ((p + 3) :: (p + 1) :: γ) (M p) 0 0 .nil [] hM hA (Sb_sub B hM (by omega) (by omega) (by omega)) (by omega) (fun i hi => ?_) (by omega) (by omega) (fun i hi => by cases hi) g19
      rcases List.mem_cons.mp hi with q | q
      · omega
      · rcases List.mem_cons.mp q with q | q
        · omega
        · have := hγ i q; omega
  · intro p x b md w1 i1 k0 γ R md' c o l hM hA B hk hγ hR hc hl g
    have d1 := Wt_lt w1
    have mA := hM p (p + 1) (by omega) (by omega)
    have mB := hM b (b + 1) (by omega) (by omega)
    have hMb : Mn N M L b := fun i j h1 h2 => hM i j h1 (by omega)
    have hAb : Ag N M L N' M' L' b := fun j h => hA j (by omega)
    refine i1 k0 γ R 0 0 .nil [] hMb hAb (Sb_sub B hM (by omega) (by omega) (by omega)) ?_ (fun i hi => by have := hγ i hi; omega) (by omega) (by omega) (fun i hi => by cases hi) g
    rcases hk with q | q | ⟨-, q⟩
    · exact Or.inl (by omega)
    · exact Or.inr (Or.inl (by omega))
    · exact Or.inr (Or.inr ⟨rfl, q⟩)
  · intro p x b md h0 _ w1 i1 k0 γ R md' c o l hM hA B hk hγ hR hc hl g
    have d1 := Wt_lt w1
    have r1 := Wt_rt w1
    have hpx : p ≤ (if md = 101 then p else p + 2) := by
      by_cases hm : md = 101
      · rw [if_pos hm]; omega
      · rw [if_neg hm]; omega
    generalize (if md = 101 then p else p + 2) = p1 at *
    have hk3 : k0 < N p ∨ N b ≤ k0 := by
      rcases hk with q | q | ⟨q, -⟩
      · exact Or.inl q
      · exact Or.inr q
      · omega
    have mA := hM p p1 (by omega) (by omega)
    have mB := hM p1 b (by omega) (by omega)
    have mC := hM b b (by omega) (Nat.le_refl _)
    have mx := hM p1 (rtk x) (by omega) (by omega)
    have mx2 := hM (rtk x + 1) b (by omega) (by omega)
    have mp := hM (p + 1) b (by omega) (Nat.le_refl _)
    have hMb : Mn N M L b := fun i j h1 h2 => hM i j h1 (by omega)
    have hAb : Ag N M L N' M' L' b := fun j h => hA j (by omega)
    have gx : G K pl V S N M L x γ R 0 0 .nil [] → G K pl V S' N' M' L' x γ R 0 0 .nil [] := fun g => i1 k0 γ R 0 0 .nil [] hMb hAb (Sb_sub B hM (by omega) (by omega) (by omega)) (by omega) (fun i hi => by have := hγ i hi; omega) (by omega) (by omega) (fun i hi => by cases hi) g
    obtain ⟨-, -, -, b26, b27, b29⟩ := id B
    unfold G at g ⊢
    by_cases m101 : md' = 101
    · rw [if_pos m101] at g ⊢
      obtain ⟨g1, g2, g3, g4⟩ := g
      have kx : N (rtk x) ≠ k0 := by have := g1.1; omega
      refine ⟨rl_st B hM hA (by omega) (by omega) (by omega) kx g1, ?_, gx g3, ?_⟩
      · rw [fd_st B hM hA (by omega) (by omega) g1.1 (Or.inr ⟨by omega, kx⟩), show hdT N' .nil = hdT N .nil from rfl]; exact g2
      · trivial
    rw [if_neg m101] at g ⊢
    by_cases m102 : md' = 102
    · rw [if_pos m102] at g ⊢
      obtain ⟨g1, g0, g2, g3, g4, g5, g6, g7, g8, g9⟩ := g
      have n0 := g1.1
      have kx : N (rtk x) ≠ k0 := by omega
      have kp : N p ≠ k0 := by omega
      refine ⟨vr_st B hM hA (Nat.le_refl _) (by omega) g1, ?_, ?_, ?_, ?_, ?_, ?_, ?_, gx g8, ?_⟩
      · rw [(hA (rtk x) (by omega)).1, (hA (rtk x + 1) (by omega)).1]; exact g0
      · rw [fd_st B hM hA (Nat.le_refl _) (by omega) n0 (Or.inr ⟨by omega, kp⟩), (hA c (by omega)).1]; exact g2
      · rw [fd_st B hM hA (Nat.le_refl _) (by omega) n0 (Or.inl (by omega)), (hA (rtk x) (by omega)).1]; exact g3
      · rw [fd_st B hM hA (Nat.le_refl _) (by omega) n0 (Or.inr ⟨by omega, kp⟩), show hdV N' .nil = hdV N .nil from rfl]; exact g4
      · rw [fd_st B hM hA (by omega) (by omega) g0 (Or.inr ⟨by omega, kx⟩), (hA c (by omega)).1]; exact g5
      · rw [fd_st B hM hA (by omega) (by omega) g0 (Or.inr ⟨by omega, kx⟩), (hA p (by omega)).1]; exact g6
      · rw [fd_st (a := 13) B hM hA (Nat.le_refl _) (by omega) n0 (Or.inl (by omega)), fd_st (a := 9) B hM hA (by omega) (by omega) g0 (Or.inr ⟨by omega, kx⟩), fd_st (a := 17) B hM hA (Nat.le_refl _) (by omega) n0 (Or.inl (by omega)), (hA c (by omega)).1, (hA c (by omega)).2.2, b27 R (by omega)]; exact g7
      · trivial
    · rw [if_neg m102] at g ⊢
      obtain ⟨⟨bb, g1, g2⟩, g3, g4, g5⟩ := g
      have kx : N (rtk x) ≠ k0 := by have := g3.1; omega
      have hbb := hl bb (fnd_in l p bb g1)
      refine ⟨⟨bb, g1, ?_⟩, rl_st B hM hA (by omega) (by omega) (by omega) kx g3, gx g4, ?_⟩
      · rw [fd_st B hM hA (by omega) (by omega) g3.1 (Or.inr ⟨by omega, kx⟩), (hA bb (by omega)).1]; exact g2
      · trivial
  · intro p x r b e md h0 _ _ w1 w2 i1 i2 k0 γ R md' c o l hM hA B hk hγ hR hc hl g
    have d2 := Wt_lt w2
    have d1 := Wt_lt w1
    have r1 := Wt_rt w1
    have hpx : p ≤ (if md = 101 then p else p + 2) := by
      by_cases hm : md = 101
      · rw [if_pos hm]; omega
      · rw [if_neg hm]; omega
    generalize (if md = 101 then p else p + 2) = p1 at *
    have mD := hM b (b + 1) (by omega) (by omega)
    have mE := hM (b + 1) e (by omega) (Nat.le_refl _)
    have hk3 : k0 < N p ∨ N e ≤ k0 := by
      rcases hk with q | q | ⟨q, -⟩
      · exact Or.inl q
      · exact Or.inr q
      · omega
    have mA := hM p p1 (by omega) (by omega)
    have mB := hM p1 b (by omega) (by omega)
    have mC := hM b e (by omega) (Nat.le_refl _)
    have mx := hM p1 (rtk x) (by omega) (by omega)
    have mx2 := hM (rtk x + 1) b (by omega) (by omega)
    have mp := hM (p + 1) e (by omega) (Nat.le_refl _)
    have hMb : Mn N M L b := fun i j h1 h2 => hM i j h1 (by omega)
    have hAb : Ag N M L N' M' L' b := fun j h => hA j (by omega)
    have gx : G K pl V S N M L x γ R 0 0 .nil [] → G K pl V S' N' M' L' x γ R 0 0 .nil [] := fun g => i1 k0 γ R 0 0 .nil [] hMb hAb (Sb_sub B hM (by omega) (by omega) (by omega)) (by omega) (fun i hi => by have := hγ i hi; omega) (by omega) (by omega) (fun i hi => by cases hi) g
    obtain ⟨-, -, -, b26, b27, b29⟩ := id B
    unfold G at g ⊢
    by_cases m101 : md' = 101
    · rw [if_pos m101] at g ⊢
      obtain ⟨g1, g2, g3, g4⟩ := g
      have kx : N (rtk x) ≠ k0 := by have := g1.1; omega
      refine ⟨rl_st B hM hA (by omega) (by omega) (by omega) kx g1, ?_, gx g3, ?_⟩
      · rw [fd_st B hM hA (by omega) (by omega) g1.1 (Or.inr ⟨by omega, kx⟩), (hd_ag w2 (fun j h => (hA j h).1)).1]; exact g2
      · exact i2 k0 γ R 101 c .nil [] hM hA (Sb_sub B hM (by omega) (by omega) (by omega)) (by omega) (fun i hi => by have := hγ i hi; omega) (by omega) (by omega) (fun i hi => by cases hi) g4
    rw [if_neg m101] at g ⊢
    by_cases m102 : md' = 102
    · rw [if_pos m102] at g ⊢
      obtain ⟨g1, g0, g2, g3, g4, g5, g6, g7, g8, g9⟩ := g
      have n0 := g1.1
      have kx : N (rtk x) ≠ k0 := by omega
      have kp : N p ≠ k0 := by omega
      refine ⟨vr_st B hM hA (Nat.le_refl _) (by omega) g1, ?_, ?_, ?_, ?_, ?_, ?_, ?_, gx g8, ?_⟩
      · rw [(hA (rtk x) (by omega)).1, (hA (rtk x + 1) (by omega)).1]; exact g0
      · rw [fd_st B hM hA (Nat.le_refl _) (by omega) n0 (Or.inr ⟨by omega, kp⟩), (hA c (by omega)).1]; exact g2
      · rw [fd_st B hM hA (Nat.le_refl _) (by omega) n0 (Or.inl (by omega)), (hA (rtk x) (by omega)).1]; exact g3
      · rw [fd_st B hM hA (Nat.le_refl _) (by omega) n0 (Or.inr ⟨by omega, kp⟩), (hd_ag w2 (fun j h => (hA j h).1)).2]; exact g4
      · rw [fd_st B hM hA (by omega) (by omega) g0 (Or.inr ⟨by omega, kx⟩), (hA c (by omega)).1]; exact g5
      · rw [fd_st B hM hA (by omega) (by omega) g0 (Or.inr ⟨by omega, kx⟩), (hA p (by omega)).1]; exact g6
      · rw [fd_st (a := 13) B hM hA (Nat.le_refl _) (by omega) n0 (Or.inl (by omega)), fd_st (a := 9) B hM hA (by omega) (by omega) g0 (Or.inr ⟨by omega, kx⟩), fd_st (a := 17) B hM hA (Nat.le_refl _) (by omega) n0 (Or.inl (by omega)), (hA c (by omega)).1, (hA c (by omega)).2.2, b27 R (by omega)]; exact g7
      · exact i2 k0 γ R 102 c o [] hM hA (Sb_sub B hM (by omega) (by omega) (by omega)) (by omega) (fun i hi => by have := hγ i hi; omega) (by omega) (by omega) (fun i hi => by cases hi) g9
    · rw [if_neg m102] at g ⊢
      obtain ⟨⟨bb, g1, g2⟩, g3, g4, g5⟩ := g
      have kx : N (rtk x) ≠ k0 := by have := g3.1; omega
      have hbb := hl bb (fnd_in l p bb g1)
      refine ⟨⟨bb, g1, ?_⟩, rl_st B hM hA (by omega) (by omega) (by omega) kx g3, gx g4, ?_⟩
      · rw [fd_st B hM hA (by omega) (by omega) g3.1 (Or.inr ⟨by omega, kx⟩), (hA bb (by omega)).1]; exact g2
      · exact i2 k0 γ R 105 c .nil l hM hA (Sb_sub B hM (by omega) (by omega) (by omega)) (by omega) (fun i hi => by have := hγ i hi; omega) (by omega) (by omega) (fun i hi => by have := hl i hi; omega) g5
/-- what the graph holds of an X stays where only its own value's way changes -/
theorem G_st {x : TR} {p e k0 R : Nat} {γ : List Nat} (w : Wt K x p e 0) (hM : Mn N M L e) (hA : Ag N M L N' M' L' e) (B : Sb S S' N M L p e k0) (hk : k0 < N p ∨ N e ≤ k0 ∨ k0 = N (rtk x)) (hγ : ∀ b, b ∈ γ → b < p) (hR : R < M p) (hp : 0 < p) (g : G K pl V S N M L x γ R 0 0 .nil []) : G K pl V S' N' M' L' x γ R 0 0 .nil [] :=
  G_st0 (tsz x) x p e 0 (Nat.le_refl _) w k0 γ R 0 0 .nil [] hM hA B (by omega) hγ hR hp (fun i hi => by cases hi) g
end GST
