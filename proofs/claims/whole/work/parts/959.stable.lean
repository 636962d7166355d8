/-! trees by their tokens: an induction; what is kept of a graph -/
def tsz : TR → Nat
  | .append x y => tsz x + tsz y + 1
  | .tag _ x => tsz x + 1
  | _ => 1
theorem Wt_ind {K : Nat → Nat} {P : TR → Nat → Nat → Nat → Prop}
    (h1 : ∀ p md, K p = 2 → P (aNum p) p (p + 1) md) (h2 : ∀ p md, K p = 15 ∨ K p = 16 → P (aTru p) p (p + 1) md) (h3 : ∀ p md, K p = 1 → P (aNam p) p (p + 1) md)
    (h4 : ∀ p md, K p = 1 → P (aCal p .nil) p (p + 3) md) (h4' : ∀ p as b md, K p = 1 → as ≠ .nil → Wt K as (p + 2) b 101 → P as (p + 2) b 101 → P (aCal p as) p (b + 1) md)
    (h5 : ∀ p x y b e md, K (p + 1) = 1 → Wt K x (p + 3) b 0 → Wt K y (b + 1) e 0 → P x (p + 3) b 0 → P y (b + 1) e 0 → P (aLet p x y) p e md)
    (h6 : ∀ p x y z b c e md, Wt K x (p + 1) b 0 → Wt K y (b + 1) c 0 → Wt K z (c + 1) e 0 → P x (p + 1) b 0 → P y (b + 1) c 0 → P z (c + 1) e 0 → P (aIf p x y z) p e md)
    (h7 : ∀ p fs c ns g b d f e md, fs ≠ .nil → ns ≠ .nil → Wt K fs (p + 1) b 102 → Wt K c (b + 1) d 0 → Wt K ns (d + 1) f 102 → Wt K g (f + 1) e 0 → P fs (p + 1) b 102 → P c (b + 1) d 0 → P ns (d + 1) f 102 → P g (f + 1) e 0 → P (aLoop p fs c ns g) p e md)
    (h8 : ∀ p x e md, K p = 45 ∨ K p = 33 → Wt K x (p + 1) e 0 → P x (p + 1) e 0 → P (aSig p x) p e md)
    (h9 : ∀ p j x y e md, 1 ≤ stg (K j) → Wt K x p j 0 → Wt K y (j + 1) e 0 → P x p j 0 → P y (j + 1) e 0 → P (aBin j x y) p e md)
    (h10 : ∀ p j x y b md, Wt K x p j 0 → Wt K y (j + 1) b 0 → P x p j 0 → P y (j + 1) b 0 → P (aCel j x y) p (b + 1) md)
    (h11 : ∀ p x y b e md, K (p + 1) = 1 → K (p + 3) = 1 → Wt K x (p + 5) b 0 → Wt K y (b + 2) e 0 → P x (p + 5) b 0 → P y (b + 2) e 0 → P (aTab p x y) p e md)
    (h12 : ∀ p x b md, Wt K x (p + 1) b 0 → P x (p + 1) b 0 → P (aBrk p x) p (b + 1) md)
    (hl : ∀ p x b md, (md = 101 ∨ md = 102) → (md = 102 → K p = 1) → Wt K x (if md = 101 then p else p + 2) b 0 → P x (if md = 101 then p else p + 2) b 0 → P (.append (.tag p x) .nil) p b md)
    (hl' : ∀ p x r b e md, (md = 101 ∨ md = 102) → (md = 102 → K p = 1) → r ≠ .nil → Wt K x (if md = 101 then p else p + 2) b 0 → Wt K r (b + 1) e md → P x (if md = 101 then p else p + 2) b 0 → P r (b + 1) e md → P (.append (.tag p x) r) p e md) :
    ∀ (s : Nat) (x : TR) (p e md : Nat), tsz x ≤ s → Wt K x p e md → P x p e md := by
  intro s
  induction s with
  | zero =>
    intro x p e md hs w
    cases x <;> simp [tsz] at hs
  | succ s ih =>
    intro x p e md hs w
    unfold Wt at w
    split at w
    · obtain ⟨rfl, rfl, rfl, k⟩ := w; exact h1 _ _ k
    · obtain ⟨rfl, rfl, rfl, k⟩ := w; exact h2 _ _ k
    · obtain ⟨rfl, rfl, rfl, k⟩ := w; exact h3 _ _ k
    · obtain ⟨rfl, k, w⟩ := w
      rcases w with ⟨rfl, rfl⟩ | ⟨b, n1, w, rfl⟩
      · exact h4 _ _ k
      · exact h4' _ _ _ _ k n1 w (ih _ _ _ _ (by simp only [tsz] at hs; omega) w)
    · obtain ⟨rfl, k, b, w1, w2⟩ := w
      exact h5 _ _ _ _ _ _ k w1 w2 (ih _ _ _ _ (by simp only [tsz] at hs; omega) w1) (ih _ _ _ _ (by simp only [tsz] at hs; omega) w2)
    · obtain ⟨rfl, b, c, w1, w2, w3⟩ := w
      exact h6 _ _ _ _ _ _ _ _ w1 w2 w3 (ih _ _ _ _ (by simp only [tsz] at hs; omega) w1) (ih _ _ _ _ (by simp only [tsz] at hs; omega) w2) (ih _ _ _ _ (by simp only [tsz] at hs; omega) w3)
    · obtain ⟨rfl, b, c, d, n1, n2, w1, w2, w3, w4⟩ := w
      exact h7 _ _ _ _ _ _ _ _ _ _ n1 n2 w1 w2 w3 w4 (ih _ _ _ _ (by simp only [tsz] at hs; omega) w1) (ih _ _ _ _ (by simp only [tsz] at hs; omega) w2) (ih _ _ _ _ (by simp only [tsz] at hs; omega) w3) (ih _ _ _ _ (by simp only [tsz] at hs; omega) w4)
    · obtain ⟨rfl, k, w1⟩ := w
      exact h8 _ _ _ _ k w1 (ih _ _ _ _ (by simp only [tsz] at hs; omega) w1)
    · obtain ⟨k, w1, w2⟩ := w
      exact h9 _ _ _ _ _ _ k w1 w2 (ih _ _ _ _ (by simp only [tsz] at hs; omega) w1) (ih _ _ _ _ (by simp only [tsz] at hs; omega) w2)
    · obtain ⟨w1, b, w2, rfl⟩ := w
      exact h10 _ _ _ _ _ _ w1 w2 (ih _ _ _ _ (by simp only [tsz] at hs; omega) w1) (ih _ _ _ _ (by simp only [tsz] at hs; omega) w2)
    · obtain ⟨rfl, k1, k3, b, w1, w2⟩ := w
      exact h11 _ _ _ _ _ _ k1 k3 w1 w2 (ih _ _ _ _ (by simp only [tsz] at hs; omega) w1) (ih _ _ _ _ (by simp only [tsz] at hs; omega) w2)
    · obtain ⟨rfl, b, w1, rfl⟩ := w
      exact h12 _ _ _ _ w1 (ih _ _ _ _ (by simp only [tsz] at hs; omega) w1)
    · obtain ⟨k0, rfl, k, b, w1, w2⟩ := w
      rcases w2 with ⟨rfl, rfl⟩ | ⟨n1, w2⟩
      · exact hl _ _ _ _ k0 k w1 (ih _ _ _ _ (by simp only [tsz] at hs; omega) w1)
      · exact hl' _ _ _ _ _ _ k0 k n1 w1 w2 (ih _ _ _ _ (by simp only [tsz] at hs; omega) w1) (ih _ _ _ _ (by simp only [tsz] at hs; omega) w2)
    · exact w.elim
theorem Wt_lt {K : Nat → Nat} {x : TR} {p e md : Nat} (w : Wt K x p e md) : p < e := by
  refine Wt_ind (K := K) (P := fun _ p e _ => p < e) ?_ ?_ ?_ ?_ ?_ ?_ ?_ ?_ ?_ ?_ ?_ ?_ ?_ ?_ ?_ (tsz x) x p e md (Nat.le_refl _) w
  · intros; omega
  · intros; omega
  · intros; omega
  · intros; omega
  · intros; omega
  · intros; omega
  · intros; omega
  · intros; omega
  · intros; omega
  · intros; omega
  · intros; omega
  · intros; omega
  · intros; omega
  · intro p x b md _ _ _ h
    by_cases hm : md = 101
    · rw [if_pos hm] at h; exact h
    · rw [if_neg hm] at h; omega
  · intro p x r b e md _ _ _ _ _ h h2
    by_cases hm : md = 101
    · rw [if_pos hm] at h; omega
    · rw [if_neg hm] at h; omega
theorem Wt_rt {K : Nat → Nat} {x : TR} {p e : Nat} (w : Wt K x p e 0) : p ≤ rtk x ∧ rtk x < e ∧ p ≤ bgk x ∧ bgk x < e := by
  have hd : ∀ {x : TR} {p e md : Nat}, Wt K x p e md → p < e := fun w => Wt_lt w
  refine Wt_ind (K := K) (P := fun x p e md => md = 0 → p ≤ rtk x ∧ rtk x < e ∧ p ≤ bgk x ∧ bgk x < e) ?_ ?_ ?_ ?_ ?_ ?_ ?_ ?_ ?_ ?_ ?_ ?_ ?_ ?_ ?_ (tsz x) x p e 0 (Nat.le_refl _) w rfl
  · intro p md _ _; show p ≤ p ∧ p < p + 1 ∧ p ≤ p ∧ p < p + 1; omega
  · intro p md _ _; show p ≤ p ∧ p < p + 1 ∧ p ≤ p ∧ p < p + 1; omega
  · intro p md _ _; show p ≤ p ∧ p < p + 1 ∧ p ≤ p ∧ p < p + 1; omega
  · intro p md _ _; show p ≤ p ∧ p < p + 3 ∧ p ≤ p ∧ p < p + 3; omega
  · intro p as b md _ _ w _ _; have := hd w; show p ≤ p ∧ p < b + 1 ∧ p ≤ p ∧ p < b + 1; omega
  · intro p x y b e md _ w1 w2 _ _ _; have := hd w1; have := hd w2; show p ≤ p ∧ p < e ∧ p ≤ p ∧ p < e; omega
  · intro p x y z b c e md w1 w2 w3 _ _ _ _; have := hd w1; have := hd w2; have := hd w3; show p ≤ p ∧ p < e ∧ p ≤ p ∧ p < e; omega
  · intro p fs c ns g b d f e md _ _ w1 w2 w3 w4 _ _ _ _ _; have := hd w1; have := hd w2; have := hd w3; have := hd w4; show p ≤ p ∧ p < e ∧ p ≤ p ∧ p < e; omega
  · intro p x e md _ w1 _ _; have := hd w1; show p ≤ p ∧ p < e ∧ p ≤ p ∧ p < e; omega
  · intro p j x y e md _ w1 w2 i1 _ _; have := hd w1; have := hd w2; have := i1 rfl; show p ≤ j ∧ j < e ∧ p ≤ bgk x ∧ bgk x < e; omega
  · intro p j x y b md w1 w2 i1 _ _; have := hd w1; have := hd w2; have := i1 rfl; show p ≤ j ∧ j < b + 1 ∧ p ≤ bgk x ∧ bgk x < b + 1; omega
  · intro p x y b e md _ _ w1 w2 _ _ _; have := hd w1; have := hd w2; show p ≤ p ∧ p < e ∧ p ≤ p ∧ p < e; omega
  · intro p x b md w1 i1 _; have := hd w1; have := i1 rfl; show p ≤ rtk x ∧ rtk x < b + 1 ∧ p ≤ p ∧ p < b + 1; omega
  · intro p x b md h0 _ _ _ hm; omega
  · intro p x r b e md h0 _ _ _ _ _ _ hm; omega
/-- the counts never fall -/
def Mn (N M L : Nat → Nat) (e : Nat) : Prop := ∀ i j, i ≤ j → j ≤ e → N i ≤ N j ∧ M i ≤ M j ∧ L i ≤ L j
/-- the same counts up to e -/
def Ag (N M L N' M' L' : Nat → Nat) (e : Nat) : Prop := ∀ j, j ≤ e → N' j = N j ∧ M' j = M j ∧ L' j = L j
/-- S' keeps of S what tokens p .. e - 1 made, but for where node k0's value goes -/
def Sb (S S' : im_S) (N M L : Nat → Nat) (p e k0 : Nat) : Prop :=
  (∀ a k : Nat, (a = 7 ∨ a = 8 ∨ a = 12 ∨ a = 13 ∨ a = 15 ∨ a = 16 ∨ a = 17 ∨ a = 19) → N p ≤ k → k < N e → S'.1 a k = S.1 a k) ∧
  (∀ k : Nat, N p ≤ k → k < N e → S'.2.1 21 k = S.2.1 21 k) ∧
  (∀ a k : Nat, (a = 9 ∨ a = 10 ∨ a = 11 ∨ a = 14) → N p ≤ k → k < N e → k ≠ k0 → S'.1 a k = S.1 a k) ∧
  (∀ r : Nat, M p ≤ r → r < M e → S'.1 26 r = S.1 26 r) ∧ (∀ r : Nat, r < M e → S'.1 27 r = S.1 27 r) ∧ ∀ t : Nat, t < L e → S'.1 29 t = S.1 29 t
theorem Sb_sub {S S' : im_S} {N M L : Nat → Nat} {p e k0 p1 e1 : Nat} (B : Sb S S' N M L p e k0) (hM : Mn N M L e) (h1 : p ≤ p1) (h2 : p1 ≤ e) (h3 : e1 ≤ e) : Sb S S' N M L p1 e1 k0 := by
  obtain ⟨b1, b2, b3, b4, b5, b6⟩ := B
  have m1 := hM p p1 h1 h2
  have m2 := hM e1 e h3 (Nat.le_refl _)
  exact ⟨fun a k q u v => b1 a k q (by omega) (by omega), fun k u v => b2 k (by omega) (by omega), fun a k q u v w => b3 a k q (by omega) (by omega) w, fun r u v => b4 r (by omega) (by omega), fun r v => b5 r (by omega), fun t v => b6 t (by omega)⟩
section GS
variable {K pl : Nat → Nat} {V : Nat → Int64} {S S' : im_S} {N M L N' M' L' : Nat → Nat}
theorem nd_st {p e k0 c t j R : Nat} {v : Int64} (B : Sb S S' N M L p e k0) (hM : Mn N M L e) (hA : Ag N M L N' M' L' e) (h1 : p ≤ j) (h2 : j + 1 ≤ e) (hR : R < M e) (h : nd pl S N c t v j R) : nd pl S' N' c t v j R := by
  obtain ⟨a0, a1, a2, a3, a4, a5⟩ := h
  obtain ⟨b1, b2, b3, b4, b5, b6⟩ := B
  have n1 := (hM p j h1 (by omega)).1
  have n2 := (hM (j + 1) e h2 (Nat.le_refl _)).1
  have e1 := (hA j (by omega)).1
  have e2 := (hA (j + 1) h2).1
  unfold nd
  rw [e1, e2, b1 7 (N j) (by omega) (by omega) (by omega), b1 8 (N j) (by omega) (by omega) (by omega), b2 (N j) (by omega) (by omega), b1 17 (N j) (by omega) (by omega) (by omega), b1 19 (N j) (by omega) (by omega) (by omega), b5 R hR]
  exact ⟨a0, a1, a2, a3, a4, a5⟩
theorem vr_st {p e k0 j : Nat} (B : Sb S S' N M L p e k0) (hM : Mn N M L e) (hA : Ag N M L N' M' L' e) (h1 : p ≤ j) (h2 : j + 1 ≤ e) (h : vr V S N j) : vr V S' N' j := by
  obtain ⟨a0, a1, a2, a3⟩ := h
  obtain ⟨b1, b2, b3, b4, b5, b6⟩ := B
  have n1 := (hM p j h1 (by omega)).1
  have n2 := (hM (j + 1) e h2 (Nat.le_refl _)).1
  have e1 := (hA j (by omega)).1
  have e2 := (hA (j + 1) h2).1
  unfold vr
  rw [e1, e2, b1 7 (N j) (by omega) (by omega) (by omega), b1 8 (N j) (by omega) (by omega) (by omega), b2 (N j) (by omega) (by omega)]
  exact ⟨a0, a1, a2, a3⟩
theorem rl_st {p e k0 c j : Nat} {r : Int32} (B : Sb S S' N M L p e k0) (hM : Mn N M L e) (hA : Ag N M L N' M' L' e) (h1 : p ≤ c) (h2 : c + 1 ≤ e) (hj : j ≤ e) (hk : N c ≠ k0) (h : rl S N c r j) : rl S' N' c r j := by
  obtain ⟨a0, a1, a2⟩ := h
  obtain ⟨b1, b2, b3, b4, b5, b6⟩ := B
  have n1 := (hM p c h1 (by omega)).1
  have n2 := (hM (c + 1) e h2 (Nat.le_refl _)).1
  have e1 := (hA c (by omega)).1
  have e2 := (hA (c + 1) h2).1
  have e3 := (hA j hj).1
  unfold rl
  rw [e1, e2, e3, b3 9 (N c) (by omega) (by omega) (by omega) hk, b3 10 (N c) (by omega) (by omega) (by omega) hk]
  exact ⟨a0, a1, a2⟩
/-- a field of a node -/
theorem fd_st {p e k0 a c : Nat} (B : Sb S S' N M L p e k0) (hM : Mn N M L e) (hA : Ag N M L N' M' L' e) (h1 : p ≤ c) (h2 : c + 1 ≤ e) (hc : N c < N (c + 1)) (ha : (a = 7 ∨ a = 8 ∨ a = 12 ∨ a = 13 ∨ a = 15 ∨ a = 16 ∨ a = 17 ∨ a = 19) ∨ ((a = 9 ∨ a = 10 ∨ a = 11 ∨ a = 14) ∧ N c ≠ k0)) : S'.1 a (N' c) = S.1 a (N c) := by
  obtain ⟨b1, b2, b3, b4, b5, b6⟩ := B
  have n1 := (hM p c h1 (by omega)).1
  have n2 := (hM (c + 1) e h2 (Nat.le_refl _)).1
  rw [(hA c (by omega)).1]
  rcases ha with ha | ⟨ha, hk⟩
  · exact b1 a (N c) ha (by omega) (by omega)
  · exact b3 a (N c) ha (by omega) (by omega) hk
theorem Seg_st {p e k0 : Nat} (B : Sb S S' N M L p e k0) (hM : Mn N M L e) (hA : Ag N M L N' M' L' e) : ∀ (l : List Nat) (w f : Int32), (∀ i, i ∈ l → p ≤ i ∧ i < e) → Seg S N w l f → Seg S' N' w l f := by
  intro l
  induction l with
  | nil => intro w f _ h; exact h
  | cons i l ih =>
    intro w f hi h
    obtain ⟨a0, a1, a2⟩ := h
    obtain ⟨i1, i2⟩ := hi i (List.mem_cons_self ..)
    have e1 := (hA i (by omega)).1
    have e2 := (hA (i + 1) (by omega)).1
    refine ⟨by rw [e1]; exact a0, by rw [e1, e2]; exact a1, ?_⟩
    rw [fd_st B hM hA i1 (by omega) a1 (Or.inl (by omega))]
    exact ih _ _ (fun k hk => hi k (List.mem_cons_of_mem _ hk)) a2
theorem lvs_in {x : TR} {p e md : Nat} (w : Wt K x p e md) : ∀ i, i ∈ lvs x → p ≤ i ∧ i < e := by
  have hd : ∀ {x : TR} {p e md : Nat}, Wt K x p e md → p < e := fun w => Wt_lt w
  have one : ∀ {p e i : Nat}, p < e → i ∈ [p] → p ≤ i ∧ i < e := fun h hi => by
    rw [List.mem_singleton] at hi; omega
  refine Wt_ind (K := K) (P := fun x p e _ => ∀ i, i ∈ lvs x → p ≤ i ∧ i < e) ?_ ?_ ?_ ?_ ?_ ?_ ?_ ?_ ?_ ?_ ?_ ?_ ?_ ?_ ?_ (tsz x) x p e md (Nat.le_refl _) w
  · intro p md _ i hi; exact one (by omega) hi
  · intro p md _ i hi; exact one (by omega) hi
  · intro p md _ i hi; exact one (by omega) hi
  · intro p md _ i hi; exact one (by omega) hi
  · intro p as b md _ _ w ih i hi
    have := hd w
    rcases List.mem_append.mp (show i ∈ lvs as ++ [p] from hi) with q | q
    · have := ih i q; omega
    · exact one (by omega) q
  · intro p x y b e md _ w1 w2 i1 i2 i hi
    have := hd w1
    have := hd w2
    rcases List.mem_append.mp (show i ∈ lvs y ++ lvs x from hi) with q | q
    · have := i2 i q; omega
    · have := i1 i q; omega
  · intro p x y z b c e md w1 w2 w3 i1 i2 i3 i hi
    have := hd w1
    have := hd w2
    have := hd w3
    have := i1 i hi
    omega
  · intro p fs c ns g b d f e md _ _ w1 w2 w3 w4 i1 i2 i3 i4 i hi
    have := hd w1
    have := hd w2
    have := hd w3
    have := hd w4
    rcases List.mem_append.mp (show i ∈ lvs fs ++ [p] from hi) with q | q
    · have := i1 i q; omega
    · exact one (by omega) q
  · intro p x e md _ w1 i1 i hi
    have := i1 i hi
    omega
  · intro p j x y e md _ w1 w2 i1 i2 i hi
    have := hd w1
    have := hd w2
    rcases List.mem_append.mp (show i ∈ lvs y ++ lvs x from hi) with q | q
    · have := i2 i q; omega
    · have := i1 i q; omega
  · intro p j x y b md w1 w2 i1 i2 i hi
    have := hd w1
    have := hd w2
    rcases List.mem_append.mp (show i ∈ lvs y ++ lvs x from hi) with q | q
    · have := i2 i q; omega
    · have := i1 i q; omega
  · intro p x y b e md _ _ w1 w2 i1 i2 i hi
    have := hd w1
    have := hd w2
    have := i1 i hi
    omega
  · intro p x b md w1 i1 i hi
    have := i1 i hi
    omega
  · intro p x b md _ _ w1 i1 i hi
    rcases List.mem_append.mp (show i ∈ lvs .nil ++ lvs x from hi) with q | q
    · cases q
    · have := i1 i q
      by_cases hm : md = 101
      · rw [if_pos hm] at this; exact this
      · rw [if_neg hm] at this; omega
  · intro p x r b e md _ _ _ w1 w2 i1 i2 i hi
    have := hd w1
    have := hd w2
    have hpb : p ≤ b := by
      by_cases hm : md = 101
      · rw [if_pos hm] at *; omega
      · rw [if_neg hm] at *; omega
    rcases List.mem_append.mp (show i ∈ lvs r ++ lvs x from hi) with q | q
    · have := i2 i q; omega
    · have h3 := i1 i q
      by_cases hm : md = 101
      · rw [if_pos hm] at h3; omega
      · rw [if_neg hm] at h3; omega
end GS
