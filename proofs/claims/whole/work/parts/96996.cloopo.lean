/-! the class's parser: a loop is opened -/
section CLO
variable {K pl : Nat → Nat} {V : Nat → Int64} {m fu : Nat} {S : im_S} {N M L : Nat → Nat} {pos dep sz n ρ τ f k R : Nat} {γ : List Nat}
def LoO (K pl : Nat → Nat) (V : Nat → Int64) (m : Nat) (S : im_S) (N M L : Nat → Nat) (pos dep sz : Nat) (γ : List Nat) (n ρ τ f R : Nat) (A : im_S) (N3 M3 L3 : Nat → Nat) : Prop :=
  Cz K pl V m S n ρ τ sz γ.length R A N3 M3 L3 (pos + 1) dep sz γ (n + 1) (ρ + 3) (τ + 1) (pl (pos + 1)) f ∧ Ag N M L N3 M3 L3 pos ∧ A.1 3 7 = nI 3 ∧ A.1 3 10 = nI n ∧ (A.1 7 n = nI 9 ∧ A.2.1 21 n = 0 ∧ A.1 17 n = A.1 27 R ∧ A.1 19 n = nI (pl pos) ∧ A.1 20 n = nI (pl pos) ∧ A.1 14 n = -1 ∧ A.1 15 n = nI ρ ∧ A.1 12 n = -1) ∧ A.1 26 R = nI n ∧ A.1 16 n = S.1 26 R ∧ (A.1 27 ρ = nI τ ∧ A.1 27 (ρ + 1) = nI τ ∧ A.1 27 (ρ + 2) = nI τ ∧ A.1 26 ρ = -1 ∧ A.1 26 (ρ + 1) = -1 ∧ A.1 26 (ρ + 2) = -1) ∧ dpt A R τ ∧ (N3 pos = n ∧ N3 (pos + 1) = n + 1 ∧ M3 pos = ρ ∧ M3 (pos + 1) = ρ + 3 ∧ L3 pos = τ ∧ L3 (pos + 1) = τ + 1)
set_option maxHeartbeats 8000000 in
theorem c_loopO (T : TH K pl V m) (hB : Bg K pl V m S N M L pos dep sz γ n ρ τ f k R) (hd : S.1 3 7 = 0) (hdep : dep < 20) (hk9 : K pos = 9) : pos < m ∧ ∃ (A : im_S) (N3 M3 L3 : Nat → Nat), dueF fu 0 S = some (1, A) ∧ LoO K pl V m S N M L pos dep sz γ n ρ τ f R A N3 M3 L3 := by
  obtain ⟨C, hTp, hR, hpos⟩ := hB
  have hm := T.m_
  have hbd := C.1.bd
  have hpm := C.1.pm
  have hp := K_lt T.end_ hpm hk9 (by decide) (by decide)
  have hst : pl pos + 4 ≤ pl (pos + 1) := by have := T.st_ hp; rw [hk9] at this; exact this
  have hpl1 := T.pl_ (show pos + 1 ≤ m by omega)
  obtain ⟨A1, a0, CA1, ndA, fz, rd, rd2, lf, -, fx⟩ := c_here T C hTp hR (Or.inl rfl) (Nat.le_refl _) (pl_B T hpm) hp 9 (by omega) 0 0
  have lf := lf (by omega)
  have en : ex N pos (n + 1) pos = n := by rw [ex_le (Nat.le_refl _)]; exact C.2.1.1
  have en1 : ex N pos (n + 1) (pos + 1) = n + 1 := ex_gt (by omega)
  obtain ⟨b0, b1, b2, b3, b4, b5⟩ := ndA
  rw [en] at b1 b2 b3 b4 b5
  obtain ⟨T0, hT0, h27⟩ := SI_tp CA1.2.2.1 hR
  obtain ⟨d0, hd0, h29⟩ := SI_dp CA1.2.2.1 hT0
  have b17 : A1.1 17 n = nI T0 := by rw [b4]; exact h27
  have B1 : pl pos + wk 9 = pl pos + 2 := rfl
  have hMle : ∀ j, j ≤ pos → M j ≤ ρ := fun j hj => by have := (C.2.1.2.2.2.1 j pos hj (Nat.le_refl _)).2.1; rw [C.2.1.2.1] at this; exact this
  have hLle : ∀ j, j ≤ pos → L j ≤ τ := fun j hj => by have := (C.2.1.2.2.2.1 j pos hj (Nat.le_refl _)).2.2; rw [C.2.1.2.2.1] at this; exact this
  have CA2 := Cz_3 (j := 10) (v := nI n) CA1 (by omega)
  have CA3 := Cz_at CA2 (d := d0 + 1) (by omega) (Nat.le_refl _) (by omega) (fun j hj => by rw [ex_le (by omega)]; exact hLle j (by omega))
  have CA4 := Cz_nd (a := 15) (j := n) (v := nI ρ) (Cz_ar CA3 (T0 := τ) (by omega) (Nat.le_refl _) (by omega) (fun j hj => by rw [ex_le (by omega)]; exact hMle j (by omega))) (by omega) (Nat.le_refl _)
  have CA5 := Cz_ar CA4 (T0 := τ) (by omega) (by omega) (by omega) (fun j hj => by rw [if_pos hj, ex_le (by omega)]; have := hMle j (by omega); omega)
  have CA6 := Cz_ar CA5 (T0 := τ) (by omega) (by omega) (by omega) (fun j hj => by rw [if_pos hj, if_pos hj, ex_le (by omega)]; have := hMle j (by omega); omega)
  have CA7 := Cz_3 (j := 7) (v := 3) (Cz_B (B' := pl (pos + 1)) CA6 (by rw [B1]; omega)) (by omega)
  obtain ⟨X3, hX3⟩ : ∃ X, X = atS (uI A1 3 10 (nI n)) τ (nI (d0 + 1)) := ⟨_, rfl⟩
  obtain ⟨X4, hX4⟩ : ∃ X, X = uI (arS X3 ρ (nI τ)) 15 n (nI ρ) := ⟨_, rfl⟩
  obtain ⟨X5, hX5⟩ : ∃ X, X = arS X4 (ρ + 1) (nI τ) := ⟨_, rfl⟩
  obtain ⟨X6, hX6⟩ : ∃ X, X = arS X5 (ρ + 1 + 1) (nI τ) := ⟨_, rfl⟩
  obtain ⟨A, hA⟩ : ∃ A, A = uI X6 3 7 3 := ⟨_, rfl⟩
  rw [← hX3] at CA3 CA4 CA5 CA6 CA7
  rw [← hX4] at CA4 CA5 CA6 CA7
  rw [← hX5] at CA5 CA6 CA7
  rw [← hX6, ← hA] at CA7
  have x3 : ∀ a j : Nat, (a ≠ 28 ∨ j ≠ τ) → (a ≠ 29 ∨ j ≠ τ) → a ≠ 22 → (a ≠ 3 ∨ j ≠ 10) → X3.1 a j = A1.1 a j := fun a j u1 u2 u3 u4 => by rw [hX3, at_ne (by omega), uI_ne (by omega)]
  have x6 : ∀ a j : Nat, (a ≠ 26 ∨ (j ≠ ρ ∧ j ≠ ρ + 1 ∧ j ≠ ρ + 2)) → (a ≠ 27 ∨ (j ≠ ρ ∧ j ≠ ρ + 1 ∧ j ≠ ρ + 2)) → a ≠ 22 → (a ≠ 15 ∨ j ≠ n) → (a ≠ 3 ∨ j ≠ 7) → A.1 a j = X3.1 a j := fun a j u1 u2 u3 u4 u5 => by
    rw [hA, uI_ne (by omega), hX6, rg_ne (by omega), hX5, rg_ne (by omega), hX4, uI_ne (by omega), rg_ne (by omega)]
  have hop : dueF fu 0 S = some (1, A) := by
    rw [due0, op_9 T C.1 hd hdep hk9]
    unfold f_X7_openLoop
    have b0' : f_X7_addHere 9 0 0 S = some (nI n, A1) := a0
    rw [b0']
    simp only [Option.bind_some]
    rw [c_inT (τ := τ) (by omega) (by rw [uI_ne (by omega)]; exact b17) (by omega) (by rw [uI_ne (by omega)]; exact h29) CA2.1.tt (by omega), ← hX3]
    simp only [Option.bind_some]
    have q10 : X3.1 3 10 = nI n := by rw [hX3, at_ne (by omega), uI_eq]
    rw [c_addR CA3.1.rr (by omega)]
    simp only [Option.bind_some, q10, mI_in (a := n) (n := 512) (by omega) (by omega), nI_clamp (show n < 2 ^ 31 by omega), gd_t]
    rw [← hX4, c_addR CA4.1.rr (by omega), ← hX5]
    simp only [Option.bind_some]
    rw [c_addR CA5.1.rr (by omega), ← hX6]
    simp only [Option.bind_some]
    rw [← hA]
    rfl
  have r3 := rg_f X3 ρ (nI τ)
  have r4 := rg_f X4 (ρ + 1) (nI τ)
  have r5 := rg_f X5 (ρ + 1 + 1) (nI τ)
  have An : ∀ a : Nat, 7 ≤ a → a ≤ 20 → a ≠ 15 → A.1 a n = A1.1 a n := fun a u1 u2 u3 => by rw [x6 a n (by omega) (by omega) (by omega) (by omega) (by omega), x3 a n (by omega) (by omega) (by omega) (by omega)]
  have A27 : A.1 27 R = nI T0 := by rw [x6 27 R (by omega) (by omega) (by omega) (by omega) (by omega), x3 27 R (by omega) (by omega) (by omega) (by omega)]; exact h27
  refine ⟨hp, A, _, _, _, hop, CA7, ?_, by rw [hA, uI_eq]; rfl, ?_, ⟨?_, ?_, ?_, ?_, ?_, ?_, ?_, ?_⟩, ?_, ?_, ⟨?_, ?_, ?_, ?_, ?_, ?_⟩, ?_, ⟨en, en1, ?_, ?_, ?_, ?_⟩⟩
  · intro j hj
    refine ⟨ex_le hj, ?_, ?_⟩
    · show (if j < pos + 1 then (if j < pos + 1 then (if j < pos + 1 then ex M pos ρ j else ρ + 1) else ρ + 1 + 1) else ρ + 1 + 1 + 1) = M j
      rw [if_pos (by omega), if_pos (by omega), if_pos (by omega)]; exact ex_le hj
    · show (if j < pos + 1 then ex L pos τ j else τ + 1) = L j
      rw [if_pos (by omega)]; exact ex_le hj
  · rw [x6 3 10 (by omega) (by omega) (by omega) (by omega) (by omega), hX3, at_ne (by omega), uI_eq]
  · rw [An 7 (by omega) (by omega) (by omega)]; exact b1
  · rw [hA, hX6, hX5, hX4, hX3]; exact b3
  · rw [An 17 (by omega) (by omega) (by omega), A27]; exact b17
  · rw [An 19 (by omega) (by omega) (by omega)]; exact b5
  · rw [An 20 (by omega) (by omega) (by omega)]; exact fz.2.2.2.2.2.2.2
  · rw [An 14 (by omega) (by omega) (by omega)]; exact fz.2.2.2.2.2.1
  · rw [hA, uI_ne (by omega), hX6, rg_ne (by omega), hX5, rg_ne (by omega), hX4, uI_eq]
  · rw [An 12 (by omega) (by omega) (by omega)]; exact fz.2.2.2.1
  · rw [x6 26 R (by omega) (by omega) (by omega) (by omega) (by omega), x3 26 R (by omega) (by omega) (by omega) (by omega)]; exact lf.1
  · rw [An 16 (by omega) (by omega) (by omega)]; exact lf.2
  · rw [hA, uI_ne (by omega), hX6, rg_ne (by omega), hX5, rg_ne (by omega), hX4, uI_ne (by omega)]; exact r3.2.1
  · rw [hA, uI_ne (by omega), hX6, rg_ne (by omega), hX5]; exact r4.2.1
  · rw [hA, uI_ne (by omega), hX6]; exact r5.2.1
  · rw [hA, uI_ne (by omega), hX6, rg_ne (by omega), hX5, rg_ne (by omega), hX4, uI_ne (by omega)]; exact r3.1
  · rw [hA, uI_ne (by omega), hX6, rg_ne (by omega), hX5]; exact r4.1
  · rw [hA, uI_ne (by omega), hX6]; exact r5.1
  · refine ⟨T0, d0, hT0, A27, ?_, ?_⟩
    · rw [x6 29 T0 (by omega) (by omega) (by omega) (by omega) (by omega), x3 29 T0 (by omega) (by omega) (by omega) (by omega)]; exact h29
    · rw [x6 29 τ (by omega) (by omega) (by omega) (by omega) (by omega), hX3]; exact (at_f _ τ (nI (d0 + 1))).2.1
  · show (if pos < pos + 1 then (if pos < pos + 1 then (if pos < pos + 1 then ex M pos ρ pos else ρ + 1) else ρ + 1 + 1) else ρ + 1 + 1 + 1) = ρ
    rw [if_pos (by omega), if_pos (by omega), if_pos (by omega), ex_le (by omega)]; exact C.2.1.2.1
  · show (if pos + 1 < pos + 1 then _ else ρ + 1 + 1 + 1) = ρ + 3
    rw [if_neg (by omega)]
  · show (if pos < pos + 1 then ex L pos τ pos else τ + 1) = τ
    rw [if_pos (by omega), ex_le (by omega)]; exact C.2.1.2.2.1
  · show (if pos + 1 < pos + 1 then _ else τ + 1) = τ + 1
    rw [if_neg (by omega)]
end CLO
