/-! the class's parser: tab -/
theorem c_inT {A : im_S} {n T0 d0 τ : Nat} (hn : n < 512) (h17 : A.1 17 n = nI T0) (hT : T0 < 512) (h29 : A.1 29 T0 = nI d0) (h9 : A.1 22 9 = nI τ) (hτ : τ < 512) : f_X3_addInnerTemplate (nI n) A = some (nI τ, atS A τ (nI (d0 + 1))) := by
  unfold f_X3_addInnerTemplate
  rw [mI_in (a := n) (n := 512) (by omega) hn, nI_clamp (show n < 2 ^ 31 by omega), h17, mI_in (a := T0) (n := 512) (by omega) hT, nI_clamp (show T0 < 2 ^ 31 by omega), h29, show nI d0 + 1 = nI (d0 + 1) from nI_add d0 1]
  simp only [gd_t]
  rw [c_addT h9 hτ]
  rfl
section CTB
variable {K pl : Nat → Nat} {V : Nat → Int64} {m fu : Nat} {Q : Int32 → im_S → Prop} {S : im_S} {N M L : Nat → Nat} {pos dep sz n ρ τ f k R : Nat} {γ : List Nat}
theorem ctk_chk (p t : Nat) : chk pl (tvV (V p)) p t = ctk pl V p t := rfl
theorem kb_cons (b p : Nat) : kb pl V (b :: γ) p = if V b = V p then 4 * pl p + 2 else kb pl V γ p := by
  unfold kb
  by_cases h : V b = V p
  · rw [if_pos h]
    show (if (fnd V (b :: γ) p).isSome then _ else _) = _
    unfold fnd
    rw [if_pos h]
    rfl
  · rw [if_neg h]
    show (if (fnd V (b :: γ) p).isSome then _ else _) = _
    conv => lhs; unfold fnd
    rw [if_neg h]
theorem Tp_ck {k' : Nat} {w : Int32} (h : Tp S sz k R) : Tp (ckS S k' w) sz k R := ⟨h.1, by rw [ck_ne (by omega)]; exact h.2.1, h.2.2.1, by rw [ck_ne (by omega)]; exact h.2.2.2⟩
theorem Tp_uI {a j : Nat} {v : Int32} (h : Tp S sz k R) (ha : a < 35 ∨ 37 < a) : Tp (uI S a j v) sz k R := ⟨h.1, by rw [uI_ne (by omega)]; exact h.2.1, h.2.2.1, by rw [uI_ne (by omega)]; exact h.2.2.2⟩
/-- what openTab leaves -/
def TbO (K pl : Nat → Nat) (V : Nat → Int64) (m : Nat) (S : im_S) (N M L : Nat → Nat) (pos dep sz : Nat) (γ : List Nat) (n ρ τ f R : Nat) (A : im_S) (N3 M3 L3 : Nat → Nat) : Prop :=
  Cz K pl V m S n ρ τ sz γ.length R A N3 M3 L3 (pos + 5) (dep + 1) (sz + 1) γ (n + 3) (ρ + 1) (τ + 1) (pl (pos + 5)) (min (min (min (min f (kb pl V γ (pos + 1))) (ctk pl V (pos + 1) 3)) (kb pl V ((pos + 1) :: γ) (pos + 3))) (ctk pl V (pos + 3) 1)) ∧ Ag N M L N3 M3 L3 pos ∧ A.1 3 7 = 0 ∧ A.1 35 sz = nI 23 ∧ A.1 36 sz = nI n ∧ A.1 37 sz = nI R ∧ (A.1 7 n = nI 10 ∧ A.1 8 n = nI 3 ∧ A.2.1 21 n = 0 ∧ A.1 17 n = A.1 27 R ∧ A.1 19 n = nI (pl pos) ∧ A.1 20 n = nI (pl pos) ∧ A.1 14 n = -1 ∧ A.1 15 n = nI ρ ∧ A.1 13 n = nI (n + 1)) ∧ (A.1 7 (n + 1) = 3 ∧ A.1 8 (n + 1) = nI (tvV (V (pos + 1))) ∧ A.2.1 21 (n + 1) = V (pos + 1) ∧ A.1 17 (n + 1) = nI τ ∧ A.1 14 (n + 1) = nI (n + 2)) ∧ (A.1 7 (n + 2) = 3 ∧ A.1 8 (n + 2) = nI (tvV (V (pos + 3))) ∧ A.2.1 21 (n + 2) = V (pos + 3) ∧ A.1 17 (n + 2) = nI τ ∧ A.1 10 (n + 2) = nI n) ∧ A.1 26 R = S.1 26 R ∧ A.1 27 ρ = nI τ ∧ A.1 26 ρ = -1 ∧ dpt A R τ ∧ (N3 pos = n ∧ N3 (pos + 1) = n + 1 ∧ N3 (pos + 2) = n + 2 ∧ N3 (pos + 3) = n + 2 ∧ N3 (pos + 4) = n + 3 ∧ M3 pos = ρ ∧ M3 (pos + 1) = ρ + 1 ∧ L3 pos = τ ∧ L3 (pos + 1) = τ + 1)
set_option maxHeartbeats 8000000 in
theorem c_tabO (T : TH K pl V m) (hfu : 600 ≤ fu) {d : Nat} (hB : Bg K pl V m S N M L pos dep sz γ n ρ τ f k R) (hd : S.1 3 7 = nI d) (hd1 : d ≤ 1) (hdep : d = 0 → dep < 20) (hk13 : K pos = 13) :
    (∀ e, (K (pos + 1) ≠ 1 ∧ e = pos + 1) ∨ (K (pos + 1) = 1 ∧ K (pos + 2) ≠ 91 ∧ e = pos + 2) ∨ (K (pos + 1) = 1 ∧ K (pos + 2) = 91 ∧ K (pos + 3) ≠ 1 ∧ e = pos + 3) ∨ (K (pos + 1) = 1 ∧ K (pos + 2) = 91 ∧ K (pos + 3) = 1 ∧ K (pos + 4) ≠ 60 ∧ e = pos + 4) → ∃ Z : im_S, dueF fu d S = some (0, rcS Z (pl e))) ∧
    (K (pos + 1) = 1 → K (pos + 2) = 91 → K (pos + 3) = 1 → K (pos + 4) = 60 → ∃ (A : im_S) (N3 M3 L3 : Nat → Nat), dueF fu d S = some (1, A) ∧ TbO K pl V m S N M L pos dep sz γ n ρ τ f R A N3 M3 L3) := by
  obtain ⟨C, hTp, hR, hpos⟩ := hB
  have hm := T.m_
  have hbd := C.1.bd
  have hpm := C.1.pm
  have hp := K_lt T.end_ hpm hk13 (by decide) (by decide)
  have hst : pl pos + 3 ≤ pl (pos + 1) := by have := T.st_ hp; rw [hk13] at this; exact this
  have hpl1 := T.pl_ (show pos + 1 ≤ m by omega)
  obtain ⟨A1, a0, CA1, ndA, fz, rd, rd2, -, nl, fx⟩ := c_here T C hTp hR (Or.inl rfl) (Nat.le_refl _) (pl_B T hpm) hp 10 (by omega) 3 0
  have nl := nl (by omega)
  have hTp1 : Tp A1 sz k R := Tp_Fr CA1.2.2.2.2.2 hTp
  have en : ex N pos (n + 1) pos = n := by rw [ex_le (Nat.le_refl _)]; exact C.2.1.1
  have en1 : ex N pos (n + 1) (pos + 1) = n + 1 := ex_gt (by omega)
  obtain ⟨b0, b1, b2, b3, b4, b5⟩ := ndA
  rw [en] at b1 b2 b3 b4 b5
  obtain ⟨T0, hT0, h27⟩ := SI_tp CA1.2.2.1 hR
  obtain ⟨d0, hd0, h29⟩ := SI_dp CA1.2.2.1 hT0
  have b17 : A1.1 17 n = nI T0 := by rw [b4]; exact h27
  have B1 : pl pos + wk 10 = pl pos + 1 := rfl
  have CA2 := Cz_at CA1 (d := d0 + 1) (by omega) (Nat.le_refl _) (by omega) (fun j hj => by rw [ex_le (by omega)]; have := (C.2.1.2.2.2.1 j pos (by omega) (Nat.le_refl _)).2.2; rw [C.2.1.2.2.1] at this; exact this)
  have CA3 := Cz_nd (a := 15) (j := n) (v := nI ρ) (Cz_ar CA2 (T0 := τ) (by omega) (Nat.le_refl _) (by omega) (fun j hj => by rw [ex_le (by omega)]; have := (C.2.1.2.2.2.1 j pos (by omega) (Nat.le_refl _)).2.1; rw [C.2.1.2.1] at this; exact this)) (by omega) (Nat.le_refl _)
  obtain ⟨A3, hA3⟩ : ∃ A3, A3 = uI (arS (atS A1 τ (nI (d0 + 1))) ρ (nI τ)) 15 n (nI ρ) := ⟨_, rfl⟩
  rw [← hA3] at CA3
  have rA3 : ∀ a j : Nat, (a ≠ 15 ∨ j ≠ n) → (a ≠ 26 ∨ j ≠ ρ) → (a ≠ 27 ∨ j ≠ ρ) → a ≠ 22 → (a ≠ 28 ∨ j ≠ τ) → (a ≠ 29 ∨ j ≠ τ) → A3.1 a j = A1.1 a j := fun a j u1 u2 u3 u4 u5 u6 => by
    rw [hA3, uI_ne (by omega), rg_ne (by omega), at_ne (by omega)]
  have hTp3 : Tp A3 sz k R := Tp_Fr CA3.2.2.2.2.2 hTp
  have e1n : ∀ j, j ≤ m → (nI (K j) = (1 : Int32) ↔ K j = 1) := fun j hj => nI_eq (a := K j) (b := 1) (by have := (tkK_c _ (T.2.1 j hj).2).2.2.2.2.2; omega) (by omega)
  have opn : dueF fu d S = (f_X7_openTab fu S).bind (fun q => gd (z_b q.1) (some (q.1, q.2))) := by
    have e : dueF fu d S = f_X7_operand fu S := by
      unfold dueF
      rw [if_neg (by omega), if_neg (by omega), if_neg (by omega)]
    rw [e, op_13 T C.1 hd hd1 hdep hk13]
  have o1 : f_X7_openTab fu S = f_X7_openTab fu S := rfl
  conv at o1 => rhs; unfold f_X7_openTab
  have b0' : f_X7_addHere 10 3 0 S = some (nI n, A1) := a0
  rw [b0'] at o1
  simp only [Option.bind_some] at o1
  rw [c_inT (by omega) b17 (by omega) h29 CA1.1.tt (by omega)] at o1
  simp only [Option.bind_some] at o1
  rw [c_addR CA2.1.rr (by omega)] at o1
  simp only [Option.bind_some, mI_in (a := n) (n := 512) (by omega) (by omega), nI_clamp (show n < 2 ^ 31 by omega), gd_t] at o1
  rw [← hA3, c_kind T CA3.1] at o1
  simp only [Option.bind_some] at o1
  by_cases h1 : ¬ K (pos + 1) = 1
  · refine ⟨fun e he => ⟨A3, ?_⟩, fun q => absurd q h1⟩
    have he : e = pos + 1 := by omega
    rw [if_neg (fun z => h1 ((e1n (pos + 1) (by omega)).mp z)), c_refuse T CA3.1] at o1
    rw [opn, o1, he]
    rfl
  have h1 : K (pos + 1) = 1 := Decidable.not_not.mp h1
  rw [if_pos ((e1n (pos + 1) (by omega)).mpr h1)] at o1
  have hp1 : pos + 1 < m := K_lt T.end_ (by omega) h1 (by decide) (by decide)
  have hst1 : pl (pos + 1) + 1 ≤ pl (pos + 2) := T.lt_ hp1
  have hpl2 := T.pl_ (show pos + 2 ≤ m by omega)
  obtain ⟨A4, a4, CA4, ndV, fzV, rdV, rdV2, fxV⟩ := c_bind T CA3 hTp3 (show R < ρ + 1 by omega) (Or.inl rfl) (by omega) (by rw [B1]; omega) hfu hp1 h1
  have hTp4 : Tp A4 sz k R := Tp_Fr CA4.2.2.2.2.2 hTp
  have eV : ex (ex N pos (n + 1)) (pos + 1) (n + 1 + 1) (pos + 1) = n + 1 := by rw [ex_le (by omega)]; exact en1
  obtain ⟨v0, v1, v2, v3, v4, v5⟩ := ndV
  rw [eV] at v1 v2 v3 v4 v5
  rw [a4] at o1
  simp only [Option.bind_some] at o1
  have t1 := tvV_r (V (pos + 1))
  have hck : f_X7_checkType (nI (n + 1)) 3 A4 = some ((), ckS A4 (n + 1) (nI 3)) := c_chk (by omega) (nI 3)
  rw [hck] at o1
  simp only [Option.bind_some] at o1
  have CA6 := Cz_nd (a := 13) (j := n) (v := nI (n + 1)) (Cz_ck (b := pos + 1) (ty := tvV (V (pos + 1))) (t := 3) CA4 v2 fzV.2.2.2.2.2.2.2 (by omega) (by omega) (by omega)) (by omega) (Nat.le_refl _)
  obtain ⟨A6, hA6⟩ : ∃ A6, A6 = uI (ckS A4 (n + 1) (nI 3)) 13 n (nI (n + 1)) := ⟨_, rfl⟩
  rw [← hA6] at CA6 o1
  have rA6 : ∀ a j : Nat, (a ≠ 13 ∨ j ≠ n) → a ≠ 5 → A6.1 a j = A4.1 a j := fun a j u1 u2 => by rw [hA6, uI_ne (by omega), ck_ne (by omega)]
  have rA6l : A6.2.1 = A4.2.1 := by rw [hA6]; exact ck_21 A4 _ _
  rw [show (91 : Int32) = nI 91 from rfl, c_take T CA6.1 91 (by omega)] at o1
  by_cases h91 : ¬ K (pos + 2) = 91
  · refine ⟨fun e he => ⟨rcS A6 (pl (pos + 2)), ?_⟩, fun _ q => absurd q h91⟩
    have he : e = pos + 2 := by omega
    rw [if_neg h91] at o1
    simp only [Option.bind_some] at o1
    have P7 : Pz K pl V m (rcS A6 (pl (pos + 1 + 1))) (ex (ex N pos (n + 1)) (pos + 1) (n + 1 + 1)) (pos + 2) dep sz γ (n + 1 + 1) (ρ + 1) (τ + 1) := by
      unfold rcS
      exact Pz_uI (Pz_uI CA6.1 (by unfold nPz; omega)) (by unfold nPz; omega)
    rw [if_pos trivial, c_refuse T P7] at o1
    rw [opn, o1, he]
    rfl
  have h91 : K (pos + 2) = 91 := Decidable.not_not.mp h91
  rw [if_pos h91] at o1
  simp only [Option.bind_some] at o1
  rw [if_neg (show ¬ (1 : Int32) = 0 by decide)] at o1
  have hp2 : pos + 2 < m := K_lt T.end_ (by omega) h91 (by decide) (by decide)
  have hst2 : pl (pos + 2) + 1 ≤ pl (pos + 3) := T.lt_ hp2
  have hpl3 := T.pl_ (show pos + 3 ≤ m by omega)
  have CA7 := Cz_ad T CA6 hp2
  rw [c_kind T CA7.1] at o1
  simp only [Option.bind_some] at o1
  by_cases h3 : ¬ K (pos + 2 + 1) = 1
  · refine ⟨fun e he => ⟨ad6 A6 (pos + 2 + 1), ?_⟩, fun _ _ q => absurd q h3⟩
    have he : e = pos + 3 := by have h3' : ¬ K (pos + 3) = 1 := h3; omega
    rw [if_neg (fun z => h3 ((e1n (pos + 3) (by omega)).mp z)), c_refuse T CA7.1] at o1
    rw [opn, o1, he]
    rfl
  have h3 : K (pos + 3) = 1 := Decidable.not_not.mp h3
  rw [if_pos ((e1n (pos + 3) (by omega)).mpr h3)] at o1
  have hp3 : pos + 3 < m := K_lt T.end_ (by omega) h3 (by decide) (by decide)
  have hst3 : pl (pos + 3) + 1 ≤ pl (pos + 4) := T.lt_ hp3
  have hpl4 := T.pl_ (show pos + 4 ≤ m by omega)
  have hin : in_b (nI (pos + 3)) 501 = true := mI_in (by omega) (by omega)
  have hcl3 : (nI (pos + 3)).toNatClampNeg = pos + 3 := nI_clamp (by omega)
  have e33 : (ad6 A6 (pos + 2 + 1)).2.1 33 (pos + 3) = V (pos + 3) := (CA7.1.ct (pos + 3) (by omega)).2.2 (Or.inl h3)
  have e21 : (ad6 A6 (pos + 2 + 1)).2.1 21 (n + 1) = V (pos + 1) := by
    show A6.2.1 21 (n + 1) = _
    rw [rA6l]; exact v3
  have e36 : (ad6 A6 (pos + 2 + 1)).1 3 6 = nI (pos + 3) := CA7.1.at_
  simp only [e36, hin, hcl3, e33, e21, mI_in (a := n + 1) (n := 512) (by omega) (by omega), nI_clamp (show n + 1 < 2 ^ 31 by omega), gd_t] at o1
  obtain ⟨A8, hA8⟩ : ∃ A8, A8 = if V (pos + 3) = V (pos + 1) then ntS (ad6 A6 (pos + 2 + 1)) 2 (nI (pl (pos + 3))) else ad6 A6 (pos + 2 + 1) := ⟨_, rfl⟩
  obtain ⟨f8, hf8⟩ : ∃ f8, f8 = if V (pos + 3) = V (pos + 1) then min (min (min f (kb pl V γ (pos + 1))) (chk pl (tvV (V (pos + 1))) (pos + 1) 3)) (4 * pl (pos + 3) + 2) else min (min f (kb pl V γ (pos + 1))) (chk pl (tvV (V (pos + 1))) (pos + 1) 3) := ⟨_, rfl⟩
  have CA8 : Cz K pl V m S n ρ τ sz γ.length R A8 (ex (ex (ex N pos (n + 1)) (pos + 1) (n + 1 + 1)) (pos + 2) (n + 1 + 1)) (ex (ex (fun i => if i < pos + 1 then ex M pos ρ i else ρ + 1) (pos + 1) (ρ + 1)) (pos + 2) (ρ + 1)) (ex (ex (fun i => if i < pos + 1 then ex L pos τ i else τ + 1) (pos + 1) (τ + 1)) (pos + 2) (τ + 1)) (pos + 3) dep sz γ (n + 1 + 1) (ρ + 1) (τ + 1) (pl pos + wk 10 + 1) f8 := by
    rw [hA8, hf8]
    by_cases hv : V (pos + 3) = V (pos + 1)
    · rw [if_pos hv, if_pos hv]; exact Cz_nt (k := 2) CA7 (by omega) (by omega) (by omega)
    · rw [if_neg hv, if_neg hv]; exact CA7
  have rA8 : ∀ a j : Nat, a ≠ 5 → (a ≠ 3 ∨ j ≠ 6) → A8.1 a j = A6.1 a j := fun a j u1 u2 => by
    rw [hA8]
    by_cases hv : V (pos + 3) = V (pos + 1)
    · rw [if_pos hv, nt_ne _ _ _ u1]; unfold ad6; rw [uI_ne (by omega)]
    · rw [if_neg hv]; unfold ad6; rw [uI_ne (by omega)]
  have rA8l : A8.2.1 = A6.2.1 := by
    rw [hA8]
    by_cases hv : V (pos + 3) = V (pos + 1)
    · rw [if_pos hv, nt_21]; rfl
    · rw [if_neg hv]; rfl
  have hTp8 : Tp A8 sz k R := Tp_Fr CA8.2.2.2.2.2 hTp
  obtain ⟨A9, a9, CA9, ndW, fzW, rdW, rdW2, fxW⟩ := c_bind T CA8 hTp8 (show R < ρ + 1 by omega) (Or.inl rfl) (by omega) (by rw [B1]; omega) hfu hp3 h3
  obtain ⟨w0, w1, w2, w3, w4, w5⟩ := ndW
  have eN2 : ∀ j, j ≤ pos + 2 → ex (ex (ex (ex N pos (n + 1)) (pos + 1) (n + 1 + 1)) (pos + 2) (n + 1 + 1)) (pos + 3) (n + 1 + 1 + 1) j = ex (ex N pos (n + 1)) (pos + 1) (n + 1 + 1) j := fun j hj => by rw [ex_le (by omega), ex_le hj]
  have eW : ex (ex (ex (ex N pos (n + 1)) (pos + 1) (n + 1 + 1)) (pos + 2) (n + 1 + 1)) (pos + 3) (n + 1 + 1 + 1) (pos + 3) = n + 2 := by rw [ex_le (by omega), ex_gt (by omega)]
  rw [eW] at w1 w2 w3 w4 w5
  have t3 := tvV_r (V (pos + 3))
  have CA10 := Cz_ck (b := pos + 3) (ty := tvV (V (pos + 3))) (t := 1) CA9 w2 fzW.2.2.2.2.2.2.2 (by omega) (by omega) (by omega)
  have CA11 := Cz_nd (a := 10) (j := n + 2) (v := nI n) (Cz_nd (a := 14) (j := n + 1) (v := nI (n + 2)) CA10 (by omega) (by omega)) (by omega) (by omega)
  obtain ⟨A11, hA11⟩ : ∃ A11, A11 = uI (uI (ckS A9 (n + 1 + 1) (nI 1)) 14 (n + 1) (nI (n + 2))) 10 (n + 2) (nI n) := ⟨_, rfl⟩
  rw [← hA11] at CA11
  have rA11 : ∀ a j : Nat, (a ≠ 14 ∨ j ≠ n + 1) → (a ≠ 10 ∨ j ≠ n + 2) → a ≠ 5 → A11.1 a j = A9.1 a j := fun a j u1 u2 u3 => by rw [hA11, uI_ne (by omega), uI_ne (by omega), ck_ne (by omega)]
  have rA11l : A11.2.1 = A9.2.1 := by rw [hA11]; exact ck_21 A9 _ _
  -- the fields in A11 of what stood before
  have r9 : ∀ a j : Nat, 7 ≤ a → (j ≠ n + 2 ∨ 20 < a) → a ≠ 28 → (a ≠ 13 ∨ j ≠ n) → A9.1 a j = A4.1 a j := fun a j u1 u2 u3 u4 => by rw [rdW a j (by omega) (by omega) (by omega) (by omega) (by omega), rA8 a j (by omega) (by omega), rA6 a j (by omega) (by omega)]
  have r11 : ∀ a j : Nat, 7 ≤ a → (j ≠ n + 2 ∨ 20 < a) → a ≠ 28 → (a ≠ 13 ∨ j ≠ n) → (a ≠ 14 ∨ j ≠ n + 1) → A11.1 a j = A4.1 a j := fun a j u1 u2 u3 u4 u5 => by rw [rA11 a j (by omega) (by omega) (by omega), r9 a j u1 u2 u3 u4]
  have g27 : A11.1 27 ρ = nI τ := by
    rw [r11 27 ρ (by omega) (by omega) (by omega) (by omega) (by omega), rdV 27 ρ (by omega) (by omega) (by omega) (by omega) (by omega), hA3, uI_ne (by omega)]
    exact (rg_f _ ρ (nI τ)).2.1
  obtain ⟨s1, hs1b, hs1⟩ := SI_get CA11.2.2.1 (show τ < τ + 1 by omega)
  have g7a : A11.1 7 (n + 1) = nI 3 := by rw [r11 7 (n + 1) (by omega) (by omega) (by omega) (by omega) (by omega)]; exact v1
  have g7b : A11.1 7 (n + 2) = nI 3 := by rw [rA11 7 (n + 2) (by omega) (by omega) (by omega)]; exact w1
  have hB9 : pl pos + wk 10 + 1 + 1 < 2 ^ 30 := by rw [B1]; omega
  have CA12 := Cz_mv CA11 (k := n + 1) (T0 := τ) (by omega) (by omega) (by omega) hs1 (by omega) hB9 g7a
  obtain ⟨s2, hs2b, hs2⟩ := SI_get CA12.2.2.1 (show τ < τ + 1 by omega)
  have CA13 := Cz_mv CA12 (k := n + 2) (T0 := τ) (by omega) (by omega) (by omega) hs2 (by omega) (by omega) (by rw [mv_ne (by omega)]; exact g7b)
  obtain ⟨A13, hA13⟩ : ∃ A13, A13 = mvS (mvS A11 (n + 1) τ s1 1) (n + 2) τ s2 1 := ⟨_, rfl⟩
  rw [← hA13] at CA13
  have rA13 : ∀ a j : Nat, a ≠ 28 → ((a ≠ 17 ∧ a ≠ 18) ∨ (j ≠ n + 1 ∧ j ≠ n + 2)) → A13.1 a j = A11.1 a j := fun a j u1 u2 => by rw [hA13, mv_ne (by omega), mv_ne (by omega)]
  have CA14 := Cz_9 CA13 (dep + 1)
  have o2 : f_X7_openTab fu S = (f_X7_take 60 (uI A13 3 9 (nI (dep + 1)))).bind (fun qS44 => if (qS44.1 : Int32) = 0 then (some (0, qS44.2)) else ((f_X6_topRegion qS44.2).bind (fun qS48 => (f_X7_open 23 (nI n) qS48.1 qS48.2).bind (fun qS51 => if (qS51.1 : Int32) = 0 then (some (0, qS51.2)) else (some (1, qS51.2)))))) := by
    have hck2 : f_X7_checkType (nI (n + 1 + 1)) 1 A9 = some ((), ckS A9 (n + 1 + 1) (nI 1)) := c_chk (by omega) (nI 1)
    have q27 : (ckS A9 (n + 1 + 1) (nI 1)).1 27 ρ = nI τ := by
      rw [hA11, uI_ne (by omega), uI_ne (by omega)] at g27
      exact g27
    have q27' : (mvS A11 (n + 1) τ s1 1).1 27 ρ = nI τ := by rw [mv_ne (by omega)]; exact g27
    by_cases hv : V (pos + 3) = V (pos + 1)
    · rw [if_neg (fun z => z ((lg_cmp_eq _ _).mpr hv)), c_place T CA7.1] at o1
      simp only [Option.bind_some, c_note] at o1
      rw [if_pos hv] at hA8
      have a9' : f_X7_bindHere fu (ntS (ad6 A6 (pos + 1 + 1 + 1)) 2 (nI (pl (pos + 1 + 1 + 1)))) = some (nI (n + 1 + 1), A9) := by rw [hA8] at a9; exact a9
      rw [a9'] at o1
      simp only [Option.bind_some] at o1
      rw [hck2] at o1
      simp only [Option.bind_some, mI_in (a := n + 1 + 1) (n := 512) (by omega) (by omega), nI_clamp (show n + 1 + 1 < 2 ^ 31 by omega), mI_in (a := ρ) (n := 512) (by omega) (by omega), nI_clamp (show ρ < 2 ^ 31 by omega), gd_t, q27] at o1
      rw [show uI (uI (ckS A9 (n + 1 + 1) (nI 1)) 14 (n + 1) (nI (n + 1 + 1))) 10 (n + 1 + 1) (nI n) = A11 from hA11.symm, c_move (k := n + 1) (T := τ) (c := 3) (by omega) (by omega) g7a (by omega) hs1, show wk 3 = 1 from rfl] at o1
      simp only [Option.bind_some] at o1
      rw [q27', c_move (k := n + 1 + 1) (T := τ) (c := 3) (by omega) (by omega) (by rw [mv_ne (by omega)]; exact g7b) (by omega) hs2] at o1
      simp only [Option.bind_some] at o1
      rw [show mvS (mvS A11 (n + 1) τ s1 1) (n + 1 + 1) τ s2 (wk 3) = A13 from hA13.symm, CA13.1.dp, show nI dep + 1 = nI (dep + 1) from nI_add dep 1] at o1
      exact o1
    · rw [if_pos (fun z => hv ((lg_cmp_eq _ _).mp z))] at o1
      rw [if_neg hv] at hA8
      have a9' : f_X7_bindHere fu (ad6 A6 (pos + 1 + 1 + 1)) = some (nI (n + 1 + 1), A9) := by rw [hA8] at a9; exact a9
      rw [a9'] at o1
      simp only [Option.bind_some] at o1
      rw [hck2] at o1
      simp only [Option.bind_some, mI_in (a := n + 1 + 1) (n := 512) (by omega) (by omega), nI_clamp (show n + 1 + 1 < 2 ^ 31 by omega), mI_in (a := ρ) (n := 512) (by omega) (by omega), nI_clamp (show ρ < 2 ^ 31 by omega), gd_t, q27] at o1
      rw [show uI (uI (ckS A9 (n + 1 + 1) (nI 1)) 14 (n + 1) (nI (n + 1 + 1))) 10 (n + 1 + 1) (nI n) = A11 from hA11.symm, c_move (k := n + 1) (T := τ) (c := 3) (by omega) (by omega) g7a (by omega) hs1, show wk 3 = 1 from rfl] at o1
      simp only [Option.bind_some] at o1
      rw [q27', c_move (k := n + 1 + 1) (T := τ) (c := 3) (by omega) (by omega) (by rw [mv_ne (by omega)]; exact g7b) (by omega) hs2] at o1
      simp only [Option.bind_some] at o1
      rw [show mvS (mvS A11 (n + 1) τ s1 1) (n + 1 + 1) τ s2 (wk 3) = A13 from hA13.symm, CA13.1.dp, show nI dep + 1 = nI (dep + 1) from nI_add dep 1] at o1
      exact o1
  rw [show (60 : Int32) = nI 60 from rfl, c_take T CA14.1 60 (by omega)] at o2
  by_cases h60 : ¬ K (pos + 4) = 60
  · refine ⟨fun e he => ⟨uI A13 3 9 (nI (dep + 1)), ?_⟩, fun _ _ _ q => absurd q h60⟩
    have he : e = pos + 4 := by omega
    rw [if_neg h60] at o2
    rw [opn, o2, he]
    rfl
  have h60 : K (pos + 4) = 60 := Decidable.not_not.mp h60
  refine ⟨fun e he => absurd he (by omega), fun _ _ _ _ => ?_⟩
  rw [if_pos h60] at o2
  simp only [Option.bind_some] at o2
  rw [if_neg (show ¬ (1 : Int32) = 0 by decide)] at o2
  have hp4 : pos + 4 < m := K_lt T.end_ (by omega) h60 (by decide) (by decide)
  have hst4 : pl (pos + 4) + 1 ≤ pl (pos + 5) := T.lt_ hp4
  have CA15 := Cz_B (B' := pl (pos + 5)) (Cz_ad T CA14 hp4) (by rw [B1]; omega)
  obtain ⟨A15, hA15⟩ : ∃ A15, A15 = ad6 (uI A13 3 9 (nI (dep + 1))) (pos + 4 + 1) := ⟨_, rfl⟩
  rw [← hA15] at CA15
  rw [show ad6 (uI A13 3 9 (nI (dep + 1))) (pos + 3 + 1 + 1) = A15 from hA15.symm] at o2
  obtain ⟨sz', hsz'⟩ : ∃ z, sz = z + 1 := ⟨sz - 1, by have := hTp.1; omega⟩
  have hTp15 : Tp A15 sz k R := Tp_Fr CA15.2.2.2.2.2 hTp
  obtain ⟨A, hA⟩ : ∃ A, A = uI (psS A15 sz 23 (nI n) (nI R)) 3 7 0 := ⟨_, rfl⟩
  have hop : dueF fu d S = some (1, A) := by
    have q37 : A15.1 37 sz' = nI R := by
      have := hTp15.2.2.2
      rw [hsz', Nat.add_sub_cancel] at this
      exact this
    rw [opn, o2, c_topR (sz := sz') (by rw [← hsz']; exact CA15.1.sz_) (by omega), q37]
    simp only [Option.bind_some]
    unfold f_X7_open
    rw [c_push CA15.1.sz_ (by omega)]
    simp only [Option.bind_some]
    rw [if_neg (show ¬ (1 : Int32) = 0 by decide), hA]
    rfl
  have rA : ∀ a j : Nat, a ≠ 3 → (a < 34 ∨ 37 < a) → A.1 a j = A13.1 a j := fun a j u1 u2 => by
    rw [hA, hA15]; unfold ad6; rw [uI_ne (by omega), ps_ne (by omega), uI_ne (by omega), uI_ne (by omega)]
  have rAl : A.2.1 = A9.2.1 := by rw [hA, hA15, hA13]; exact rA11l
  have CA := Cz_3 (j := 7) (v := 0) (Cz_push CA15 23 (nI n) (nI R) (by omega) (Nat.le_refl _)) (by omega)
  rw [← hA] at CA
  have hff : min (min f8 (kb pl V γ (pos + 3))) (chk pl (tvV (V (pos + 3))) (pos + 3) 1) = min (min (min (min f (kb pl V γ (pos + 1))) (ctk pl V (pos + 1) 3)) (kb pl V ((pos + 1) :: γ) (pos + 3))) (ctk pl V (pos + 3) 1) := by
    rw [ctk_chk, ← ctk_chk (pos + 1) 3, hf8, kb_cons]
    have hkb : kb pl V γ (pos + 3) = 4 * pl (pos + 3) + 2 ∨ kb pl V γ (pos + 3) = 4000 := by unfold kb; split <;> omega
    have hf := C.2.2.2.2.1
    by_cases hv : V (pos + 3) = V (pos + 1)
    · rw [if_pos hv, if_pos hv.symm]; omega
    · rw [if_neg hv, if_neg (fun z => hv z.symm)]
  rw [hff] at CA
  have zN : ∀ j, j ≤ pos + 3 → ex (ex (ex (ex (ex N pos (n + 1)) (pos + 1) (n + 1 + 1)) (pos + 2) (n + 1 + 1)) (pos + 3) (n + 1 + 1 + 1)) (pos + 4) (n + 1 + 1 + 1) j = ex (ex (ex N pos (n + 1)) (pos + 1) (n + 1 + 1)) (pos + 2) (n + 1 + 1) j := fun j hj => by rw [ex_le (by omega), ex_le (by omega)]
  have zM : ∀ j, j ≤ pos + 1 → ex (ex (ex (ex (fun i => if i < pos + 1 then ex M pos ρ i else ρ + 1) (pos + 1) (ρ + 1)) (pos + 2) (ρ + 1)) (pos + 3) (ρ + 1)) (pos + 4) (ρ + 1) j = if j < pos + 1 then ex M pos ρ j else ρ + 1 := fun j hj => by rw [ex_le (by omega), ex_le (by omega), ex_le (by omega), ex_le (by omega)]
  have zL : ∀ j, j ≤ pos + 1 → ex (ex (ex (ex (fun i => if i < pos + 1 then ex L pos τ i else τ + 1) (pos + 1) (τ + 1)) (pos + 2) (τ + 1)) (pos + 3) (τ + 1)) (pos + 4) (τ + 1) j = if j < pos + 1 then ex L pos τ j else τ + 1 := fun j hj => by rw [ex_le (by omega), ex_le (by omega), ex_le (by omega), ex_le (by omega)]
  have r13 : ∀ a : Nat, 7 ≤ a → a ≤ 20 → a ≠ 13 → a ≠ 15 → A.1 a n = A1.1 a n := fun a u1 u2 u3 u4 => by
    rw [rA a n (by omega) (by omega), rA13 a n (by omega) (by omega), r11 a n (by omega) (by omega) (by omega) (by omega) (by omega), rdV a n (by omega) (by omega) (by omega) (by omega) (by omega), rA3 a n (by omega) (by omega) (by omega) (by omega) (by omega) (by omega)]
  have rR : ∀ a j : Nat, (a = 26 ∨ a = 27 ∨ a = 29) → A.1 a j = A3.1 a j := fun a j u => by
    rw [rA a j (by omega) (by omega), rA13 a j (by omega) (by omega), r11 a j (by omega) (by omega) (by omega) (by omega) (by omega), rdV a j (by omega) (by omega) (by omega) (by omega) (by omega)]
  have g27R : A.1 27 R = nI T0 := by rw [rR 27 R (by omega), rA3 27 R (by omega) (by omega) (by omega) (by omega) (by omega) (by omega)]; exact h27
  have mv1 := mv_f A11 (n + 1) τ s1 1
  have mv2 := mv_f (mvS A11 (n + 1) τ s1 1) (n + 2) τ s2 1
  obtain ⟨q35, q36, q37, -⟩ := ps_f A15 sz 23 (nI n) (nI R)
  refine ⟨A, _, _, _, hop, CA, ?_, by rw [hA, uI_eq], by rw [hA, uI_ne (by omega)]; exact q35, by rw [hA, uI_ne (by omega)]; exact q36, by rw [hA, uI_ne (by omega)]; exact q37, ⟨?_, ?_, ?_, ?_, ?_, ?_, ?_, ?_, ?_⟩, ⟨?_, ?_, ?_, ?_, ?_⟩, ⟨?_, ?_, ?_, ?_, ?_⟩, ?_, ?_, ?_, ?_, ⟨?_, ?_, ?_, ?_, ?_, ?_, ?_, ?_, ?_⟩⟩
  · intro j hj
    refine ⟨?_, ?_, ?_⟩
    · rw [zN j (by omega), ex_le (by omega), ex_le (by omega), ex_le hj]
    · rw [zM j (by omega), if_pos (by omega), ex_le hj]
    · rw [zL j (by omega), if_pos (by omega), ex_le hj]
  · rw [r13 7 (by omega) (by omega) (by omega) (by omega)]; exact b1
  · rw [r13 8 (by omega) (by omega) (by omega) (by omega)]; exact b2
  · rw [rAl, rdW2 21 n (by omega), rA8l, rA6l, rdV2 21 n (by omega), hA3]; exact b3
  · rw [r13 17 (by omega) (by omega) (by omega) (by omega), g27R]; exact b17
  · rw [r13 19 (by omega) (by omega) (by omega) (by omega)]; exact b5
  · rw [r13 20 (by omega) (by omega) (by omega) (by omega)]; exact fz.2.2.2.2.2.2.2
  · rw [r13 14 (by omega) (by omega) (by omega) (by omega)]; exact fz.2.2.2.2.2.1
  · rw [rA 15 n (by omega) (by omega), rA13 15 n (by omega) (by omega), r11 15 n (by omega) (by omega) (by omega) (by omega) (by omega), rdV 15 n (by omega) (by omega) (by omega) (by omega) (by omega), hA3, uI_eq]
  · rw [rA 13 n (by omega) (by omega), rA13 13 n (by omega) (by omega), rA11 13 n (by omega) (by omega) (by omega), rdW 13 n (by omega) (by omega) (by omega) (by omega) (by omega), rA8 13 n (by omega) (by omega), hA6, uI_eq]
  · rw [rA 7 (n + 1) (by omega) (by omega), rA13 7 (n + 1) (by omega) (by omega)]; exact g7a
  · rw [rA 8 (n + 1) (by omega) (by omega), rA13 8 (n + 1) (by omega) (by omega), r11 8 (n + 1) (by omega) (by omega) (by omega) (by omega) (by omega)]; exact v2
  · rw [rAl, rdW2 21 (n + 1) (by omega), rA8l, rA6l]; exact v3
  · rw [rA 17 (n + 1) (by omega) (by omega), hA13, mv_ne (by omega)]; exact mv1.1
  · rw [rA 14 (n + 1) (by omega) (by omega), rA13 14 (n + 1) (by omega) (by omega), hA11, uI_ne (by omega), uI_eq]
  · rw [rA 7 (n + 2) (by omega) (by omega), rA13 7 (n + 2) (by omega) (by omega)]; exact g7b
  · rw [rA 8 (n + 2) (by omega) (by omega), rA13 8 (n + 2) (by omega) (by omega), rA11 8 (n + 2) (by omega) (by omega) (by omega)]; exact w2
  · rw [rAl]; exact w3
  · rw [rA 17 (n + 2) (by omega) (by omega), hA13]; exact mv2.1
  · rw [rA 10 (n + 2) (by omega) (by omega), rA13 10 (n + 2) (by omega) (by omega), hA11, uI_eq]
  · rw [rR 26 R (by omega), rA3 26 R (by omega) (by omega) (by omega) (by omega) (by omega) (by omega)]; exact nl
  · rw [rA 27 ρ (by omega) (by omega), rA13 27 ρ (by omega) (by omega)]; exact g27
  · rw [rR 26 ρ (by omega), hA3, uI_ne (by omega)]; exact (rg_f _ ρ (nI τ)).1
  · refine ⟨T0, d0, hT0, g27R, ?_, ?_⟩
    · rw [rR 29 T0 (by omega), rA3 29 T0 (by omega) (by omega) (by omega) (by omega) (by omega) (by omega)]; exact h29
    · rw [rR 29 τ (by omega), hA3, uI_ne (by omega), rg_ne (by omega)]; exact (at_f A1 τ (nI (d0 + 1))).2.1
  · rw [zN pos (by omega), ex_le (by omega), ex_le (by omega)]; exact en
  · rw [zN (pos + 1) (by omega), ex_le (by omega), ex_le (by omega)]; exact en1
  · rw [zN (pos + 2) (by omega), ex_le (by omega), ex_gt (by omega)]
  · rw [zN (pos + 3) (by omega), ex_gt (by omega)]
  · rw [ex_le (by omega), ex_gt (by omega)]
  · rw [zM pos (by omega), if_pos (by omega), ex_le (by omega)]; exact C.2.1.2.1
  · rw [zM (pos + 1) (by omega), if_neg (by omega)]
  · rw [zL pos (by omega), if_pos (by omega), ex_le (by omega)]; exact C.2.1.2.2.1
  · rw [zL (pos + 1) (by omega), if_neg (by omega)]
end CTB
