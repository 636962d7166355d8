/-! both compile: the same fault, and on a good text the same program -/
def PrA (n0 : Nat) (S E : im_S) : Prop := ∀ a i : Nat, Pr n0 a i → E.1 a i = S.1 a i ∧ E.2.1 a i = S.2.1 a i
theorem i64_inj {a b : Int32} (h : a.toInt64 = b.toInt64) : a = b := by
  have := congrArg Int64.toInt32 h
  simpa using this
theorem kq_tk_81 {a j : Nat} (h : 81 ≤ a) : kq_tk a j = true := by
  cases hf : kq_tk a j with
  | true => rfl
  | false =>
  exfalso
  simp only [kq_tk, Bool.not_eq_false', Bool.or_eq_true, Bool.and_eq_true, Nat.beq_eq, Bool.false_eq_true, or_false] at hf
  omega
section BTH
variable {K pl : Nat → Nat} {V : Nat → Int64} {m fu fr : Nat} {ν ρ : Nat → Nat} {W : Nat → Int32 × Int32 × Int32}
theorem RGd_H {y : TR} {e n' r' : Nat} {E S' : im_S} (h : RGd K pl V m fr y e n' r' ν ρ W E S') (hfr : fr = 0 ∨ fr = 8) : RHd K pl V m fr y e n' r' ν ρ W S' := by
  obtain ⟨h1, h2, h3, h4, h5, h6, h7, h8, h9, h10, h11, h12, h13, h14, -⟩ := h
  have z : ∀ a i : Nat, (81 ≤ a ∧ a ≤ 95) ∨ (97 ≤ a ∧ a ≤ 102) ∨ (113 ≤ a ∧ a ≤ 115) → S'.1 a i = E.1 a i := fun a i q => by rw [h13.1 a i (by omega) (by omega) (by omega), lyS_z (by omega)]
  have z2 : S'.2.1 = E.2.1 := h13.2
  refine ⟨h1, h2, h3, h4, hfr, h6, h7, ?_, ?_, FA_mp (fun c p cnt x q => ?_) (tsz y) y fr (Nat.le_refl _) h8, h9, FA_mp (fun c p cnt x q => ?_) (tsz y) y fr (Nat.le_refl _) h10, h11, h12, h14⟩
  · rw [h13.1 75 35 (by omega) (by omega) (by omega)]
    unfold lyS
    rw [uI_ne (by omega), uI_eq]
    exact h5.2.2.2.1
  · rw [h13.1 75 37 (by omega) (by omega) (by omega)]
    unfold lyS
    rw [uI_ne (by omega), uI_ne (by omega), uI_eq]
    exact h5.2.2.2.2.1
  · obtain ⟨f1, f2, f3, f4, f5, f6⟩ := q
    exact ⟨by rw [z2]; exact f1, by rw [z 98 c (by omega)]; exact f2, by rw [z 99 c (by omega)]; exact f3, fun i hi => ⟨by rw [z2]; exact (f4 i hi).1, by rw [z 101 _ (by omega)]; exact (f4 i hi).2⟩, by rw [z 102 c (by omega)]; exact f5, fun w hw => ⟨RN_ag (fun a i v1 v2 => z a i (by omega)) z2 (f6 w hw).1, (f6 w hw).2⟩⟩
  · exact BL_cp (fun a i q => z a i (by omega)) q
theorem mid (hfu : 600 ≤ fu) {L s : Nat} {t : Nat → Nat} (hL : L ≤ 500) {S0 C' : im_S} (htC : ∀ i, i < L → t i < 127 ∧ (clS S0).1 1 i = nI (t i)) (h2 : C'.1 75 2 = nI L) (htD : ∀ i, i < L → t i < 127 ∧ C'.1 76 i = nI (t i)) (h37 : C'.1 75 37 = nI s) (hs : s ≤ 1) :
    ∃ (K pl : Nat → Nat) (V : Nat → Int64) (m f : Nat) (X : im_S), TH K pl V m ∧ f ≤ 4000 ∧ f_X7_read fu (nI L) S0 = some (if f = 4000 then 1 else 0, X) ∧ FS X f ∧
      (f < 4000 → ∃ E : im_S, f_X11_compile fu C' = some (0, uI (uI E 75 2 0) 75 0 1) ∧ RFS E f ∧ PrA (600 * (1 - s)) C' E ∧ Fkc C' E) ∧
      (f = 4000 → ∃ (y : TR) (e : Nat) (N M L : Nat → Nat) (n ρ τ n' r' : Nat) (ν ρ' : Nat → Nat) (W : Nat → Int32 × Int32 × Int32) (E S' : im_S), CGd K pl V y e N M L n ρ τ X ∧ f_X11_compile fu C' = some (nI (ftP y).length, S') ∧ RGd K pl V m (8 * (1 - s)) y e n' r' ν ρ' W E S' ∧ (4000 ≤ rP K pl V (ftP y) y [] ∧ (FA (fun _ _ _ x => nl x ≤ 20) y 0 ∧ nlP y ≤ 20)) ∧ Fkc C' E) := by
  obtain ⟨C1, D, m, b1, b2, b3, b4⟩ := tok_rel (fu := fu) (by omega) hL (t := t) (C := clS S0) (D := uI (uI C' 75 3 0) 75 4 0) (by rw [uI_ne (by omega), uI_ne (by omega)]; exact h2) htC (fun i hi => by rw [uI_ne (by omega), uI_ne (by omega)]; exact htD i hi)
  obtain ⟨K, pl, V, T, hct, hT, hK0, hP⟩ := tok_KV b3 hL b4 (600 * (1 - s))
  have hm := T.m_
  obtain ⟨c1, c2⟩ := c_read (q := 3 * m + 4) T hfu (Nat.le_refl _) b1 hct
  obtain ⟨f, f1, f2, f3, f4, f5⟩ := r_comp (q := 3 * m + 4) T hfu (Nat.le_refl _) hs hK0 b2 hT h37 (by rw [hK0]; exact hP)
  have tk := f_X11_tokenize_qtk fu _ () D b2
  have hPA : ∀ E : im_S, Pq (K 1000) V E → PrA (600 * (1 - s)) C' E := by
    intro E hE a i h
    have ha := Pr_a h
    rw [hK0] at hE
    obtain ⟨e1, e2⟩ := hE a i h
    obtain ⟨d1, d2⟩ := hP a i h
    obtain ⟨t1, t2⟩ := tk.1 a i (kq_tk_81 ha.1)
    refine ⟨?_, by rw [e2, ← d2]; exact t2⟩
    rw [i64_inj (e1.trans d1.symm), t1, uI_ne (by omega), uI_ne (by omega)]
  have f4' : f < 4000 → ∃ E : im_S, f_X11_compile fu C' = some (0, uI (uI E 75 2 0) 75 0 1) ∧ RFS E f ∧ PrA (600 * (1 - s)) C' E ∧ Fkc C' E := by
    intro h
    obtain ⟨E, g1, g2, g3, g4⟩ := f4 h
    exact ⟨E, g1, g2, hPA E g3, g4⟩
  obtain ⟨e, res, hpp⟩ : ∃ e res, pP K (3 * m + 4) 9 0 0 = (e, res) := ⟨_, _, rfl⟩
  cases res with
  | none =>
    obtain ⟨X, g1, g2, g3⟩ := c1 e hpp
    have hf := f2 e hpp
    have hpe : pl e ≤ 500 := by
      by_cases h : f < 4000
      · obtain ⟨E, -, g2, -⟩ := f4 h
        rcases g2 with ⟨z, -⟩ | ⟨k', p', z1, z2, z3, -, -, z5⟩
        · omega
        · omega
      · obtain ⟨e', y, _, _, _, _, _, _, _, h', -⟩ := f5 (by omega)
        rw [hpp] at h'
        cases h'
    refine ⟨K, pl, V, m, f, X, T, f1, by rw [if_neg (by omega)]; exact g1, Or.inr ⟨1, pl e, by omega, by omega, hpe, g2, g3, by omega⟩, f4', fun h => ?_⟩
    omega
  | some y =>
    obtain ⟨S1, N, M, L', n, ρ, τ, X, f', g1, g2, g3, g4, g5, g6, g7⟩ := c2 e y hpp
    have w : PW K y 0 e := pP_W 9 0 0 _ y hpp
    have hem : e ≤ m := g4.2.1
    have hr := rP_eq (ft := ftP y) T w hem []
    have hf := f3 e y hpp
    have hff : f = f' := by omega
    refine ⟨K, pl, V, m, f, X, T, f1, by rw [hff]; exact g1, by rw [hff]; exact g7.1, f4', fun h => ?_⟩
    obtain ⟨e', y', n', r', ν, ρ', W, E, S', u1, u2, u3, u4⟩ := f5 h
    rw [hpp] at u1
    cases u1
    rw [← hff, h] at g7
    exact ⟨y, e, N, M, L', n, ρ, τ, n', r', ν, ρ', W, E, S', c_lnk T w g4 g5 g6 g7 (by omega), u2, u3, ⟨by omega, pP_L T 9 0 0 e y hpp hem 0, pP_20 T hpp hem⟩, u4⟩
end BTH
