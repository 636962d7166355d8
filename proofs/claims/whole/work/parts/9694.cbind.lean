/-! the class's parser: a name is bound -/
section CBD
variable {K pl : Nat → Nat} {V : Nat → Int64} {m fu : Nat} {S : im_S} {N M L : Nat → Nat} {pos dep sz n ρ τ B f : Nat} {γ : List Nat} {S0 : im_S} {n0 ρ0 τ0 sz0 kn0 R0 : Nat}
theorem Tp_nt {k R : Nat} (h : Tp S sz k R) (x1 x2 : Int32) : Tp (ntS S x1 x2) sz k R := by
  obtain ⟨q1, q2, q3, q4⟩ := h
  exact ⟨q1, by rw [nt_ne S _ _ (by omega)]; exact q2, q3, by rw [nt_ne S _ _ (by omega)]; exact q4⟩
theorem c_bind (T : TH K pl V m) (C : Cz K pl V m S0 n0 ρ0 τ0 sz0 kn0 R0 S N M L pos dep sz γ n ρ τ B f) {k R : Nat} (hTp : Tp S sz k R) (hR : R < ρ) (hR0 : R = R0 ∨ ρ0 ≤ R) (hn0 : n0 ≤ n) (hB : B < 2 ^ 30) (hfu : 600 ≤ fu) (hp : pos < m) (hk : K pos = 1) :
    ∃ S1 : im_S, f_X7_bindHere fu S = some (nI n, S1) ∧ Cz K pl V m S0 n0 ρ0 τ0 sz0 kn0 R0 S1 (ex N pos (n + 1)) (ex M pos ρ) (ex L pos τ) (pos + 1) dep sz γ (n + 1) ρ τ (B + 1) (min f (kb pl V γ pos)) ∧
      nd pl S1 (ex N pos (n + 1)) 3 (tvV (V pos)) (V pos) pos R ∧ (S1.1 9 n = 0 ∧ S1.1 10 n = -1 ∧ S1.1 11 n = -1 ∧ S1.1 12 n = -1 ∧ S1.1 13 n = -1 ∧ S1.1 14 n = -1 ∧ S1.1 15 n = -1 ∧ S1.1 20 n = nI (pl pos)) ∧
      (∀ a j : Nat, (a ≠ 3 ∨ j ≠ 6) → (a ≠ 6 ∨ j ≠ 16) → (j ≠ n ∨ a < 7 ∨ 20 < a) → a ≠ 28 → a ≠ 5 → S1.1 a j = S.1 a j) ∧ (∀ a j : Nat, (a ≠ 21 ∨ j ≠ n) → S1.2.1 a j = S.2.1 a j) ∧
      (∀ lo n9 ρ9 τ9 R9 k9, n9 ≤ n → (R = R9 ∨ ρ9 ≤ R) → Fx S S1 lo n9 ρ9 τ9 R9 k9) := by
  have hm := T.m_
  have hbd := C.1.bd
  have hNam : Nam (V pos) := (T.2.2.1 pos hp).2.2.2 hk
  have hin : in_b (nI pos) 501 = true := mI_in (by omega) (by omega)
  have hcl : (nI pos).toNatClampNeg = pos := nI_clamp (by omega)
  have e33 : S.2.1 33 pos = V pos := (C.1.ct pos C.1.pm).2.2 (Or.inl hk)
  have hf := C.2.2.2.2.1
  have key : ∀ (Sx : im_S) (f1 : Nat), Cz K pl V m S0 n0 ρ0 τ0 sz0 kn0 R0 Sx N M L pos dep sz γ n ρ τ B f1 → Tp Sx sz k R → f1 = min f (kb pl V γ pos) → (∀ a j : Nat, a ≠ 5 → Sx.1 a j = S.1 a j) → Sx.2.1 = S.2.1 → (∀ lo n9 ρ9 τ9 R9 k9, Fx S Sx lo n9 ρ9 τ9 R9 k9) →
      f_X7_bindHere fu S = ((f_X7_typeOf fu (V pos) (uI Sx 3 6 ((Sx.1 3 6) + 1))).bind (fun qS8 => (f_X6_topRegion qS8.2).bind (fun qS11 => (f_X3_add 3 qS8.1 (nI (pl pos)) (V pos) qS11.1 qS11.2).bind (fun qS14 => some (qS14.1, qS14.2))))) →
      ∃ S1 : im_S, f_X7_bindHere fu S = some (nI n, S1) ∧ Cz K pl V m S0 n0 ρ0 τ0 sz0 kn0 R0 S1 (ex N pos (n + 1)) (ex M pos ρ) (ex L pos τ) (pos + 1) dep sz γ (n + 1) ρ τ (B + 1) (min f (kb pl V γ pos)) ∧
      nd pl S1 (ex N pos (n + 1)) 3 (tvV (V pos)) (V pos) pos R ∧ (S1.1 9 n = 0 ∧ S1.1 10 n = -1 ∧ S1.1 11 n = -1 ∧ S1.1 12 n = -1 ∧ S1.1 13 n = -1 ∧ S1.1 14 n = -1 ∧ S1.1 15 n = -1 ∧ S1.1 20 n = nI (pl pos)) ∧
      (∀ a j : Nat, (a ≠ 3 ∨ j ≠ 6) → (a ≠ 6 ∨ j ≠ 16) → (j ≠ n ∨ a < 7 ∨ 20 < a) → a ≠ 28 → a ≠ 5 → S1.1 a j = S.1 a j) ∧ (∀ a j : Nat, (a ≠ 21 ∨ j ≠ n) → S1.2.1 a j = S.2.1 a j) ∧
      (∀ lo n9 ρ9 τ9 R9 k9, n9 ≤ n → (R = R9 ∨ ρ9 ≤ R) → Fx S S1 lo n9 ρ9 τ9 R9 k9) := by
    intro Sx f1 Cx hTx hf1 hrd hrd2 hfx heq
    obtain ⟨S1, h1, C1, nd1, fz, rd, rd2, lf, nl, fx⟩ := c_here T Cx hTx hR hR0 hn0 hB hp 3 (by omega) (tvV (V pos)) (V pos)
    have nl := nl (by omega)
    obtain ⟨T0, sT, t1, t2, t3, t4, t5⟩ := c_addHere T Cx hTx hR hB 3 (by omega) (nI (tvV (V pos))) (V pos)
    have e1 : S1 = ad6 (adS Sx n 3 (nI (tvV (V pos))) (nI (pl pos)) (V pos) R T0 sT) (pos + 1) := by
      rw [t5] at h1
      cases h1
      rfl
    refine ⟨S1, ?_, ?_, nd1, fz, fun a j u1 u2 u3 u4 u5 => ?_, fun a j u => ?_, fun lo n9 ρ9 τ9 R9 k9 u1 u2 => ?_⟩
    · rw [heq, Cx.1.at_, show nI pos + 1 = nI (pos + 1) from nI_add pos 1, c_ty (by omega) hNam]
      simp only [Option.bind_some]
      obtain ⟨h1', h2, h3, h4⟩ := hTx
      obtain ⟨sz', rfl⟩ : ∃ z, sz = z + 1 := ⟨sz - 1, by omega⟩
      rw [Nat.add_sub_cancel] at h4
      have e34 : (uI Sx 3 6 (nI (pos + 1))).1 34 3 = nI (sz' + 1) := by rw [uI_ne (by omega)]; exact Cx.1.sz_
      have e37 : (uI Sx 3 6 (nI (pos + 1))).1 37 sz' = nI R := by rw [uI_ne (by omega)]; exact h4
      rw [c_topR e34 (by omega), e37]
      simp only [Option.bind_some]
      have b1 := Cx.1.nn
      have b0 : f_X3_add 3 (nI (tvV (V pos))) (nI (pl pos)) (V pos) (nI R) (uI Sx 3 6 (nI (pos + 1))) = some (nI n, adS (ad6 Sx (pos + 1)) n 3 (nI (tvV (V pos))) (nI (pl pos)) (V pos) R T0 sT) := c_add (c := 3) (by rw [uI_ne (by omega)]; exact b1) (by omega) (by omega) (by have := Cx.1.bd; have := T.pl_ (show pos ≤ m by omega); omega) (by rw [uI_ne (by omega)]; exact t1) (by omega) (by rw [uI_ne (by omega)]; exact t3)
      rw [b0, ad_cm, ← e1]
      rfl
    · rw [← hf1]; exact C1
    · by_cases q : a = 26 ∧ j = R
      · rw [q.1, q.2, nl, hrd 26 R (by omega)]
      · rw [rd a j u1 u2 u3 (by omega) u4, hrd a j u5]
    · rw [rd2 a j u, hrd2]
    · have g := hfx lo n9 ρ9 τ9 R9 k9
      rw [e1]
      unfold ad6
      exact Fx_uI (Fx_ad g u1 u2) (by omega)
  have e0 : f_X7_bindHere fu S = (if ((match fnd V γ pos with | some b => nI (N b) | none => -1) : Int32) = (-1) then ((f_X7_typeOf fu (V pos) (uI S 3 6 ((S.1 3 6) + 1))).bind (fun qS8 => (f_X6_topRegion qS8.2).bind (fun qS11 => (f_X3_add 3 qS8.1 (nI (pl pos)) (V pos) qS11.1 qS11.2).bind (fun qS14 => some (qS14.1, qS14.2))))) else ((f_X7_typeOf fu (V pos) (uI (ntS S 2 (nI (pl pos))) 3 6 (((ntS S 2 (nI (pl pos))).1 3 6) + 1))).bind (fun qS20 => (f_X6_topRegion qS20.2).bind (fun qS23 => (f_X3_add 3 qS20.1 (nI (pl pos)) (V pos) qS23.1 qS23.2).bind (fun qS26 => some (qS26.1, qS26.2)))))) := by
    unfold f_X7_bindHere
    rw [c_place T C.1, C.1.at_, hin, hcl, e33]
    simp only [gd_t, Option.bind_some]
    rw [c_find T C.1 hfu pos]
    simp only [Option.bind_some, c_note, C.1.at_]
    rfl
  rcases hfd : fnd V γ pos with _ | b
  · rw [hfd] at e0
    refine key S f C hTp ?_ (fun _ _ _ => rfl) rfl (fun lo n9 ρ9 τ9 R9 k9 => Fx_refl S lo n9 ρ9 τ9 R9 k9) (e0.trans (if_pos rfl))
    unfold kb
    rw [hfd]
    exact (Nat.min_eq_left hf).symm
  · rw [hfd] at e0
    have hbn := (C.2.1.2.2.2.2 b (fnd_in γ pos b hfd)).2
    refine key (ntS S 2 (nI (pl pos))) (min f (4 * pl pos + 2)) (Cz_nt (k := 2) C (by omega) (by omega) (T.pl_ (by omega))) (Tp_nt hTp _ _) ?_ (fun a j h => nt_ne S _ _ h) (nt_21 S _ _) (fun lo n9 ρ9 τ9 R9 k9 => Fx_nt (Fx_refl S lo n9 ρ9 τ9 R9 k9)) (e0.trans (if_neg (show ¬ nI (N b) = (-1 : Int32) from nI_m1 (by omega))))
    unfold kb
    rw [hfd]
    rfl
end CBD
