/-! the class's parser: numbers, truths, names -/
section CAT
variable {K pl : Nat → Nat} {V : Nat → Int64} {m fu : Nat} {Q : Int32 → im_S → Prop} {S : im_S} {N M L : Nat → Nat} {pos dep sz n ρ τ B f : Nat} {γ : List Nat} {S0 : im_S} {n0 ρ0 τ0 sz0 kn0 R0 : Nat}
/-- the token here makes a node -/
theorem c_here (T : TH K pl V m) (C : Cz K pl V m S0 n0 ρ0 τ0 sz0 kn0 R0 S N M L pos dep sz γ n ρ τ B f) {k R : Nat} (hTp : Tp S sz k R) (hR : R < ρ) (hR0 : R = R0 ∨ ρ0 ≤ R) (hn0 : n0 ≤ n) (hB : B < 2 ^ 30) (hp : pos < m) (c : Nat) (hc : c < 100) (ty : Nat) (v : Int64) :
    ∃ S1 : im_S, f_X7_addHere (nI c) (nI ty) v S = some (nI n, S1) ∧ Cz K pl V m S0 n0 ρ0 τ0 sz0 kn0 R0 S1 (ex N pos (n + 1)) (ex M pos ρ) (ex L pos τ) (pos + 1) dep sz γ (n + 1) ρ τ (B + wk c) f ∧
      nd pl S1 (ex N pos (n + 1)) c ty v pos R ∧ (S1.1 9 n = 0 ∧ S1.1 10 n = -1 ∧ S1.1 11 n = -1 ∧ S1.1 12 n = -1 ∧ S1.1 13 n = -1 ∧ S1.1 14 n = -1 ∧ S1.1 15 n = -1 ∧ S1.1 20 n = nI (pl pos)) ∧
      (∀ a j : Nat, (a ≠ 3 ∨ j ≠ 6) → (a ≠ 6 ∨ j ≠ 16) → (j ≠ n ∨ a < 7 ∨ 20 < a) → (a ≠ 26 ∨ j ≠ R) → a ≠ 28 → S1.1 a j = S.1 a j) ∧ (∀ a j : Nat, (a ≠ 21 ∨ j ≠ n) → S1.2.1 a j = S.2.1 a j) ∧
      ((c = 1 ∨ c = 2 ∨ c = 8 ∨ c = 9) → S1.1 26 R = nI n ∧ S1.1 16 n = S.1 26 R) ∧ (¬ (c = 1 ∨ c = 2 ∨ c = 8 ∨ c = 9) → S1.1 26 R = S.1 26 R) ∧ (∀ lo n9 ρ9 τ9 R9 k9, n9 ≤ n → (R = R9 ∨ ρ9 ≤ R) → Fx S S1 lo n9 ρ9 τ9 R9 k9) := by
  obtain ⟨T0, sT, t1, t2, t3, t4, t5⟩ := c_addHere T C hTp hR hB c hc (nI ty) v
  obtain ⟨f1, f2, f3, f4, f5, f6, f7, f8, f9, f10, f11, f12, f13, f14, f15⟩ := ad_f S n c (nI ty) (nI (pl pos)) v R T0 sT
  have en : ex N pos (n + 1) pos = n := by rw [ex_le (Nat.le_refl _)]; exact C.2.1.1
  have en1 : ex N pos (n + 1) (pos + 1) = n + 1 := ex_gt (by omega)
  refine ⟨_, t5, Cz_add T C hp hR0 hn0 t2 t3 t4 hB hc, ?_, ?_, fun a j h1 h2 h3 h4 h5 => ?_, fun a j h => ?_, fun hl => ?_, fun hl => ?_, fun lo n9 ρ9 τ9 R9 k9 h1 h2 => ?_⟩
  · refine ⟨by omega, ?_, ?_, ?_, ?_, ?_⟩
    · rw [en]; unfold ad6; rw [uI_ne (by omega)]; exact f2
    · rw [en]; unfold ad6; rw [uI_ne (by omega)]; exact f3
    · rw [en]; show (adS S n c (nI ty) (nI (pl pos)) v R T0 sT).2.1 21 n = v; rw [ad_21, if_pos ⟨rfl, rfl⟩]
    · rw [en]; unfold ad6; rw [uI_ne (by omega), uI_ne (by omega), ad_ne (a := 27) (by omega), f13, t1]
    · rw [en]; unfold ad6; rw [uI_ne (by omega)]; exact f11
  · unfold ad6
    rw [uI_ne (by omega), uI_ne (by omega), uI_ne (by omega), uI_ne (by omega), uI_ne (by omega), uI_ne (by omega), uI_ne (by omega), uI_ne (by omega)]
    exact ⟨f4, f5, f6, f7, f8, f9, f10, f12⟩
  · unfold ad6
    rw [uI_ne (by omega), ad_ne (by omega)]
  · show (adS S n c (nI ty) (nI (pl pos)) v R T0 sT).2.1 a j = _
    rw [ad_21, if_neg (by omega)]
  · unfold ad6
    rw [uI_ne (by omega), uI_ne (by omega)]
    exact ad_lf S n c _ _ v R T0 sT hl
  · unfold ad6
    rw [uI_ne (by omega)]
    exact ad_nl S n c _ _ v R T0 sT hl
  · unfold ad6
    exact Fx_uI (Fx_ad (Fx_refl S lo n9 ρ9 τ9 R9 k9) h1 h2) (by omega)
/-- the continuation behind an atom -/
def AC (K : Nat → Nat) (m fu e sz : Nat) (Q : Int32 → im_S → Prop) (S' : im_S) : Prop := (S'.1 3 7 = 2 → Lp m fu e S' Q) ∧ (K e ≠ 91 → Fl K m fu e sz true S' Q)
theorem Bg.C {f k R : Nat} (h : Bg K pl V m S N M L pos dep sz γ n ρ τ f k R) : Cz K pl V m S n ρ τ sz γ.length R S N M L pos dep sz γ n ρ τ (pl pos) f := h.1
theorem pl_B (T : TH K pl V m) {j : Nat} (h : j ≤ m) : pl j < 2 ^ 30 := by have := T.pl_ h; omega
/-- the end of an operand -/
theorem c_endO (S : im_S) (k : Int32) : f_X7_endOperand k S = some (1, uI (uI S 3 8 k) 3 7 2) := rfl
theorem k_const (T : TH K pl V m) {f k R : Nat} (hB : Bg K pl V m S N M L pos dep sz γ n ρ τ f k R) (hp : pos < m) (ty : Nat) (v : Int64) {x : TR} (hrt : rtk x = pos) (hbg : bgk x = pos) (hty : tyk K (tv V) x = ty) (hpf : pfc K pl V x γ 0 [] [] = 4000) (hlv : lvs x = [pos]) (hcl : cls x = []) (hG : ∀ (S' : im_S) (N' M' L' : Nat → Nat), nd pl S' N' 1 ty v pos R → G K pl V S' N' M' L' x γ R 0 0 .nil []) :
    ∃ S1 : im_S, f_X7_constant (nI ty) v S = some (1, S1) ∧ S1.1 3 7 = 2 ∧ PX K pl V m S N M L pos dep sz γ n ρ τ f R S1 (ex N pos (n + 1)) (ex M pos ρ) (ex L pos τ) (n + 1) ρ τ (pos + 1) x := by
  obtain ⟨C, hTp, hR, hpos⟩ := hB
  obtain ⟨S1, h1, C1, nd1, fz, rd, rd2, lf, nl, fx⟩ := c_here T C hTp hR (Or.inl rfl) (Nat.le_refl _) (pl_B T (by omega)) hp 1 (by omega) ty v
  have hst := T.st_ hp
  have hw := wl_ge (K pos)
  have en : ex N pos (n + 1) pos = n := by rw [ex_le (Nat.le_refl _)]; exact C.2.1.1
  have en1 : ex N pos (n + 1) (pos + 1) = n + 1 := ex_gt (by omega)
  have hmin : min f (pfc K pl V x γ 0 [] []) = f := by rw [hpf]; exact Nat.min_eq_left C.2.2.2.2.1
  refine ⟨uI (uI S1 3 8 (nI n)) 3 7 2, ?_, uI_eq, ?_, ?_, ?_, fun _ => ?_, ?_, ?_⟩
  · unfold f_X7_constant
    rw [show (1 : Int32) = nI 1 from rfl, h1]
    simp only [Option.bind_some, c_endO]
    rfl
  · rw [hmin]
    exact Cz_B (Cz_3 (Cz_3 C1 (by omega)) (by omega)) (show pl pos + 1 ≤ pl (pos + 1) by omega)
  · exact (Gh_ex C.2.1 (Nat.le_succ n) (Nat.le_refl ρ) (Nat.le_refl τ)).2
  · refine ⟨by rw [hrt]; omega, ?_, ?_, ?_, ?_⟩
    · rw [hrt, en, uI_ne (by omega), uI_eq]
    · rw [hrt, en, hty, uI_ne (by omega), uI_ne (by omega)]
      have := nd1.2.2.1
      rw [en] at this
      exact this
    · rw [hrt, en, hbg, uI_ne (by omega), uI_ne (by omega)]; exact fz.2.2.2.2.2.2.2
    · rw [hrt, en, uI_ne (by omega), uI_ne (by omega)]; exact fz.2.2.2.2.2.1
  · refine hG _ _ _ _ ?_
    obtain ⟨a0, a1, a2, a3, a4, a5⟩ := nd1
    refine ⟨a0, ?_, ?_, a3, ?_, ?_⟩
    · rw [uI_ne (by omega), uI_ne (by omega)]; exact a1
    · rw [uI_ne (by omega), uI_ne (by omega)]; exact a2
    · rw [uI_ne (by omega), uI_ne (by omega), uI_ne (by omega), uI_ne (by omega)]; exact a4
    · rw [uI_ne (by omega), uI_ne (by omega)]; exact a5
  · rw [hlv, uI_ne (by omega), uI_ne (by omega), (lf (by omega)).1]
    refine ⟨by rw [en], by omega, ?_⟩
    show (uI (uI S1 3 8 (nI n)) 3 7 2).1 16 (ex N pos (n + 1) pos) = S.1 26 R
    rw [en, uI_ne (by omega), uI_ne (by omega), (lf (by omega)).2]
  · rw [hcl]
    refine CI_nil (fun k k1 k2 => ?_)
    rw [en] at k1
    rw [en1] at k2
    have : k = n := by omega
    rw [this, uI_ne (by omega), uI_ne (by omega)]
    have := nd1.2.1
    rw [en] at this
    rw [this]
    exact k8 (by omega) (by omega)
theorem k_use (T : TH K pl V m) {f k R : Nat} (hB : Bg K pl V m S N M L pos dep sz γ n ρ τ f k R) (hp : pos < m) (hfu : 600 ≤ fu) (hk : K pos = 1) :
    ∃ S1 : im_S, f_X7_use fu S = some (1, S1) ∧ S1.1 3 7 = 2 ∧ PX K pl V m S N M L pos dep sz γ n ρ τ f R S1 (ex N pos (n + 1)) (ex M pos ρ) (ex L pos τ) (n + 1) ρ τ (pos + 1) (aNam pos) := by
  obtain ⟨C, hTp, hR, hpos⟩ := hB
  have hm := T.m_
  have hbd := C.1.bd
  have hst := T.st_ hp
  have hw := wl_ge (K pos)
  have hNam : Nam (V pos) := (T.2.2.1 pos hp).2.2.2 hk
  have hin : in_b (nI pos) 501 = true := mI_in (by omega) (by omega)
  have hcl : (nI pos).toNatClampNeg = pos := nI_clamp (by omega)
  have e33 : S.2.1 33 pos = V pos := (C.1.ct pos C.1.pm).2.2 (Or.inl hk)
  have en : ex N pos (n + 1) pos = n := by rw [ex_le (Nat.le_refl _)]; exact C.2.1.1
  have en1 : ex N pos (n + 1) (pos + 1) = n + 1 := ex_gt (by omega)
  have hinn : in_b (nI n) 512 = true := mI_in (by omega) (by omega)
  have hcln : (nI n).toNatClampNeg = n := nI_clamp (by omega)
  -- what is behind a state with the same counts
  have key : ∀ (Sx : im_S) (f1 : Nat) (w : Int32), Cz K pl V m S n ρ τ sz γ.length R Sx N M L pos dep sz γ n ρ τ (pl pos) f1 → Tp Sx sz k R → Sx.1 26 R = S.1 26 R → f1 = min f (pfc K pl V (aNam pos) γ 0 [] []) → (4000 ≤ pfc K pl V (aNam pos) γ 0 [] [] → ∃ b, fnd V γ pos = some b ∧ w = nI (N b)) →
      ∃ S1 : im_S, ((f_X7_addHere 2 (nI (tvV (V pos))) (V pos) Sx).bind (fun qS8 => gd (in_b qS8.1 512) ((f_X7_endOperand qS8.1 (uI qS8.2 12 qS8.1.toNatClampNeg w)).bind (fun qS11 => gd (z_b qS11.1) (some (qS11.1, qS11.2)))))) = some (1, S1) ∧ S1.1 3 7 = 2 ∧ PX K pl V m S N M L pos dep sz γ n ρ τ f R S1 (ex N pos (n + 1)) (ex M pos ρ) (ex L pos τ) (n + 1) ρ τ (pos + 1) (aNam pos) := by
    intro Sx f1 w Cx hTx h26 hf1 hw1
    obtain ⟨S1, h1, C1, nd1, fz, rd, rd2, lf, nl, fx⟩ := c_here T Cx hTx hR (Or.inl rfl) (Nat.le_refl _) (pl_B T (by omega)) hp 2 (by omega) (tvV (V pos)) (V pos)
    refine ⟨uI (uI (uI S1 12 n w) 3 8 (nI n)) 3 7 2, ?_, uI_eq, ?_, ?_, ?_, fun hz => ?_, ?_, ?_⟩
    · rw [show (2 : Int32) = nI 2 from rfl, h1]
      simp only [Option.bind_some, hinn, hcln, gd_t, c_endO]
      rfl
    · rw [← hf1]
      exact Cz_B (Cz_3 (Cz_3 (Cz_nd C1 (by omega) (Nat.le_refl _)) (by omega)) (by omega)) (show pl pos + 1 ≤ pl (pos + 1) by omega)
    · exact (Gh_ex C.2.1 (Nat.le_succ n) (Nat.le_refl ρ) (Nat.le_refl τ)).2
    · refine ⟨?_, ?_, ?_, ?_, ?_⟩
      · show ex N pos (n + 1) pos < ex N pos (n + 1) (pos + 1); omega
      · show (uI (uI (uI S1 12 n w) 3 8 (nI n)) 3 7 2).1 3 8 = nI (ex N pos (n + 1) pos)
        rw [en, uI_ne (by omega), uI_eq]
      · show (uI (uI (uI S1 12 n w) 3 8 (nI n)) 3 7 2).1 8 (ex N pos (n + 1) pos) = nI (tvV (V pos))
        rw [en, uI_ne (by omega), uI_ne (by omega), uI_ne (by omega)]
        have := nd1.2.2.1
        rw [en] at this
        exact this
      · show (uI (uI (uI S1 12 n w) 3 8 (nI n)) 3 7 2).1 20 (ex N pos (n + 1) pos) = nI (pl pos)
        rw [en, uI_ne (by omega), uI_ne (by omega), uI_ne (by omega)]; exact fz.2.2.2.2.2.2.2
      · show (uI (uI (uI S1 12 n w) 3 8 (nI n)) 3 7 2).1 14 (ex N pos (n + 1) pos) = -1
        rw [en, uI_ne (by omega), uI_ne (by omega), uI_ne (by omega)]; exact fz.2.2.2.2.2.1
    · obtain ⟨b, b1, b2⟩ := hw1 hz
      obtain ⟨a0, a1, a2, a3, a4, a5⟩ := nd1
      have hb := (C.2.1.2.2.2.2 b (fnd_in γ pos b b1)).1
      refine ⟨⟨a0, ?_, ?_, a3, ?_, ?_⟩, b, b1, ?_⟩
      · rw [uI_ne (by omega), uI_ne (by omega), uI_ne (by omega)]; exact a1
      · rw [uI_ne (by omega), uI_ne (by omega), uI_ne (by omega)]; exact a2
      · rw [uI_ne (by omega), uI_ne (by omega), uI_ne (by omega), uI_ne (by omega), uI_ne (by omega), uI_ne (by omega)]; exact a4
      · rw [uI_ne (by omega), uI_ne (by omega), uI_ne (by omega)]; exact a5
      · rw [en, uI_ne (by omega), uI_ne (by omega), uI_eq, b2, ex_le (by omega)]
    · show Seg _ _ _ [pos] _
      rw [uI_ne (by omega), uI_ne (by omega), uI_ne (by omega), (lf (by omega)).1]
      refine ⟨by rw [en], by omega, ?_⟩
      show (uI (uI (uI S1 12 n w) 3 8 (nI n)) 3 7 2).1 16 (ex N pos (n + 1) pos) = S.1 26 R
      rw [en, uI_ne (by omega), uI_ne (by omega), uI_ne (by omega), (lf (by omega)).2, h26]
    · show CI K pl V _ _ pos (pos + 1) pos []
      refine CI_nil (fun k k1 k2 => ?_)
      rw [en] at k1
      rw [en1] at k2
      have : k = n := by omega
      rw [this, uI_ne (by omega), uI_ne (by omega), uI_ne (by omega)]
      have := nd1.2.1
      rw [en] at this
      rw [this]
      exact k8 (by omega) (by omega)
  have hf := C.2.2.2.2.1
  unfold f_X7_use
  rw [C.1.at_, hin, hcl, e33]
  simp only [gd_t]
  rw [c_find T C.1 hfu pos]
  simp only [Option.bind_some]
  rcases hfd : fnd V γ pos with _ | b
  · simp only [hfd]
    rw [if_neg (fun z => z rfl), c_place T C.1]
    simp only [Option.bind_some, c_note]
    rw [c_ty (by omega) hNam]
    simp only [Option.bind_some]
    refine key (ntS S 2 (nI (pl pos))) (min f (4 * pl pos + 2)) _ (Cz_nt (k := 2) C (by omega) (by omega) (T.pl_ (by omega))) ?_ (nt_ne S _ _ (by omega)) ?_ (fun hz => ?_)
    · obtain ⟨q1, q2, q3, q4⟩ := hTp
      exact ⟨q1, by rw [nt_ne S _ _ (by omega)]; exact q2, q3, by rw [nt_ne S _ _ (by omega)]; exact q4⟩
    · show _ = min f (if (fnd V γ pos).isSome then 4000 else 4 * pl pos + 2)
      rw [hfd]; rfl
    · have hz : 4000 ≤ (if (fnd V γ pos).isSome then 4000 else 4 * pl pos + 2) := hz
      rw [hfd] at hz
      have hz : 4000 ≤ 4 * pl pos + 2 := hz
      have := T.pl_ (show pos ≤ m by omega)
      omega
  · simp only [hfd]
    have hbn := (C.2.1.2.2.2.2 b (fnd_in γ pos b hfd)).2
    rw [if_pos (show nI (N b) ≠ -1 from nI_m1 (by omega)), c_ty (by omega) hNam]
    simp only [Option.bind_some]
    refine key S f _ C hTp rfl ?_ (fun _ => ⟨b, hfd, rfl⟩)
    show _ = min f (if (fnd V γ pos).isSome then 4000 else 4 * pl pos + 2)
    rw [hfd]
    exact (Nat.min_eq_left hf).symm
end CAT
