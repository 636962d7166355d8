/-! the class's parser: a loop's next and give -/
section CLQ
variable {K pl : Nat → Nat} {V : Nat → Int64} {m fu : Nat} {Q : Int32 → im_S → Prop} {S : im_S} {N M L : Nat → Nat} {pos dep sz n ρ τ f k R : Nat} {γ : List Nat}
/-- behind give: the state -/
def LoG (K pl : Nat → Nat) (V : Nat → Int64) (m : Nat) (S : im_S) (pos dep sz : Nat) (γ : List Nat) (n ρ τ f R : Nat) (D : im_S) (N1 : Nat → Nat) (n1 : Nat) (fs : TR) (D2 : im_S) (N2 M2 L2 : Nat → Nat) (n' ρ' τ' c f2 : Nat) (ns : TR) (D3 : im_S) (N5 M5 L5 : Nat → Nat) (n5 ρ5 τ5 d : Nat) (kv : Nat → Nat) (B : im_S) : Prop :=
  PN K pl V m S pos dep sz γ.length (bnd fs γ) n ρ τ R ρ D2 N2 M2 L2 n' ρ' τ' f2 (c + 1) (tks fs) [] D3 N5 M5 L5 n5 ρ5 τ5 d ns ∧ Cz K pl V m S n ρ τ sz γ.length R B (ex N5 d n5) (ex M5 d ρ5) (ex L5 d τ5) (d + 1) dep (sz + 1) (bnd fs γ) n5 ρ5 τ5 (pl (d + 1)) (min f2 (pfc K pl V ns (bnd fs γ) 105 [] (tks fs))) ∧ B.1 3 7 = 0 ∧ B.1 35 sz = nI 22 ∧ B.1 36 sz = nI n ∧ B.1 37 sz = nI (ρ + 2) ∧ (∀ b, b ∈ tks fs → D.1 12 (N1 b) = nI (kv b) ∧ n < kv b ∧ kv b < n1 ∧ N5 b = N1 b) ∧ (∀ a j : Nat, a ≠ 3 → a ≠ 28 → (a < 34 ∨ 37 < a) → (¬ ∃ b, b ∈ tks fs ∧ D3.1 13 (N1 b) ≠ -1 ∧ ((j = N1 b ∧ (a = 17 ∨ a = 18)) ∨ (a = 9 ∧ j = kv b))) → B.1 a j = D3.1 a j) ∧ B.2.1 = D3.2.1 ∧ (∀ b, b ∈ tks fs → D3.1 13 (N1 b) ≠ -1 → B.1 17 (N1 b) = nI τ ∧ B.1 9 (kv b) = 5) ∧ d < m
set_option maxHeartbeats 8000000 in
theorem k_loop3 (T : TH K pl V m) (hfu : 600 ≤ fu) {Rr : Nat → PR} {p0 : Nat} (hRr : HXc K pl V m fu Rr dep p0) (hW : WR K Rr) (hR : R < ρ) (hTp : Tp S sz k R) {A : im_S} {N3 M3 L3 : Nat → Nat} (hO : LoO K pl V m S N M L pos dep sz γ n ρ τ f R A N3 M3 L3) {D : im_S} {N1 M1 L1 : Nat → Nat} {n1 ρ1 τ1 b : Nat} {fs : TR} {B S' : im_S} {N' M' L' : Nat → Nat} {n' ρ' τ' c kc : Nat} {x : TR} {D2 : im_S} (wfs : LW K fs (pos + 1) b) (hbc : b + 1 < c) (hD : LoD K pl V m S pos dep sz γ n ρ τ f R A N3 M3 L3 D N1 M1 L1 n1 ρ1 τ1 b fs B S' N' M' L' n' ρ' τ' c kc x D2) (hp0 : p0 ≤ pos + 1) {q : Nat} (hq : m < q + (pos + 1)) {f2 : Nat} (hf2 : eqN f2 (min (min (min f (pfc K pl V fs γ 102 [] [])) (pfc K pl V x (bnd fs γ) 0 [] [])) (ckX K pl V x 2))) :
    (∀ e, pB K Rr q 1000 0 (c + 1) = (e, none) → Rf pl e Q → Lp m fu (c + 1) D2 Q) ∧ ∀ d ns, pB K Rr q 1000 0 (c + 1) = (d, some ns) → (K d ≠ 12 → Rf pl d Q → Lp m fu (c + 1) D2 Q) ∧ (K d = 12 → (∀ (D3 : im_S) (N5 M5 L5 : Nat → Nat) (n5 ρ5 τ5 : Nat) (kv : Nat → Nat) (B4 : im_S), LoG K pl V m S pos dep sz γ n ρ τ f R D N1 n1 fs D2 (ex N' c n') (ex M' c ρ') (ex L' c τ') n' ρ' τ' c f2 ns D3 N5 M5 L5 n5 ρ5 τ5 d kv B4 → Lp m fu (d + 1) B4 Q) → Lp m fu (c + 1) D2 Q) := by
  obtain ⟨CA, hAg3, A7, A10, ⟨n7, n21, n17, n19, n20, n14, n15, n12⟩, A26, A16, ⟨r0, r1, r2, s0, s1, s2⟩, Adp, ⟨eN0, eN1, eM0, eM1, eL0, eL1⟩⟩ := hO
  obtain ⟨⟨PP, CB, B7, B35, B36, B37, rB, rBl, hbm⟩, P', ⟨hkc, hk1, hk2, hρ', hτ'⟩, CD2, d7, d10, dFw, dn, d13, dl, d9, dp10, dr, dt, d26, hcm⟩ := hD
  obtain ⟨CD, y2, y3, y4, y5, y6, y7, y8, y9, y10, y11, y12, y13, y14, y15⟩ := PP
  rw [List.nil_append] at y6 y7 y8
  rw [← (show f2 = _ from hf2)] at CD2
  have hm := T.m_
  have wl := LW_lt wfs
  have hbd2 := CD2.1.bd
  have hpm2 := CD2.1.pm
  have hknγ : γ.length ≤ (bnd fs γ).length := by rw [bnd_eq, List.length_append]; omega
  have eNc : ∀ j, j ≤ b → ex N' c n' j = N1 j := fun j hj => by rw [ex_le (by omega), (P'.2.1 j (by omega)).1, ex_le (by omega)]
  have emap : (tks fs).map (ex N' c n') = (tks fs).map N1 := map_N (fun j hj => eNc j (by have := (wl.2.2 j hj).2; omega))
  have hNp1 : N1 pos = n := by rw [(y2 pos (by omega)).1]; exact eN0
  have hvar : ∀ j, j ∈ tks fs → n < N1 j ∧ N1 j < n1 ∧ pos + 1 ≤ j ∧ j < b := fun j hj => ⟨(y8 j hj).1.1, (y8 j hj).1.2.1, wl.2.2 j hj⟩
  have D2n : ∀ a : Nat, 7 ≤ a → a ≤ 20 → a ≠ 12 → a ≠ 13 → D2.1 a n = A.1 a n := fun a u1 u2 u3 u4 => by rw [dn a n u1 u2 (by omega) (by omega), y4.1 a n u1 u2 (Nat.le_refl _) (by omega) (by omega)]
  have ch2 : Chn D2 (D2.1 12 n) ((tks fs).map (ex N' c n')) := by
    rw [emap, dn 12 n (by omega) (by omega) (by omega) (by omega)]
    refine Chn_cp _ _ (fun j hj => ?_) y6
    obtain ⟨i, hi, e⟩ := List.mem_map.mp hj
    have := hvar i hi
    exact dn 14 j (by omega) (by omega) (by omega) (by omega)
  obtain ⟨hN, hS⟩ := k_nexts (Q := Q) (pos := pos) (n := n) (ρn := ρ) (l := tks fs) T hfu hRr hW hR hTp y7 hknγ q 0 (c + 1) D2 (ex N' c n') (ex M' c ρ') (ex L' c τ') n' ρ' τ' f2 [] (by omega) (by omega) (by omega) (by omega) CD2 d7 d10 (by rw [eNc pos (by omega)]; exact hNp1) (by omega) (by omega) (by omega) ch2 (fun j hj => by
    obtain ⟨⟨z1, z2, z3, z4, z5, z6, z7, z8, -⟩, z9⟩ := y8 j hj
    have hj2 := hvar j hj
    refine ⟨?_, by omega⟩
    unfold VJ
    rw [eNc j (by omega), eNc (j + 1) (by omega), dn 7 _ (by omega) (by omega) z2 (by omega), dn 8 _ (by omega) (by omega) z2 (by omega), dn 10 _ (by omega) (by omega) z2 (by omega), dn 13 _ (by omega) (by omega) z2 (by omega), dl _ z2]
    exact ⟨z1, by omega, z3, z4, z5, z6, z7, fun ⟨p', hp', _⟩ => absurd hp' List.not_mem_nil, fun _ => z8⟩) (by rw [D2n 15 (by omega) (by omega) (by omega) (by omega)]; exact n15) (by omega)
  refine ⟨fun e he hRf => hN e he hRf, fun d ns hns => ?_⟩
  have wns := pB_LW hW _ _ _ _ _ _ hns
  have wln := LW_lt wns
  refine ⟨fun h12 hRf => hS d ns hns (fun D3 N5 M5 L5 n5 ρ5 τ5 PP => ?_), fun h12 hL => hS d ns hns (fun D3 N5 M5 L5 n5 ρ5 τ5 PP => ?_)⟩
  · refine ⟨0, rcS D3 (pl d), 0, ?_, Or.inl ⟨rfl, Rf_rc hRf⟩⟩
    unfold ntl
    rw [show (12 : Int32) = nI 12 from rfl, c_take T PP.1.1 12 (by omega), if_neg h12]
    rfl
  · have PP' := PP
    obtain ⟨CD3, x2, x3, x4, x5, x6, x7, x8, x9, x10, x11, x12⟩ := PP
    rw [emap] at x4
    have hdm := K_lt T.end_ CD3.1.pm h12 (by decide) (by decide)
    have hstd : pl d + 4 ≤ pl (d + 1) := by have := T.st_ hdm; rw [h12] at this; exact this
    have hpld := T.pl_ (show d + 1 ≤ m by omega)
    have hbd3 := CD3.1.bd
    obtain ⟨kv, hkv⟩ : ∃ kv : Nat → Nat, ∀ j, j ∈ tks fs → D.1 12 (N1 j) = nI (kv j) ∧ n < kv j ∧ kv j < n1 := by
      refine ⟨fun j => (D.1 12 (N1 j)).toNatClampNeg, fun j hj => ?_⟩
      obtain ⟨⟨-, -, -, -, -, -, -, -, w, w1, w2, w3⟩, -⟩ := y8 j hj
      show D.1 12 (N1 j) = nI ((D.1 12 (N1 j)).toNatClampNeg) ∧ n < (D.1 12 (N1 j)).toNatClampNeg ∧ (D.1 12 (N1 j)).toNatClampNeg < n1
      rw [w1, nI_clamp (show w < 2 ^ 31 by omega)]
      exact ⟨rfl, w2, w3⟩
    have eN5 : ∀ j, j ≤ b → N5 j = N1 j := fun j hj => by rw [(x2 j (by omega)).1]; exact eNc j hj
    have emap5 : (tks fs).map N5 = (tks fs).map N1 := map_N (fun j hj => eN5 j (by have := hvar j hj; omega))
    have n3 : ∀ a : Nat, 7 ≤ a → a ≤ 20 → D3.1 a n = D2.1 a n := fun a u1 u2 => x4.1 a n u1 u2 (Nat.le_refl _) (by omega) (Or.inr (fun z => by
      obtain ⟨i, hi, e⟩ := List.mem_map.mp z
      have := hvar i hi
      omega))
    have v3 : ∀ a j : Nat, 7 ≤ a → a ≤ 20 → a ≠ 13 → n < j → j < n1 → D3.1 a j = D.1 a j := fun a j u1 u2 u3 u4 u5 => by rw [x4.1 a j u1 u2 (by omega) (by omega) (Or.inl u3), dn a j u1 u2 u5 (by omega)]
    have CD4 : Cz K pl V m S n ρ τ sz γ.length R (ad6 D3 (d + 1)) (ex N5 d n5) (ex M5 d ρ5) (ex L5 d τ5) (d + 1) dep sz (bnd fs γ) n5 ρ5 τ5 (pl d) (min f2 (pfc K pl V ns (bnd fs γ) 105 [] (tks fs))) := Cz_ad T CD3 hdm
    have rd : ∀ a j : Nat, a ≠ 3 → (ad6 D3 (d + 1)).1 a j = D3.1 a j := fun a j u => by unfold ad6; rw [uI_ne (by omega)]
    have emapd : (tks fs).map (ex N5 d n5) = (tks fs).map N1 := by
      rw [← emap5]
      exact map_N (fun j hj => ex_le (by have := hvar j hj; omega))
    have d12 : (ad6 D3 (d + 1)).1 12 n = D.1 12 n := by rw [rd 12 n (by omega), n3 12 (by omega) (by omega), dn 12 n (by omega) (by omega) (by omega) (by omega)]
    have d15 : (ad6 D3 (d + 1)).1 15 n = nI ρ := by rw [rd 15 n (by omega), n3 15 (by omega) (by omega), D2n 15 (by omega) (by omega) (by omega) (by omega)]; exact n15
    have dd10 : (ad6 D3 (d + 1)).1 3 10 = nI n := by unfold ad6; rw [uI_ne (by omega)]; exact x3
    have d27 : (ad6 D3 (d + 1)).1 27 ρ = nI τ := by rw [rd 27 ρ (by omega), (x4.2.2.1 ρ (by omega)).1, (dr ρ (by omega)).1, (y4.2.2.1 ρ (by omega)).1]; exact r0
    obtain ⟨W2, w1, w2, w3, w4, w5⟩ := c_gvL (fu := fu) (γ := bnd fs γ) (N := ex N5 d n5) (M := ex M5 d ρ5) (L := ex L5 d τ5) T n ρ τ kv (by omega) (show τ < τ5 by omega) (tks fs) fu 0 (pl d) (D.1 12 n) (ad6 D3 (d + 1)) CD4 (by omega) (by
      rw [emapd]
      refine Chn_cp _ _ (fun j hj => ?_) y6
      obtain ⟨i, hi, e⟩ := List.mem_map.mp hj
      have := hvar i hi
      rw [rd 14 j (by omega)]
      exact v3 14 j (by omega) (by omega) (by omega) (by omega) (by omega)) (by omega) (by omega) (fun j hj => by
      obtain ⟨⟨z1, z2, z3, z4, z5, z6, z7, z8, -⟩, z9⟩ := y8 j hj
      obtain ⟨q1, q2, q3⟩ := hkv j hj
      rw [ex_le (show j ≤ d by omega), eN5 j (by omega)]
      refine ⟨by omega, by omega, ?_, ?_, by omega, by omega⟩
      · rw [rd 7 _ (by omega), v3 7 _ (by omega) (by omega) (by omega) z1 z2]; exact z4
      · rw [rd 12 _ (by omega), v3 12 _ (by omega) (by omega) (by omega) z1 z2]; exact q1) dd10 d15
    obtain ⟨B4, hB4⟩ : ∃ B4, B4 = uI (psS W2 sz 22 (nI n) (nI (ρ + 2))) 3 7 0 := ⟨_, rfl⟩
    rw [← hB4] at w1
    obtain ⟨g35, g36, g37, -⟩ := ps_f W2 sz 22 (nI n) (nI (ρ + 2))
    have CB4 : Cz K pl V m S n ρ τ sz γ.length R B4 (ex N5 d n5) (ex M5 d ρ5) (ex L5 d τ5) (d + 1) dep (sz + 1) (bnd fs γ) n5 ρ5 τ5 (pl (d + 1)) (min f2 (pfc K pl V ns (bnd fs γ) 105 [] (tks fs))) := by
      rw [hB4]
      exact Cz_3 (Cz_push (Cz_B w2 (by omega)) 22 (nI n) (nI (ρ + 2)) (by omega) (Nat.le_refl _)) (by omega)
    have ext : ∀ j, j ∈ tks fs → ex N5 d n5 j = N1 j := fun j hj => by have := hvar j hj; rw [ex_le (by omega)]; exact eN5 j (by omega)
    refine ⟨1, B4, d + 1, ?_, Or.inr ⟨rfl, by omega, by omega, hL D3 N5 M5 L5 n5 ρ5 τ5 kv B4 ⟨PP', CB4, by rw [hB4, uI_eq], by rw [hB4, uI_ne (by omega)]; exact g35, by rw [hB4, uI_ne (by omega)]; exact g36, by rw [hB4, uI_ne (by omega)]; exact g37, fun j hj => ?_, fun a j u1 u2 u3 u4 => ?_, ?_, fun j hj hne => ?_, hdm⟩⟩⟩
    · unfold ntl
      rw [show (12 : Int32) = nI 12 from rfl, c_take T CD3.1 12 (by omega), if_pos h12]
      simp only [Option.bind_some]
      rw [if_neg (show ¬ (1 : Int32) = 0 by decide)]
      unfold f_X7_openGivePart
      rw [dd10, mI_in (a := n) (n := 512) (by omega) (by omega), nI_clamp (show n < 2 ^ 31 by omega), d15, mI_in (a := ρ) (n := 512) (by omega) (by omega), nI_clamp (show ρ < 2 ^ 31 by omega), d27, d12]
      simp only [gd_t]
      rw [show (0 : Int32) = nI 0 from rfl, w1]
      rfl
    · obtain ⟨q1, q2, q3⟩ := hkv j hj
      have := hvar j hj
      exact ⟨q1, q2, q3, eN5 j (by omega)⟩
    · rw [hB4, uI_ne (by omega), ps_ne (by omega), w3 a j u2 (fun ⟨i, hi, hi2, hi3⟩ => u4 ⟨i, hi, by rw [rd 13 _ (by omega), ext i hi] at hi2; exact hi2, by rw [ext i hi] at hi3; exact hi3⟩), rd a j u1]
    · rw [hB4]; exact w4
    · obtain ⟨q1, q2⟩ := w5 j hj (by rw [rd 13 _ (by omega), ext j hj]; exact hne)
      rw [ext j hj] at q1
      rw [hB4, uI_ne (by omega), ps_ne (by omega), uI_ne (by omega), ps_ne (by omega)]
      exact ⟨q1, q2⟩
end CLQ
