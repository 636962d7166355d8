/-! the class's parser: if -/
/-- nodes from lo on are kept, but for where k0's value goes; so are regions, and their leaves from rl on -/
def Fw (S S' : im_S) (lo n rl ρ τ k0 : Nat) : Prop := (∀ a k : Nat, 7 ≤ a → a ≤ 20 → lo ≤ k → k < n → (k ≠ k0 ∨ ¬ (a = 9 ∨ a = 10 ∨ a = 11 ∨ a = 14 ∨ a = 20)) → S'.1 a k = S.1 a k) ∧ (∀ k : Nat, lo ≤ k → k < n → S'.2.1 21 k = S.2.1 21 k) ∧ (∀ r : Nat, r < ρ → S'.1 27 r = S.1 27 r ∧ (rl ≤ r → S'.1 26 r = S.1 26 r)) ∧ ∀ t : Nat, t < τ → S'.1 29 t = S.1 29 t
theorem Fw_refl (S : im_S) (lo n rl ρ τ k0 : Nat) : Fw S S lo n rl ρ τ k0 := ⟨fun _ _ _ _ _ _ _ => rfl, fun _ _ _ => rfl, fun _ _ => ⟨rfl, fun _ => rfl⟩, fun _ _ => rfl⟩
theorem Fw_uI {S S' : im_S} {lo n rl ρ τ k0 a j : Nat} {v : Int32} (h : Fw S S' lo n rl ρ τ k0) (q : (a < 7 ∨ 20 < a ∨ n ≤ j ∨ j < lo ∨ (j = k0 ∧ (a = 9 ∨ a = 10 ∨ a = 11 ∨ a = 14 ∨ a = 20))) ∧ (a ≠ 27 ∨ ρ ≤ j) ∧ (a ≠ 26 ∨ ρ ≤ j ∨ j < rl) ∧ (a ≠ 29 ∨ τ ≤ j)) : Fw S (uI S' a j v) lo n rl ρ τ k0 := by
  obtain ⟨a1, a2, a3, a4⟩ := h
  refine ⟨fun x k u1 u2 u0 u3 u4 => ?_, a2, fun r hr => ⟨?_, fun hR => ?_⟩, fun t ht => ?_⟩
  · rw [uI_ne (by omega)]; exact a1 x k u1 u2 u0 u3 u4
  · rw [uI_ne (by omega)]; exact (a3 r hr).1
  · rw [uI_ne (by omega)]; exact (a3 r hr).2 hR
  · rw [uI_ne (by omega)]; exact a4 t ht
theorem Fw_Fr {S S1 S2 : im_S} {lo n rl ρ τ k0 n1 ρ1 τ1 sz kn R1 : Nat} (h : Fw S S1 lo n rl ρ τ k0) (F : Fr S1 S2 n1 ρ1 τ1 sz kn R1) (h1 : n ≤ n1) (h2 : ρ ≤ ρ1) (h3 : τ ≤ τ1) (h6 : R1 < rl ∨ ρ ≤ R1) : Fw S S2 lo n rl ρ τ k0 := by
  obtain ⟨a1, a2, a3, a4⟩ := h
  obtain ⟨b1, b2, b3, b4, -⟩ := F
  exact ⟨fun x k u1 u2 u0 u3 u4 => (b1 x k u1 u2 (by omega)).trans (a1 x k u1 u2 u0 u3 u4), fun k u0 hk => (b2 k (by omega)).trans (a2 k u0 hk), fun r hr => ⟨((b3 r (by omega)).1).trans (a3 r hr).1, fun hR => ((b3 r (by omega)).2 (by omega)).trans ((a3 r hr).2 hR)⟩, fun t ht => (b4 t (by omega)).trans (a4 t ht)⟩
theorem Fw_nt {S S' : im_S} {lo n rl ρ τ k0 : Nat} {x1 x2 : Int32} (h : Fw S S' lo n rl ρ τ k0) : Fw S (ntS S' x1 x2) lo n rl ρ τ k0 := by
  obtain ⟨a1, a2, a3, a4⟩ := h
  exact ⟨fun x k u1 u2 u0 u3 u4 => by rw [nt_ne S' _ _ (by omega)]; exact a1 x k u1 u2 u0 u3 u4, fun k u0 hk => by rw [nt_21]; exact a2 k u0 hk, fun r hr => by rw [nt_ne S' _ _ (by omega), nt_ne S' _ _ (by omega)]; exact a3 r hr, fun t ht => by rw [nt_ne S' _ _ (by omega)]; exact a4 t ht⟩
theorem Fw_ck {S S' : im_S} {lo n rl ρ τ k0 k : Nat} {w : Int32} (h : Fw S S' lo n rl ρ τ k0) : Fw S (ckS S' k w) lo n rl ρ τ k0 := by
  unfold ckS
  by_cases e : (S'.1 8 k : Int32) = w
  · rw [if_pos e]; exact h
  · rw [if_neg e]; exact Fw_nt h
theorem Fw_cn {S S' : im_S} {lo n rl ρ τ k0 k : Nat} {r p t : Int32} (h : Fw S S' lo n rl ρ τ k0) (hk : k = k0 ∨ n ≤ k ∨ k < lo) : Fw S (cnS S' k r p t) lo n rl ρ τ k0 := by
  unfold cnS
  exact Fw_uI (Fw_uI (Fw_uI h (by omega)) (by omega)) (by omega)
theorem Fw_ps {S S' : im_S} {lo n rl ρ τ k0 sz : Nat} {k nd rg : Int32} (h : Fw S S' lo n rl ρ τ k0) : Fw S (psS S' sz k nd rg) lo n rl ρ τ k0 := by
  unfold psS
  exact Fw_uI (Fw_uI (Fw_uI (Fw_uI h (by omega)) (by omega)) (by omega)) (by omega)
theorem Fw_Fx {S S' : im_S} {lo n rl ρ τ R k0 : Nat} (h : Fx S S' lo n ρ τ R k0) (hR : R < rl) : Fw S S' lo n rl ρ τ k0 := ⟨h.1, h.2.1, fun r hr => ⟨(h.2.2.1 r hr).1, fun q => (h.2.2.1 r hr).2 (by omega)⟩, h.2.2.2⟩
theorem Sb_Fw {S S' : im_S} {N M L : Nat → Nat} {p e k0 : Nat} (h : Fw S S' (N p) (N e) (M p) (M e) (L e) k0) : Sb S S' N M L p e k0 := by
  obtain ⟨a1, a2, a3, a4⟩ := h
  exact ⟨fun a k q u v => a1 a k (by omega) (by omega) u v (Or.inr (by omega)), fun k u v => a2 k u v, fun a k q u v w => a1 a k (by omega) (by omega) u v (Or.inl w), fun r u v => (a3 r v).2 u, fun r v => (a3 r v).1, fun t v => a4 t v⟩
section CIF
variable {K pl : Nat → Nat} {V : Nat → Int64} {m fu : Nat} {Q : Int32 → im_S → Prop} {S : im_S} {N M L : Nat → Nat} {pos dep sz n ρ τ f k R : Nat} {γ : List Nat}
/-- what an X left is kept while the rest is read, in other regions too -/
theorem PX_kw {S1 : im_S} {N1 M1 L1 : Nat → Nat} {n1 ρ1 τ1 e : Nat} {x : TR} (P : PX K pl V m S N M L pos dep sz γ n ρ τ f R S1 N1 M1 L1 n1 ρ1 τ1 e x) (w : Wt K x pos e 0) (hg : Gh N M L pos n ρ τ γ) (hR : R < ρ) (hpos : 0 < pos) {S2 : im_S} {N2 M2 L2 : Nat → Nat} (F : Fw S1 S2 n n1 ρ ρ1 τ1 (N1 (rtk x))) (hA : Ag N1 M1 L1 N2 M2 L2 e) :
    (4000 ≤ pfc K pl V x γ 0 [] [] → G K pl V S2 N2 M2 L2 x γ R 0 0 .nil []) ∧ Seg S2 N2 (S1.1 26 R) (lvs x) (S.1 26 R) ∧ N2 (rtk x) < N2 (rtk x + 1) ∧ N2 (rtk x) = N1 (rtk x) ∧ n ≤ N1 (rtk x) ∧ N1 (rtk x) < n1 ∧ n ≤ n1 ∧ ρ ≤ ρ1 ∧ τ ≤ τ1 ∧ pos < e := by
  obtain ⟨C, hA1, hRt, hG, hS, -⟩ := P
  obtain ⟨g1, g2, g3, g4, g5⟩ := C.2.1
  have hd := Wt_lt w
  have hr := Wt_rt w
  have a0 := hA1 pos (Nat.le_refl _)
  have m0 := g4 pos e (by omega) (Nat.le_refl _)
  have hn : N1 pos = n := by rw [a0.1]; exact hg.1
  have hρ : M1 pos = ρ := by rw [a0.2.1]; exact hg.2.1
  have hτ : L1 pos = τ := by rw [a0.2.2]; exact hg.2.2.1
  have F' : Fw S1 S2 (N1 pos) (N1 e) (M1 pos) (M1 e) (L1 e) (N1 (rtk x)) := by rw [g1, g2, g3, hn, hρ]; exact F
  have B := Sb_Fw (p := pos) F'
  have m1 := g4 pos (rtk x) (by omega) (by omega)
  have m2 := g4 (rtk x + 1) e (by omega) (Nat.le_refl _)
  have m3 := hRt.1
  refine ⟨fun hz => G_st w g4 hA B (Or.inr (Or.inr rfl)) (fun b hb => (hg.2.2.2.2 b hb).1) (by omega) hpos (hG hz), Seg_st B g4 hA (lvs x) _ _ (lvs_in w) hS, ?_, (hA _ (by omega)).1, by omega, by omega, by omega, by omega, by omega, hd⟩
  rw [(hA _ (by omega)).1, (hA (rtk x + 1) (by omega)).1]
  exact hRt.1
theorem pfc_if (j : Nat) (x y z : TR) : pfc K pl V (aIf j x y z) γ 0 [] [] = min (pfc K pl V x γ 0 [] []) (min (ckX K pl V x 2) (min (pfc K pl V y γ 0 [] []) (min (pfc K pl V z γ 0 [] []) (ckX K pl V z (tyk K (tv V) y))))) := rfl
theorem G_if (S : im_S) (N M L : Nat → Nat) (j : Nat) (x y z : TR) : G K pl V S N M L (aIf j x y z) γ R 0 0 .nil [] = (nd pl S N 7 (tyk K (fun i => tvV (V i)) y) 0 j R ∧ S.1 12 (N j) = nI (N (rtk x)) ∧ rl S N (rtk x) 1 j ∧ M j + 2 ≤ M (j + 1) ∧ S.1 15 (N j) = nI (M j) ∧ S.1 27 (M j) = S.1 27 R ∧ S.1 27 (M j + 1) = S.1 27 R ∧ rl S N (rtk y) 3 j ∧ rl S N (rtk z) 3 j ∧ Seg S N (S.1 26 (M j)) (lvs y) (-1) ∧ Seg S N (S.1 26 (M j + 1)) (lvs z) (-1) ∧ G K pl V S N M L x γ R 0 0 .nil [] ∧ G K pl V S N M L y γ (M j) 0 0 .nil [] ∧ G K pl V S N M L z γ (M j + 1) 0 0 .nil []) := rfl
set_option maxHeartbeats 8000000 in
theorem k_if (T : TH K pl V m) (hfu : 600 ≤ fu) {Rr : Nat → PR} {p0 : Nat} (hRr : HXc K pl V m fu Rr dep p0) (hW : WR K Rr) (hB : Bg K pl V m S N M L pos dep sz γ n ρ τ f k R) (hd : S.1 3 7 = 0) (hdep : dep < 20) (hk10 : 10 ≤ k) (hk6 : K pos = 6) (hp0 : p0 ≤ pos + 1) :
    (∀ e, pIf K Rr pos = (e, none) → Rf pl e Q → Lp m fu pos S Q) ∧ ∀ e x, pIf K Rr pos = (e, some x) → Kx K pl V m S N M L pos dep sz γ n ρ τ f R e x (fun S' => FZ K m fu e sz S' Q) → Lp m fu pos S Q := by
  obtain ⟨C, hTp, hR, hpos⟩ := hB
  have hm := T.m_
  have hbd := C.1.bd
  have hpm := C.1.pm
  have hp := K_lt T.end_ hpm hk6 (by decide) (by decide)
  have hst : pl pos + 2 ≤ pl (pos + 1) := by have := T.st_ hp; rw [hk6] at this; exact this
  have hpl1 := T.pl_ (show pos + 1 ≤ m by omega)
  obtain ⟨A1, a0, CA1, ndA, fz, rd, rd2, -, nl, fx⟩ := c_here T C hTp hR (Or.inl rfl) (Nat.le_refl _) (pl_B T hpm) hp 7 (by omega) 0 0
  have nl := nl (by omega)
  have hTp1 : Tp A1 sz k R := Tp_Fr CA1.2.2.2.2.2 hTp
  have en : ex N pos (n + 1) pos = n := by rw [ex_le (Nat.le_refl _)]; exact C.2.1.1
  have en1 : ex N pos (n + 1) (pos + 1) = n + 1 := ex_gt (by omega)
  obtain ⟨b0, b1, b2, b3, b4, b5⟩ := ndA
  rw [en] at b1 b2 b3 b4 b5
  obtain ⟨T0, hT0, h27⟩ := SI_tp CA1.2.2.1 hR
  have b17 : A1.1 17 n = nI T0 := by rw [b4]; exact h27
  have B1 : pl pos + wk 7 = pl pos + 1 := rfl
  have CA2 := Cz_nd (a := 15) (j := n) (v := nI ρ) (Cz_ar CA1 hT0 (Nat.le_refl _) (by omega) (fun j hj => by rw [ex_le (by omega)]; have := (C.2.1.2.2.2.1 j pos (by omega) (Nat.le_refl _)).2.1; rw [C.2.1.2.1] at this; exact this)) (by omega) (Nat.le_refl _)
  have CA3 := Cz_ar CA2 hT0 (by omega) (by omega) (fun j hj => by rw [if_pos hj, ex_le (by omega)]; have := (C.2.1.2.2.2.1 j pos (by omega) (Nat.le_refl _)).2.1; rw [C.2.1.2.1] at this; omega)
  obtain ⟨A3, hA3⟩ : ∃ A3, A3 = arS (uI (arS A1 ρ (nI T0)) 15 n (nI ρ)) (ρ + 1) (nI T0) := ⟨_, rfl⟩
  rw [← hA3] at CA3
  obtain ⟨M3, hM3⟩ : ∃ M3 : Nat → Nat, M3 = fun i => if i < pos + 1 then (fun i => if i < pos + 1 then ex M pos ρ i else ρ + 1) i else ρ + 1 + 1 := ⟨_, rfl⟩
  rw [← hM3] at CA3
  obtain ⟨N3, hN3⟩ : ∃ N3, N3 = ex N pos (n + 1) := ⟨_, rfl⟩
  obtain ⟨L3, hL3⟩ : ∃ L3, L3 = ex L pos τ := ⟨_, rfl⟩
  rw [← hN3] at CA3 en en1
  rw [← hL3] at CA3
  have hAg3 : Ag N M L N3 M3 L3 pos := fun j hj => by
    rw [hN3, hM3, hL3]
    refine ⟨ex_le hj, ?_, ex_le hj⟩
    show (if j < pos + 1 then (if j < pos + 1 then ex M pos ρ j else ρ + 1) else ρ + 1 + 1) = M j
    rw [if_pos (by omega), if_pos (by omega)]
    exact ex_le hj
  have eM : M3 pos = ρ := by rw [(hAg3 pos (Nat.le_refl _)).2.1]; exact C.2.1.2.1
  have eM1 : M3 (pos + 1) = ρ + 2 := by rw [hM3]; show (if pos + 1 < pos + 1 then _ else ρ + 1 + 1) = ρ + 2; rw [if_neg (by omega)]
  obtain ⟨sz', hsz'⟩ : ∃ z, sz = z + 1 := ⟨sz - 1, by have := hTp.1; omega⟩
  obtain ⟨A, hA⟩ : ∃ A, A = uI (psS A3 sz 16 (nI n) (nI R)) 3 7 0 := ⟨_, rfl⟩
  have CA : Cz K pl V m S n ρ τ sz γ.length R A N3 M3 L3 (pos + 1) dep (sz + 1) γ (n + 1) (ρ + 2) τ (pl (pos + 1)) f := by
    rw [hA]
    exact Cz_3 (Cz_push (Cz_B CA3 (show pl pos + wk 7 ≤ pl (pos + 1) by rw [B1]; omega)) 16 (nI n) (nI R) (by omega) (Nat.le_refl _)) (by omega)
  have rA3 : ∀ a j : Nat, (a ≠ 26 ∨ (j ≠ ρ ∧ j ≠ ρ + 1)) → (a ≠ 27 ∨ (j ≠ ρ ∧ j ≠ ρ + 1)) → (a ≠ 22 ∨ j ≠ 6) → (a ≠ 15 ∨ j ≠ n) → A3.1 a j = A1.1 a j := fun a j u1 u2 u3 u4 => by
    rw [hA3, rg_ne (by omega), uI_ne (by omega), rg_ne (by omega)]
  have hop : dueF fu 0 S = some (1, A) := by
    rw [due0, op_6 T C.1 hd hdep hk6]
    unfold f_X7_openChoice
    have b0' : f_X7_addHere 7 0 0 S = some (nI n, A1) := a0
    rw [b0']
    simp only [Option.bind_some, mI_in (a := n) (n := 512) (by omega) (by omega), nI_clamp (show n < 2 ^ 31 by omega), gd_t, b17]
    rw [c_addR CA1.1.rr (by omega)]
    simp only [Option.bind_some]
    have q1 : (uI (arS A1 ρ (nI T0)) 15 n (nI ρ)).1 22 6 = nI (ρ + 1) := by rw [uI_ne (by omega)]; exact (rg_f A1 ρ (nI T0)).2.2
    rw [c_addR q1 (by omega), ← hA3]
    simp only [Option.bind_some]
    have q37 : A3.1 37 sz' = nI R := by
      rw [rA3 37 sz' (by omega) (by omega) (by omega) (by omega)]
      have := hTp1.2.2.2
      rw [hsz', Nat.add_sub_cancel] at this
      exact this
    rw [c_topR (sz := sz') (by rw [← hsz']; exact CA3.1.sz_) (by omega), q37]
    simp only [Option.bind_some]
    unfold f_X7_open
    rw [c_push CA3.1.sz_ (by omega)]
    simp only [Option.bind_some, show z_b 1 = true from rfl, gd_t]
    rw [hA]
  have rdA : ∀ a j : Nat, a ≠ 3 → (a < 34 ∨ 37 < a) → A.1 a j = A3.1 a j := fun a j u1 u2 => by
    rw [hA, uI_ne (by omega), ps_ne (by omega)]
  have A7 : A.1 3 7 = 0 := by rw [hA, uI_eq]
  obtain ⟨p35, p36, p37, p34⟩ := ps_f A3 sz 16 (nI n) (nI R)
  have A35 : A.1 35 sz = nI 16 := by rw [hA, uI_ne (by omega)]; exact p35
  have A36 : A.1 36 sz = nI n := by rw [hA, uI_ne (by omega)]; exact p36
  have A37 : A.1 37 sz = nI R := by rw [hA, uI_ne (by omega)]; exact p37
  have An : ∀ a : Nat, 7 ≤ a → a ≤ 20 → a ≠ 15 → A.1 a n = A1.1 a n := fun a u1 u2 u3 => by rw [rdA a n (by omega) (by omega), rA3 a n (by omega) (by omega) (by omega) (by omega)]
  have A15 : A.1 15 n = nI ρ := by rw [rdA 15 n (by omega) (by omega), hA3, rg_ne (by omega), uI_eq]
  have A26 : A.1 26 R = S.1 26 R := by rw [rdA 26 R (by omega) (by omega), rA3 26 R (by omega) (by omega) (by omega) (by omega)]; exact nl
  have A27 : A.1 27 R = nI T0 := by rw [rdA 27 R (by omega) (by omega), rA3 27 R (by omega) (by omega) (by omega) (by omega)]; exact h27
  have rgA := rg_f A1 ρ (nI T0)
  have rgB := rg_f (uI (arS A1 ρ (nI T0)) 15 n (nI ρ)) (ρ + 1) (nI T0)
  have A26a : A.1 26 ρ = -1 := by rw [rdA 26 ρ (by omega) (by omega), hA3, rg_ne (by omega), uI_ne (by omega)]; exact rgA.1
  have A27a : A.1 27 ρ = nI T0 := by rw [rdA 27 ρ (by omega) (by omega), hA3, rg_ne (by omega), uI_ne (by omega)]; exact rgA.2.1
  have A26b : A.1 26 (ρ + 1) = -1 := by rw [rdA 26 (ρ + 1) (by omega) (by omega), hA3]; exact rgB.1
  have A27b : A.1 27 (ρ + 1) = nI T0 := by rw [rdA 27 (ρ + 1) (by omega) (by omega), hA3]; exact rgB.2.1
  have A21 : A.2.1 21 n = 0 := by rw [hA, hA3]; exact b3
  have hBg : Bg K pl V m A N3 M3 L3 (pos + 1) dep (sz + 1) γ (n + 1) (ρ + 2) τ f 16 R := ⟨Cz_base CA, ⟨by omega, by rw [Nat.add_sub_cancel]; exact A35, by omega, by rw [Nat.add_sub_cancel]; exact A37⟩, by omega, by omega⟩
  have gA := CA.2.1
  obtain ⟨hN, hS⟩ := hRr A N3 M3 L3 (pos + 1) (sz + 1) γ (n + 1) (ρ + 2) τ f 16 R Q (by omega) hBg A7 (by omega)
  have hgo : Lp m fu (pos + 1) A Q → Lp m fu pos S Q := fun h => Lp_op (d := 0) hd (by omega) hop (by omega) (by omega) h
  unfold pIf pw
  rcases hr : Rr (pos + 1) with ⟨b, _ | x⟩
  · rw [pbd_none rfl]
    refine ⟨fun e he hRf => ?_, (fun e y he => by cases he)⟩
    cases he
    exact hgo (hN b hr hRf)
  rw [pbd_some rfl]
  obtain ⟨wx, -⟩ := hW _ _ _ hr
  have hxp := Wt_lt wx
  have hxr := Wt_rt wx
  have htx := tyx_lt K V x
  by_cases h7 : ¬ K b = 7
  · rw [if_neg h7]
    refine ⟨fun e he hRf => ?_, (fun e y he => by cases he)⟩
    cases he
    refine hgo (hS b x hr (fun S' N' M' L' n' ρ' τ' P' => ?_))
    have C' := P'.1
    have b35 : S'.1 35 sz = nI 16 := by rw [C'.2.2.2.2.2.2.2.2.2.1 35 sz (by omega) (by omega) (by omega)]; exact A35
    have hb2 := C'.1.bd
    have hpm2 := C'.1.pm
    refine FZ_cl hfu C'.1.sz_ (by omega) b35 (by omega) (by omega) (by omega) (r := 0) (S1 := rcS S' (pl b)) ?_ hpm2 (Or.inl ⟨rfl, Rf_rc hRf⟩) (pos1 := 0)
    rw [cl_16 C'.1.sz_ (by omega) b35, show (7 : Int32) = nI 7 from rfl, c_take T C'.1 7 (by omega), if_neg h7]
    rfl
  have h7 : K b = 7 := Decidable.not_not.mp h7
  rw [if_pos h7]
  -- the condition is there
  have key : (∀ (S' : im_S) (N' M' L' : Nat → Nat) (n' ρ' τ' kx : Nat) (D : im_S), b < m → PX K pl V m A N3 M3 L3 (pos + 1) dep (sz + 1) γ (n + 1) (ρ + 2) τ f R S' N' M' L' n' ρ' τ' b x → N' (rtk x) = kx → n + 1 ≤ kx → kx < n' → ρ + 2 ≤ ρ' → τ ≤ τ' → Cz K pl V m S n ρ τ sz γ.length R D (ex N' b n') (ex M' b ρ') (ex L' b τ') (b + 1) dep (sz + 1) γ n' ρ' τ' (pl (b + 1)) (min (min f (pfc K pl V x γ 0 [] [])) (ckX K pl V x 2)) → D.1 3 7 = 0 → Fw S' D (n + 1) n' (ρ + 2) ρ' τ' kx → (∀ a : Nat, 7 ≤ a → a ≤ 20 → a ≠ 12 → D.1 a n = A.1 a n) → D.1 12 n = nI kx → D.2.1 21 n = A.2.1 21 n → D.1 9 kx = 1 → D.1 10 kx = nI n → (∀ r : Nat, r < ρ + 2 → D.1 27 r = A.1 27 r ∧ (r ≠ R → D.1 26 r = A.1 26 r)) → D.1 26 R = S'.1 26 R → D.1 35 sz = nI 17 → D.1 36 sz = nI n → D.1 37 sz = nI ρ → Lp m fu (b + 1) D Q) → Lp m fu pos S Q := by
    intro hc
    refine hgo (hS b x hr (fun S' N' M' L' n' ρ' τ' P' => ?_))
    have C' := P'.1
    have F' := C'.2.2.2.2.2
    have Fn := F'.1
    have hb2 := C'.1.bd
    have hpm2 := C'.1.pm
    have hbm := K_lt T.end_ hpm2 h7 (by decide) (by decide)
    have hstb := T.lt_ hbm
    obtain ⟨-, -, nz1, nz2, nz3, nz4, hn', hρ', hτ', -⟩ := PX_kw P' wx gA (show R < ρ + 2 by omega) (by omega) (Fw_refl S' (n + 1) n' (ρ + 2) ρ' τ' _) (fun j _ => ⟨rfl, rfl, rfl⟩)
    obtain ⟨zt0, zt8, ztT, ztB, ztS⟩ := P'.2.2.1
    obtain ⟨kx, hkx⟩ : ∃ kx, N' (rtk x) = kx := ⟨_, rfl⟩
    rw [hkx] at nz2 nz3 nz4 zt8 ztT ztB ztS
    have hkx5 : kx < 512 := by omega
    have b35 : S'.1 35 sz = nI 16 := by rw [F'.2.2.2.2.1 35 sz (by omega) (by omega) (by omega)]; exact A35
    have b36 : S'.1 36 sz = nI n := by rw [F'.2.2.2.2.1 36 sz (by omega) (by omega) (by omega)]; exact A36
    obtain ⟨D1, hD1⟩ : ∃ D1, D1 = ckS (cnS (uI (uI (ad6 S' (b + 1)) 34 3 (nI sz)) 12 n (nI kx)) kx 1 (nI n) (-1)) kx (nI 2) := ⟨_, rfl⟩
    have rD1 : ∀ a j : Nat, a ≠ 3 → (a ≠ 34 ∨ j ≠ 3) → a ≠ 5 → (a ≠ 12 ∨ j ≠ n) → (j ≠ kx ∨ a < 9 ∨ 11 < a) → D1.1 a j = S'.1 a j := fun a j u1 u2 u3 u5 u4 => by
      rw [hD1]; unfold ad6; rw [ck_ne (by omega), cn_ne (by omega), uI_ne (by omega), uI_ne (by omega), uI_ne (by omega)]
    have rD1l : D1.2.1 = S'.2.1 := by rw [hD1, ck_21]; rfl
    have C2 : Cz K pl V m S n ρ τ sz γ.length R S' N' M' L' b dep (sz + 1) γ n' ρ' τ' (pl b) (min f (pfc K pl V x γ 0 [] [])) := Cz_tr CA.2.2.2.2.2 C' (by omega) (by omega) (by omega) (by omega) (Nat.le_refl _) (Or.inl rfl)
    have CD1 : Cz K pl V m S n ρ τ sz γ.length R D1 (ex N' b n') (ex M' b ρ') (ex L' b τ') (b + 1) dep sz γ n' ρ' τ' (pl (b + 1)) (min (min f (pfc K pl V x γ 0 [] [])) (ckX K pl V x 2)) := by
      rw [hD1]
      refine Cz_ck (b := bgk x) (ty := tyk K (tv V) x) (Cz_cn (Cz_nd (Cz_pop (Cz_B (Cz_ad T C2 hbm) (show pl b ≤ pl (b + 1) by omega))) (by omega) (Nat.le_refl _)) 1 (nI n) (-1) (by omega)) ?_ ?_ (T.pl_ (by omega)) htx (by omega)
      · unfold ad6; rw [cn_ne (by omega), uI_ne (by omega), uI_ne (by omega), uI_ne (by omega)]; exact ztT
      · unfold ad6; rw [cn_ne (by omega), uI_ne (by omega), uI_ne (by omega), uI_ne (by omega)]; exact ztB
    obtain ⟨D, hD⟩ : ∃ D, D = uI (psS D1 sz 17 (nI n) (nI ρ)) 3 7 0 := ⟨_, rfl⟩
    have rD : ∀ a j : Nat, a ≠ 3 → (a < 34 ∨ 37 < a) → D.1 a j = D1.1 a j := fun a j u1 u3 => by
      rw [hD, uI_ne (by omega), ps_ne (by omega)]
    have CD : Cz K pl V m S n ρ τ sz γ.length R D (ex N' b n') (ex M' b ρ') (ex L' b τ') (b + 1) dep (sz + 1) γ n' ρ' τ' (pl (b + 1)) (min (min f (pfc K pl V x γ 0 [] [])) (ckX K pl V x 2)) := by
      rw [hD]
      exact Cz_3 (Cz_push CD1 17 (nI n) (nI ρ) (by omega) (Nat.le_refl _)) (by omega)
    have hcl : f_X7_close fu (nI (K b)) S' = some (1, D) := by
      rw [cl_16 C'.1.sz_ (by omega) b35, show (7 : Int32) = nI 7 from rfl, c_take T C'.1 7 (by omega), if_pos h7]
      simp only [Option.bind_some]
      rw [if_neg (show ¬ (1 : Int32) = 0 by decide)]
      unfold f_X7_endCondition
      have c34 : (ad6 S' (b + 1)).1 34 3 = nI (sz + 1) := by unfold ad6; rw [uI_ne (by omega)]; exact C'.1.sz_
      have c36 : (ad6 S' (b + 1)).1 36 sz = nI n := by unfold ad6; rw [uI_ne (by omega)]; exact b36
      rw [c_pop c34 (by omega), c36]
      have c38 : (uI (ad6 S' (b + 1)) 34 3 (nI sz)).1 3 8 = nI kx := by unfold ad6; rw [uI_ne (by omega), uI_ne (by omega)]; exact zt8
      simp only [Option.bind_some, mI_in (a := n) (n := 512) (by omega) (by omega), nI_clamp (show n < 2 ^ 31 by omega), gd_t, c38]
      rw [c_conn hkx5]
      have c38' : (cnS (uI (uI (ad6 S' (b + 1)) 34 3 (nI sz)) 12 n (nI kx)) kx 1 (nI n) (-1)).1 3 8 = nI kx := by rw [cn_ne (by omega), uI_ne (by omega)]; exact c38
      simp only [Option.bind_some, c38']
      have hck : f_X7_checkType (nI kx) 2 (cnS (uI (uI (ad6 S' (b + 1)) 34 3 (nI sz)) 12 n (nI kx)) kx 1 (nI n) (-1)) = some ((), D1) := by rw [hD1]; exact c_chk hkx5 (nI 2)
      rw [hck]
      have d15 : D1.1 15 n = nI ρ := by rw [rD1 15 n (by omega) (by omega) (by omega) (by omega) (by omega), Fn 15 n (by omega) (by omega) (by omega)]; exact A15
      simp only [Option.bind_some, d15]
      unfold f_X7_open
      rw [c_push CD1.1.sz_ (by omega)]
      simp only [Option.bind_some, show z_b 1 = true from rfl, gd_t]
      rw [if_neg (show ¬ (1 : Int32) = 0 by decide), hD]
    refine FZ_cl hfu C'.1.sz_ (by omega) b35 (by omega) (by omega) (by omega) (pos1 := b + 1) hcl hpm2 (Or.inr ⟨rfl, by omega, by omega, ?_⟩)
    obtain ⟨g35, g36, g37, -⟩ := ps_f D1 sz 17 (nI n) (nI ρ)
    have fxD : Fw S' D (n + 1) n' (ρ + 2) ρ' τ' kx := by
      rw [hD, hD1]
      unfold ad6
      exact Fw_uI (Fw_ps (Fw_ck (Fw_cn (Fw_uI (Fw_uI (Fw_uI (Fw_refl S' (n + 1) n' (ρ + 2) ρ' τ' kx) (by omega)) (by omega)) (by omega)) (Or.inl rfl)))) (by omega)
    have k9 : D1.1 9 kx = 1 ∧ D1.1 10 kx = nI n := by
      obtain ⟨c9, c10, -⟩ := cn_f (uI (uI (ad6 S' (b + 1)) 34 3 (nI sz)) 12 n (nI kx)) kx 1 (nI n) (-1)
      rw [hD1, ck_ne (by omega), ck_ne (by omega)]
      exact ⟨c9, c10⟩
    refine hc S' N' M' L' n' ρ' τ' kx D hbm P' hkx nz3 nz4 hρ' hτ' CD (by rw [hD, uI_eq]) fxD (fun a u1 u2 u3 => ?_) ?_ ?_ ?_ ?_ (fun r hr' => ⟨?_, fun hne => ?_⟩) ?_ ?_ ?_ ?_
    · rw [rD a n (by omega) (by omega), rD1 a n (by omega) (by omega) (by omega) (by omega) (by omega), Fn a n u1 u2 (by omega)]
    · rw [rD 12 n (by omega) (by omega), hD1, ck_ne (by omega), cn_ne (by omega), uI_eq]
    · rw [hD]
      show D1.2.1 21 n = _
      rw [rD1l]
      exact F'.2.1 n (by omega)
    · rw [rD 9 kx (by omega) (by omega)]; exact k9.1
    · rw [rD 10 kx (by omega) (by omega)]; exact k9.2
    · rw [rD 27 r (by omega) (by omega), rD1 27 r (by omega) (by omega) (by omega) (by omega) (by omega)]; exact (F'.2.2.1 r hr').1
    · rw [rD 26 r (by omega) (by omega), rD1 26 r (by omega) (by omega) (by omega) (by omega) (by omega)]; exact (F'.2.2.1 r hr').2 hne
    · rw [rD 26 R (by omega) (by omega), rD1 26 R (by omega) (by omega) (by omega) (by omega) (by omega)]
    · rw [hD, uI_ne (by omega)]; exact g35
    · rw [hD, uI_ne (by omega)]; exact g36
    · rw [hD, uI_ne (by omega)]; exact g37
  have body := fun (N' M' L' : Nat → Nat) (n' ρ' τ' : Nat) (D : im_S) (hbm : b < m) (hρ' : ρ + 2 ≤ ρ') (CD : Cz K pl V m S n ρ τ sz γ.length R D (ex N' b n') (ex M' b ρ') (ex L' b τ') (b + 1) dep (sz + 1) γ n' ρ' τ' (pl (b + 1)) (min (min f (pfc K pl V x γ 0 [] [])) (ckX K pl V x 2))) (D7 : D.1 3 7 = 0) (q35 : D.1 35 sz = nI 17) (q37 : D.1 37 sz = nI ρ) => hRr D (ex N' b n') (ex M' b ρ') (ex L' b τ') (b + 1) (sz + 1) γ n' ρ' τ' _ 17 ρ Q (by omega) ⟨Cz_base CD, ⟨by omega, by rw [Nat.add_sub_cancel]; exact q35, by omega, by rw [Nat.add_sub_cancel]; exact q37⟩, by omega, by omega⟩ D7 (by omega)
  rcases hr2 : Rr (b + 1) with ⟨c, _ | y⟩
  · rw [pbd_none rfl]
    refine ⟨fun e he hRf => ?_, (fun e y he => by cases he)⟩
    cases he
    exact key (fun S' N' M' L' n' ρ' τ' kx D hbm P' hkx u1 u2 hρ' hτ' CD D7 fxD rn r12 rn2 d9 d10 dr dR q35 q36 q37 => (body N' M' L' n' ρ' τ' D hbm hρ' CD D7 q35 q37).1 c hr2 hRf)
  rw [pbd_some rfl]
  obtain ⟨wy, -⟩ := hW _ _ _ hr2
  have hyp := Wt_lt wy
  have hyr := Wt_rt wy
  have hty := tyx_lt K V y
  by_cases h8 : ¬ K c = 8
  · rw [if_neg h8]
    refine ⟨fun e he hRf => ?_, (fun e y he => by cases he)⟩
    cases he
    refine key (fun S' N' M' L' n' ρ' τ' kx D hbm P' hkx u1 u2 hρ' hτ' CD D7 fxD rn r12 rn2 d9 d10 dr dR q35 q36 q37 => (body N' M' L' n' ρ' τ' D hbm hρ' CD D7 q35 q37).2 c y hr2 (fun S'' N'' M'' L'' n'' ρ'' τ'' P'' => ?_))
    have C' := P''.1
    have b35 : S''.1 35 sz = nI 17 := by rw [C'.2.2.2.2.2.2.2.2.2.1 35 sz (by omega) (by omega) (by omega)]; exact q35
    have hb2 := C'.1.bd
    have hpm2 := C'.1.pm
    refine FZ_cl hfu C'.1.sz_ (by omega) b35 (by omega) (by omega) (by omega) (r := 0) (S1 := rcS S'' (pl c)) ?_ hpm2 (Or.inl ⟨rfl, Rf_rc hRf⟩) (pos1 := 0)
    rw [cl_17 C'.1.sz_ (by omega) b35, show (8 : Int32) = nI 8 from rfl, c_take T C'.1 8 (by omega), if_neg h8]
    rfl
  have h8 : K c = 8 := Decidable.not_not.mp h8
  rw [if_pos h8]
  -- the first part is there
  have key2 : (∀ (S' : im_S) (N' M' L' : Nat → Nat) (n' ρ' τ' kx : Nat) (D S'' : im_S) (N'' M'' L'' : Nat → Nat) (n'' ρ'' τ'' ky : Nat) (D2 : im_S), b < m → c < m → PX K pl V m A N3 M3 L3 (pos + 1) dep (sz + 1) γ (n + 1) (ρ + 2) τ f R S' N' M' L' n' ρ' τ' b x → N' (rtk x) = kx → n + 1 ≤ kx → kx < n' → ρ + 2 ≤ ρ' → τ ≤ τ' → Gh (ex N' b n') (ex M' b ρ') (ex L' b τ') (b + 1) n' ρ' τ' γ → PX K pl V m D (ex N' b n') (ex M' b ρ') (ex L' b τ') (b + 1) dep (sz + 1) γ n' ρ' τ' (min (min f (pfc K pl V x γ 0 [] [])) (ckX K pl V x 2)) ρ S'' N'' M'' L'' n'' ρ'' τ'' c y → N'' (rtk y) = ky → n' ≤ ky → ky < n'' → ρ' ≤ ρ'' → τ' ≤ τ'' → D.1 26 ρ = -1 → D.1 26 R = S'.1 26 R → Cz K pl V m S n ρ τ sz γ.length R D2 (ex N'' c n'') (ex M'' c ρ'') (ex L'' c τ'') (c + 1) dep (sz + 1) γ n'' ρ'' τ'' (pl (c + 1)) (min (min (min f (pfc K pl V x γ 0 [] [])) (ckX K pl V x 2)) (pfc K pl V y γ 0 [] [])) → D2.1 3 7 = 0 → Fw S' D2 (n + 1) n' (ρ + 2) ρ' τ' kx → Fw S'' D2 n' n'' ρ' ρ'' τ'' ky → (∀ a : Nat, 7 ≤ a → a ≤ 20 → a ≠ 12 → a ≠ 8 → D2.1 a n = A.1 a n) → D2.1 12 n = nI kx → D2.1 8 n = nI (tyk K (tv V) y) → D2.2.1 21 n = A.2.1 21 n → D2.1 9 kx = 1 → D2.1 10 kx = nI n → D2.1 9 ky = 3 → D2.1 10 ky = nI n → (∀ r : Nat, r < ρ + 2 → D2.1 27 r = A.1 27 r) → D2.1 26 R = D.1 26 R → D2.1 26 ρ = S''.1 26 ρ → D2.1 26 (ρ + 1) = -1 → D2.1 35 sz = nI 18 → D2.1 36 sz = nI n → D2.1 37 sz = nI (ρ + 1) → Lp m fu (c + 1) D2 Q) → Lp m fu pos S Q := by
    intro hc2
    refine key (fun S' N' M' L' n' ρ' τ' kx D hbm P' hkx u1 u2 hρ' hτ' CD D7 fxD rn r12 rn2 d9 d10 dr dR q35 q36 q37 => (body N' M' L' n' ρ' τ' D hbm hρ' CD D7 q35 q37).2 c y hr2 (fun S'' N'' M'' L'' n'' ρ'' τ'' P'' => ?_))
    have C'' := P''.1
    have F'' := C''.2.2.2.2.2
    have Fn := F''.1
    have hb3 := C''.1.bd
    have hpm3 := C''.1.pm
    have gD := CD.2.1
    have hcm := K_lt T.end_ hpm3 h8 (by decide) (by decide)
    have hstc := T.lt_ hcm
    obtain ⟨-, -, ny1, ny2, ny3, ny4, hn'', hρ'', hτ'', -⟩ := PX_kw P'' wy gD (show ρ < ρ' by omega) (by omega) (Fw_refl S'' n' n'' ρ' ρ'' τ'' _) (fun j _ => ⟨rfl, rfl, rfl⟩)
    obtain ⟨yt0, yt8, ytT, ytB, ytS⟩ := P''.2.2.1
    obtain ⟨ky, hky⟩ : ∃ ky, N'' (rtk y) = ky := ⟨_, rfl⟩
    rw [hky] at ny2 ny3 ny4 yt8 ytT ytB ytS
    have hky5 : ky < 512 := by omega
    have s35 : S''.1 35 sz = nI 17 := by rw [F''.2.2.2.2.1 35 sz (by omega) (by omega) (by omega)]; exact q35
    have s36 : S''.1 36 sz = nI n := by rw [F''.2.2.2.2.1 36 sz (by omega) (by omega) (by omega)]; exact q36
    obtain ⟨D1, hD1⟩ : ∃ D1, D1 = uI (cnS (uI (ad6 S'' (c + 1)) 34 3 (nI sz)) ky 3 (nI n) (-1)) 8 n (nI (tyk K (tv V) y)) := ⟨_, rfl⟩
    have rD1 : ∀ a j : Nat, a ≠ 3 → (a ≠ 34 ∨ j ≠ 3) → (a ≠ 8 ∨ j ≠ n) → (j ≠ ky ∨ a < 9 ∨ 11 < a) → D1.1 a j = S''.1 a j := fun a j v1 v2 v5 v4 => by
      rw [hD1]; unfold ad6; rw [uI_ne (by omega), cn_ne (by omega), uI_ne (by omega), uI_ne (by omega)]
    have C2 : Cz K pl V m S n ρ τ sz γ.length R S'' N'' M'' L'' c dep (sz + 1) γ n'' ρ'' τ'' (pl c) (min (min (min f (pfc K pl V x γ 0 [] [])) (ckX K pl V x 2)) (pfc K pl V y γ 0 [] [])) := Cz_tr CD.2.2.2.2.2 C'' (by omega) (by omega) (by omega) (by omega) (Nat.le_refl _) (Or.inr (Nat.le_refl _))
    have CD1 : Cz K pl V m S n ρ τ sz γ.length R D1 (ex N'' c n'') (ex M'' c ρ'') (ex L'' c τ'') (c + 1) dep sz γ n'' ρ'' τ'' (pl (c + 1)) (min (min (min f (pfc K pl V x γ 0 [] [])) (ckX K pl V x 2)) (pfc K pl V y γ 0 [] [])) := by
      rw [hD1]
      exact Cz_nd (Cz_cn (Cz_pop (Cz_B (Cz_ad T C2 hcm) (show pl c ≤ pl (c + 1) by omega))) 3 (nI n) (-1) (by omega)) (by omega) (Nat.le_refl _)
    obtain ⟨D2, hD2⟩ : ∃ D2, D2 = uI (psS D1 sz 18 (nI n) (nI (ρ + 1))) 3 7 0 := ⟨_, rfl⟩
    have rD : ∀ a j : Nat, a ≠ 3 → (a < 34 ∨ 37 < a) → D2.1 a j = D1.1 a j := fun a j v1 v3 => by
      rw [hD2, uI_ne (by omega), ps_ne (by omega)]
    have CD2 : Cz K pl V m S n ρ τ sz γ.length R D2 (ex N'' c n'') (ex M'' c ρ'') (ex L'' c τ'') (c + 1) dep (sz + 1) γ n'' ρ'' τ'' (pl (c + 1)) (min (min (min f (pfc K pl V x γ 0 [] [])) (ckX K pl V x 2)) (pfc K pl V y γ 0 [] [])) := by
      rw [hD2]
      exact Cz_3 (Cz_push CD1 18 (nI n) (nI (ρ + 1)) (by omega) (Nat.le_refl _)) (by omega)
    have s15 : S''.1 15 n = nI ρ := by rw [Fn 15 n (by omega) (by omega) (by omega), rn 15 (by omega) (by omega) (by omega)]; exact A15
    have hcl : f_X7_close fu (nI (K c)) S'' = some (1, D2) := by
      rw [cl_17 C''.1.sz_ (by omega) s35, show (8 : Int32) = nI 8 from rfl, c_take T C''.1 8 (by omega), if_pos h8]
      simp only [Option.bind_some]
      rw [if_neg (show ¬ (1 : Int32) = 0 by decide)]
      unfold f_X7_endThenPart
      have c34 : (ad6 S'' (c + 1)).1 34 3 = nI (sz + 1) := by unfold ad6; rw [uI_ne (by omega)]; exact C''.1.sz_
      have c36 : (ad6 S'' (c + 1)).1 36 sz = nI n := by unfold ad6; rw [uI_ne (by omega)]; exact s36
      rw [c_pop c34 (by omega), c36]
      have c38 : (uI (ad6 S'' (c + 1)) 34 3 (nI sz)).1 3 8 = nI ky := by unfold ad6; rw [uI_ne (by omega), uI_ne (by omega)]; exact yt8
      simp only [Option.bind_some, c38]
      rw [c_conn hky5]
      have c38' : (cnS (uI (ad6 S'' (c + 1)) 34 3 (nI sz)) ky 3 (nI n) (-1)).1 3 8 = nI ky := by rw [cn_ne (by omega)]; exact c38
      have c8 : (cnS (uI (ad6 S'' (c + 1)) 34 3 (nI sz)) ky 3 (nI n) (-1)).1 8 ky = nI (tyk K (tv V) y) := by unfold ad6; rw [cn_ne (by omega), uI_ne (by omega), uI_ne (by omega)]; exact ytT
      have c15 : (cnS (uI (ad6 S'' (c + 1)) 34 3 (nI sz)) ky 3 (nI n) (-1)).1 15 n = nI ρ := by unfold ad6; rw [cn_ne (by omega), uI_ne (by omega), uI_ne (by omega)]; exact s15
      simp only [Option.bind_some, c38', mI_in (a := n) (n := 512) (by omega) (by omega), nI_clamp (show n < 2 ^ 31 by omega), mI_in (a := ky) (n := 512) (by omega) hky5, nI_clamp (show ky < 2 ^ 31 by omega), gd_t, c8, c15]
      rw [← hD1, show nI ρ + 1 = nI (ρ + 1) from nI_add ρ 1]
      unfold f_X7_open
      rw [c_push CD1.1.sz_ (by omega)]
      simp only [Option.bind_some, show z_b 1 = true from rfl, gd_t]
      rw [if_neg (show ¬ (1 : Int32) = 0 by decide), hD2]
    refine FZ_cl hfu C''.1.sz_ (by omega) s35 (by omega) (by omega) (by omega) (pos1 := c + 1) hcl hpm3 (Or.inr ⟨rfl, by omega, by omega, ?_⟩)
    obtain ⟨g35, g36, g37, -⟩ := ps_f D1 sz 18 (nI n) (nI (ρ + 1))
    have fyD : Fw S'' D2 n' n'' ρ' ρ'' τ'' ky := by
      rw [hD2, hD1]
      unfold ad6
      exact Fw_uI (Fw_ps (Fw_uI (Fw_cn (Fw_uI (Fw_uI (Fw_refl S'' n' n'' ρ' ρ'' τ'' ky) (by omega)) (by omega)) (Or.inl rfl)) (by omega))) (by omega)
    have fxD2 : Fw S' D2 (n + 1) n' (ρ + 2) ρ' τ' kx := by
      have f1 := Fw_Fr fxD F'' (Nat.le_refl _) (Nat.le_refl _) (Nat.le_refl _) (Or.inl (show ρ < ρ + 2 by omega))
      rw [hD2, hD1]
      unfold ad6
      exact Fw_uI (Fw_ps (Fw_uI (Fw_cn (Fw_uI (Fw_uI f1 (by omega)) (by omega)) (by omega)) (by omega))) (by omega)
    have k9 : D1.1 9 ky = 3 ∧ D1.1 10 ky = nI n := by
      obtain ⟨c9, c10, -⟩ := cn_f (uI (ad6 S'' (c + 1)) 34 3 (nI sz)) ky 3 (nI n) (-1)
      rw [hD1, uI_ne (by omega), uI_ne (by omega)]
      exact ⟨c9, c10⟩
    have dρ : D.1 26 ρ = -1 := by rw [(dr ρ (by omega)).2 (by omega)]; exact A26a
    have dρ1 : D.1 26 (ρ + 1) = -1 := by rw [(dr (ρ + 1) (by omega)).2 (by omega)]; exact A26b
    refine hc2 S' N' M' L' n' ρ' τ' kx D S'' N'' M'' L'' n'' ρ'' τ'' ky D2 hbm hcm P' hkx u1 u2 hρ' hτ' gD P'' hky ny3 ny4 hρ'' hτ'' dρ dR CD2 (by rw [hD2, uI_eq]) fxD2 fyD (fun a v1 v2 v3 v4 => ?_) ?_ ?_ ?_ ?_ ?_ ?_ ?_ (fun r hr' => ?_) ?_ ?_ ?_ ?_ ?_ ?_
    · rw [rD a n (by omega) (by omega), rD1 a n (by omega) (by omega) (by omega) (by omega), Fn a n v1 v2 (by omega), rn a v1 v2 v3]
    · rw [rD 12 n (by omega) (by omega), rD1 12 n (by omega) (by omega) (by omega) (by omega), Fn 12 n (by omega) (by omega) (by omega)]; exact r12
    · rw [rD 8 n (by omega) (by omega), hD1, uI_eq]
    · rw [hD2, hD1]
      show S''.2.1 21 n = _
      rw [F''.2.1 n (by omega)]
      exact rn2
    · rw [rD 9 kx (by omega) (by omega), rD1 9 kx (by omega) (by omega) (by omega) (by omega), Fn 9 kx (by omega) (by omega) (by omega)]; exact d9
    · rw [rD 10 kx (by omega) (by omega), rD1 10 kx (by omega) (by omega) (by omega) (by omega), Fn 10 kx (by omega) (by omega) (by omega)]; exact d10
    · rw [rD 9 ky (by omega) (by omega)]; exact k9.1
    · rw [rD 10 ky (by omega) (by omega)]; exact k9.2
    · rw [rD 27 r (by omega) (by omega), rD1 27 r (by omega) (by omega) (by omega) (by omega), (F''.2.2.1 r (by omega)).1]; exact (dr r hr').1
    · rw [rD 26 R (by omega) (by omega), rD1 26 R (by omega) (by omega) (by omega) (by omega)]; exact (F''.2.2.1 R (by omega)).2 (by omega)
    · rw [rD 26 ρ (by omega) (by omega), rD1 26 ρ (by omega) (by omega) (by omega) (by omega)]
    · rw [rD 26 (ρ + 1) (by omega) (by omega), rD1 26 (ρ + 1) (by omega) (by omega) (by omega) (by omega), (F''.2.2.1 (ρ + 1) (by omega)).2 (by omega)]; exact dρ1
    · rw [hD2, uI_ne (by omega)]; exact g35
    · rw [hD2, uI_ne (by omega)]; exact g36
    · rw [hD2, uI_ne (by omega)]; exact g37
  have body2 := fun (N'' M'' L'' : Nat → Nat) (n'' ρ'' τ'' : Nat) (D2 : im_S) (hcm : c < m) (hρ'' : ρ + 2 ≤ ρ'') (CD : Cz K pl V m S n ρ τ sz γ.length R D2 (ex N'' c n'') (ex M'' c ρ'') (ex L'' c τ'') (c + 1) dep (sz + 1) γ n'' ρ'' τ'' (pl (c + 1)) (min (min (min f (pfc K pl V x γ 0 [] [])) (ckX K pl V x 2)) (pfc K pl V y γ 0 [] []))) (D7 : D2.1 3 7 = 0) (q35 : D2.1 35 sz = nI 18) (q37 : D2.1 37 sz = nI (ρ + 1)) => hRr D2 (ex N'' c n'') (ex M'' c ρ'') (ex L'' c τ'') (c + 1) (sz + 1) γ n'' ρ'' τ'' _ 18 (ρ + 1) Q (by omega) ⟨Cz_base CD, ⟨by omega, by rw [Nat.add_sub_cancel]; exact q35, by omega, by rw [Nat.add_sub_cancel]; exact q37⟩, by omega, by omega⟩ D7 (by omega)
  rcases hr3 : Rr (c + 1) with ⟨e3, _ | z⟩
  · rw [pbd_none rfl]
    refine ⟨fun e he hRf => ?_, (fun e y he => by cases he)⟩
    cases he
    exact key2 (fun S' N' M' L' n' ρ' τ' kx D S'' N'' M'' L'' n'' ρ'' τ'' ky D2 hbm hcm P' hkx u1 u2 hρ' hτ' gD P'' hky ny3 ny4 hρ'' hτ'' dρ dR CD2 D7 fx2 fy2 rn r12 r8 rn2 d9 d10 e9 e10 dr eR eρ eρ1 q35 q36 q37 => (body2 N'' M'' L'' n'' ρ'' τ'' D2 hcm (by omega) CD2 D7 q35 q37).1 e3 hr3 hRf)
  rw [pbd_some rfl]
  refine ⟨(fun e he => by cases he), fun e z' he hK => ?_⟩
  cases he
  refine key2 (fun S' N' M' L' n' ρ' τ' kx D S'' N'' M'' L'' n'' ρ'' τ'' ky D2 hbm hcm P' hkx u1 u2 hρ' hτ' gD P'' hky ny3 ny4 hρ'' hτ'' dρ dR CD2 D7 fx2 fy2 rn r12 r8 rn2 d9 d10 e9 e10 dr eR eρ eρ1 q35 q36 q37 => (body2 N'' M'' L'' n'' ρ'' τ'' D2 hcm (by omega) CD2 D7 q35 q37).2 e3 z hr3 (fun S3 N5 M5 L5 n3 ρ3 τ3 P3 => ?_))
  obtain ⟨wz, -⟩ := hW _ _ _ hr3
  have hzp := Wt_lt wz
  have hzr := Wt_rt wz
  have htz := tyx_lt K V z
  have C3 := P3.1
  have F3 := C3.2.2.2.2.2
  have Fn := F3.1
  have hb3 := C3.1.bd
  have hpm3 := C3.1.pm
  have gD2 := CD2.2.1
  obtain ⟨-, -, mz1, mz2, mz3, mz4, hn3, hρ3, hτ3, -⟩ := PX_kw P3 wz gD2 (show ρ + 1 < ρ'' by omega) (by omega) (Fw_refl S3 n'' n3 ρ'' ρ3 τ3 _) (fun j _ => ⟨rfl, rfl, rfl⟩)
  obtain ⟨zt0, zt8, ztT, ztB, ztS⟩ := P3.2.2.1
  obtain ⟨kz, hkz⟩ : ∃ kz, N5 (rtk z) = kz := ⟨_, rfl⟩
  rw [hkz] at mz2 mz3 mz4 zt8 ztT ztB ztS
  have hkz5 : kz < 512 := by omega
  have s35 : S3.1 35 sz = nI 18 := by rw [F3.2.2.2.2.1 35 sz (by omega) (by omega) (by omega)]; exact q35
  have s36 : S3.1 36 sz = nI n := by rw [F3.2.2.2.2.1 36 sz (by omega) (by omega) (by omega)]; exact q36
  have s8 : S3.1 8 n = nI (tyk K (tv V) y) := by rw [Fn 8 n (by omega) (by omega) (by omega)]; exact r8
  obtain ⟨E, hE⟩ : ∃ E, E = uI (ckS (cnS (uI S3 34 3 (nI sz)) kz 3 (nI n) (-1)) kz (nI (tyk K (tv V) y))) 3 8 (nI n) := ⟨_, rfl⟩
  have rE : ∀ a j : Nat, a ≠ 3 → a ≠ 5 → (a ≠ 34 ∨ j ≠ 3) → (j ≠ kz ∨ a < 9 ∨ 11 < a) → E.1 a j = S3.1 a j := fun a j w1 w2 w3 w4 => by
    rw [hE, uI_ne (by omega), ck_ne (by omega), cn_ne (by omega), uI_ne (by omega)]
  have C4 : Cz K pl V m S n ρ τ sz γ.length R S3 N5 M5 L5 e3 dep (sz + 1) γ n3 ρ3 τ3 (pl e3) (min (min (min (min f (pfc K pl V x γ 0 [] [])) (ckX K pl V x 2)) (pfc K pl V y γ 0 [] [])) (pfc K pl V z γ 0 [] [])) := Cz_tr CD2.2.2.2.2.2 C3 (by omega) (by omega) (by omega) (by omega) (Nat.le_refl _) (Or.inr (by omega))
  have CE : Cz K pl V m S n ρ τ sz γ.length R E N5 M5 L5 e3 dep sz γ n3 ρ3 τ3 (pl e3) (min (min (min (min (min f (pfc K pl V x γ 0 [] [])) (ckX K pl V x 2)) (pfc K pl V y γ 0 [] [])) (pfc K pl V z γ 0 [] [])) (ckX K pl V z (tyk K (tv V) y))) := by
    rw [hE]
    refine Cz_3 (Cz_ck (b := bgk z) (ty := tyk K (tv V) z) (Cz_cn (Cz_pop C4) 3 (nI n) (-1) (by omega)) ?_ ?_ (T.pl_ (by omega)) htz hty) (by omega)
    · rw [cn_ne (by omega), uI_ne (by omega)]; exact ztT
    · rw [cn_ne (by omega), uI_ne (by omega)]; exact ztB
  have heb : f_X7_endByItself fu S3 = some ((), E) := by
    unfold f_X7_endByItself
    rw [c_topK C3.1.sz_ (by omega), s35]
    simp only [Option.bind_some]
    rw [c_pop C3.1.sz_ (by omega), s36]
    simp only [Option.bind_some]
    rw [if_neg (show ¬ nI 18 = (15 : Int32) by decide), if_pos (show nI 18 = (18 : Int32) from rfl)]
    have c38 : (uI S3 34 3 (nI sz)).1 3 8 = nI kz := by rw [uI_ne (by omega)]; exact zt8
    rw [c38, c_conn hkz5]
    have c38' : (cnS (uI S3 34 3 (nI sz)) kz 3 (nI n) (-1)).1 3 8 = nI kz := by rw [cn_ne (by omega)]; exact c38
    have c8 : (cnS (uI S3 34 3 (nI sz)) kz 3 (nI n) (-1)).1 8 n = nI (tyk K (tv V) y) := by rw [cn_ne (by omega), uI_ne (by omega)]; exact s8
    simp only [Option.bind_some, c38', mI_in (a := n) (n := 512) (by omega) (by omega), nI_clamp (show n < 2 ^ 31 by omega), gd_t, c8]
    rw [c_chk hkz5]
    simp only [Option.bind_some]
    rw [hE]
  refine FZ_end hfu C3.1.sz_ (by omega) s35 (by omega) heb (by omega) ?_
  have E34 := CE.1.sz_
  have hTpE := Tp_Fr CE.2.2.2.2.2 hTp
  have hAy : Ag N'' M'' L'' N5 M5 L5 c := Ag_tr (Ag_ex N'' M'' L'' c n'' ρ'' τ'') P3.2.1 (by omega)
  have hAx : Ag N' M' L' N5 M5 L5 b := Ag_tr (Ag_tr (Ag_ex N' M' L' b n' ρ' τ') P''.2.1 (by omega)) hAy (by omega)
  have hA3 : Ag N3 M3 L3 N5 M5 L5 (pos + 1) := Ag_tr P'.2.1 hAx (by omega)
  have hA12 : Ag N M L N5 M5 L5 pos := Ag_tr hAg3 hA3 (by omega)
  have eE : N5 pos = n := by rw [(hA3 pos (by omega)).1]; exact en
  have eE' : N5 (pos + 1) = n + 1 := by rw [(hA3 (pos + 1) (by omega)).1]; exact en1
  have eME : M5 pos = ρ := by rw [(hA3 pos (by omega)).2.1]; exact eM
  have eME' : M5 (pos + 1) = ρ + 2 := by rw [(hA3 (pos + 1) (by omega)).2.1]; exact eM1
  have fxE : Fw S' E (n + 1) n' (ρ + 2) ρ' τ' kx := by
    have f1 := Fw_Fr fx2 F3 (by omega) (by omega) (by omega) (Or.inl (show ρ + 1 < ρ + 2 by omega))
    rw [hE]
    exact Fw_uI (Fw_ck (Fw_cn (Fw_uI f1 (by omega)) (by omega))) (by omega)
  obtain ⟨Gx, Sx, nx1', nx2', -⟩ := PX_kw P' wx gA (show R < ρ + 2 by omega) (by omega) (by rw [hkx]; exact fxE) hAx
  rw [hkx] at nx2'
  have fyE : Fw S'' E n' n'' ρ' ρ'' τ'' ky := by
    have f1 := Fw_Fr fy2 F3 (by omega) (Nat.le_refl _) (Nat.le_refl _) (Or.inl (show ρ + 1 < ρ' by omega))
    rw [hE]
    exact Fw_uI (Fw_ck (Fw_cn (Fw_uI f1 (by omega)) (by omega))) (by omega)
  obtain ⟨Gy, Sy, ny1', ny2', -⟩ := PX_kw P'' wy gD (show ρ < ρ' by omega) (by omega) (by rw [hky]; exact fyE) hAy
  rw [hky] at ny2'
  have fzE : Fw S3 E n'' n3 ρ'' ρ3 τ3 kz := by
    rw [hE]
    exact Fw_uI (Fw_ck (Fw_cn (Fw_uI (Fw_refl S3 n'' n3 ρ'' ρ3 τ3 kz) (by omega)) (Or.inl rfl))) (by omega)
  obtain ⟨Gz, Sz, nz1', nz2', -⟩ := PX_kw P3 wz gD2 (show ρ + 1 < ρ'' by omega) (by omega) (by rw [hkz]; exact fzE) (fun j _ => ⟨rfl, rfl, rfl⟩)
  have kz9 : E.1 9 kz = 3 ∧ E.1 10 kz = nI n := by
    obtain ⟨c9, c10, -⟩ := cn_f (uI S3 34 3 (nI sz)) kz 3 (nI n) (-1)
    rw [hE, uI_ne (by omega), ck_ne (by omega), uI_ne (by omega), ck_ne (by omega)]
    exact ⟨c9, c10⟩
  have rE2 : ∀ a j : Nat, 7 ≤ a → a ≤ 20 → j < n'' → E.1 a j = D2.1 a j := fun a j w1 w2 w3 => by
    rw [rE a j (by omega) (by omega) (by omega) (by omega), Fn a j w1 w2 w3]
  have r27 : ∀ r : Nat, r < ρ + 2 → E.1 27 r = A.1 27 r := fun r hr' => by
    rw [rE 27 r (by omega) (by omega) (by omega) (by omega), (F3.2.2.1 r (by omega)).1]; exact dr r hr'
  have E26R : E.1 26 R = S'.1 26 R := by
    rw [rE 26 R (by omega) (by omega) (by omega) (by omega), (F3.2.2.1 R (by omega)).2 (by omega), eR]; exact dR
  have E26a : E.1 26 ρ = S''.1 26 ρ := by
    rw [rE 26 ρ (by omega) (by omega) (by omega) (by omega), (F3.2.2.1 ρ (by omega)).2 (by omega)]; exact eρ
  have E26b : E.1 26 (ρ + 1) = S3.1 26 (ρ + 1) := rE 26 (ρ + 1) (by omega) (by omega) (by omega) (by omega)
  have PE : PX K pl V m S N M L pos dep sz γ n ρ τ f R E N5 M5 L5 n3 ρ3 τ3 e3 (aIf pos x y z) := by
    refine ⟨?_, hA12, ⟨?_, ?_, ?_, ?_, ?_⟩, fun hz => ?_, ?_, ?_⟩
    · have hmin : min (min (min (min (min f (pfc K pl V x γ 0 [] [])) (ckX K pl V x 2)) (pfc K pl V y γ 0 [] [])) (pfc K pl V z γ 0 [] [])) (ckX K pl V z (tyk K (tv V) y)) = min f (pfc K pl V (aIf pos x y z) γ 0 [] []) := by rw [pfc_if]; omega
      rw [← hmin]
      exact CE
    · show N5 pos < N5 (pos + 1); omega
    · show E.1 3 8 = nI (N5 pos); rw [eE, hE, uI_eq]
    · show E.1 8 (N5 pos) = nI (tyk K (tv V) y); rw [eE, rE2 8 n (by omega) (by omega) (by omega)]; exact r8
    · show E.1 20 (N5 pos) = nI (pl pos); rw [eE, rE2 20 n (by omega) (by omega) (by omega), rn 20 (by omega) (by omega) (by omega) (by omega), An 20 (by omega) (by omega) (by omega)]; exact fz.2.2.2.2.2.2.2
    · show E.1 14 (N5 pos) = -1; rw [eE, rE2 14 n (by omega) (by omega) (by omega), rn 14 (by omega) (by omega) (by omega) (by omega), An 14 (by omega) (by omega) (by omega)]; exact fz.2.2.2.2.2.1
    · rw [pfc_if] at hz
      rw [G_if]
      refine ⟨⟨by omega, ?_, ?_, ?_, ?_, ?_⟩, ?_, ⟨nx1', ?_, ?_⟩, by omega, ?_, ?_, ?_, ⟨ny1', ?_, ?_⟩, ⟨nz1', ?_, ?_⟩, ?_, ?_, Gx (by omega), ?_, ?_⟩
      · rw [eE, rE2 7 n (by omega) (by omega) (by omega), rn 7 (by omega) (by omega) (by omega) (by omega), An 7 (by omega) (by omega) (by omega)]; exact b1
      · rw [eE, rE2 8 n (by omega) (by omega) (by omega)]; exact r8
      · rw [eE, hE]
        show (ckS (cnS (uI S3 34 3 (nI sz)) kz 3 (nI n) (-1)) kz (nI (tyk K (tv V) y))).2.1 21 n = 0
        rw [ck_21]
        show S3.2.1 21 n = 0
        rw [F3.2.1 n (by omega), rn2]; exact A21
      · rw [eE, rE2 17 n (by omega) (by omega) (by omega), rn 17 (by omega) (by omega) (by omega) (by omega), An 17 (by omega) (by omega) (by omega), r27 R (by omega), A27]; exact b17
      · rw [eE, rE2 19 n (by omega) (by omega) (by omega), rn 19 (by omega) (by omega) (by omega) (by omega), An 19 (by omega) (by omega) (by omega)]; exact b5
      · rw [eE, nx2', rE2 12 n (by omega) (by omega) (by omega)]; exact r12
      · rw [nx2', rE2 9 kx (by omega) (by omega) (by omega)]; exact d9
      · rw [nx2', rE2 10 kx (by omega) (by omega) (by omega), eE]; exact d10
      · rw [eE, eME, rE2 15 n (by omega) (by omega) (by omega), rn 15 (by omega) (by omega) (by omega) (by omega)]; exact A15
      · rw [eME, r27 ρ (by omega), r27 R (by omega), A27]; exact A27a
      · rw [eME, r27 (ρ + 1) (by omega), r27 R (by omega), A27]; exact A27b
      · rw [ny2', rE2 9 ky (by omega) (by omega) (by omega)]; exact e9
      · rw [ny2', rE2 10 ky (by omega) (by omega) (by omega), eE]; exact e10
      · rw [hkz]; exact kz9.1
      · rw [hkz, eE]; exact kz9.2
      · rw [eME, E26a]
        rw [dρ] at Sy
        exact Sy
      · rw [eME, E26b]
        rw [eρ1] at Sz
        exact Sz
      · rw [eME]; exact Gy (by omega)
      · rw [eME]; exact Gz (by omega)
    · show Seg E N5 (E.1 26 R) (lvs x) (S.1 26 R)
      rw [E26R, ← A26]
      exact Sx
    · have CIx := PX_ci P' wx gA (by rw [hkx]; exact fxE.1) fxE.2.1 hAx
      have CIy := PX_ci P'' wy gD (by rw [hky]; exact fyE.1) fyE.2.1 hAy
      have CIz := PX_ci P3 wz gD2 (by rw [hkz]; exact fzE.1) fzE.2.1 (fun j _ => ⟨rfl, rfl, rfl⟩)
      show CI K pl V E N5 pos e3 pos (cls x ++ (cls y ++ cls z))
      have nb : N5 b = n' := by rw [(hAx b (Nat.le_refl _)).1]; exact P'.1.2.1.1
      have nb1 : N5 (b + 1) = n' := by rw [(hAy (b + 1) (by omega)).1, (P''.2.1 (b + 1) (Nat.le_refl _)).1, ex_gt (by omega)]
      have nc : N5 c = n'' := by rw [(hAy c (Nat.le_refl _)).1]; exact P''.1.2.1.1
      have nc1 : N5 (c + 1) = n'' := by rw [(P3.2.1 (c + 1) (Nat.le_refl _)).1, ex_gt (by omega)]
      have h1 := CI_seq (t0 := pos) CIy CIz (by omega) (by omega) (by omega) (fun k k1 k2 => by rw [nc] at k1; rw [nc1] at k2; omega) (Or.inl (by omega))
      have h2 := CI_seq (t0 := pos) CIx h1 (by omega) (by omega) (by omega) (fun k k1 k2 => by rw [nb] at k1; rw [nb1] at k2; omega) (Or.inl (by omega))
      refine CI_wid h2 (by omega) (Nat.le_refl _) (fun k k1 k2 => ?_) (fun k k1 k2 => absurd k1 (by omega)) (Or.inr (Or.inr rfl))
      rw [eE] at k1
      rw [eE'] at k2
      have : k = n := by omega
      rw [this, rE2 7 n (by omega) (by omega) (by omega), rn 7 (by omega) (by omega) (by omega) (by omega), An 7 (by omega) (by omega) (by omega), b1]; exact k8 (by omega) (by omega)
  have hfz := hK E N5 M5 L5 n3 ρ3 τ3 PE
  have q2 := hTpE.2.1
  rw [hsz'] at E34 q2 hfz ⊢
  exact Fl_Z hfu E34 (by omega) q2 hTpE.2.2.1 (by omega) (Or.inl rfl) hfz
end CIF
