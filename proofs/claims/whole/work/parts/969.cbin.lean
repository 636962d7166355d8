/-! the class's parser: operators between operands -/
/-- behind signs: a weaker one follows, or a comparison too many -/
def FE (K : Nat → Nat) (m fu e sz least : Nat) (Q : Int32 → im_S → Prop) (S' : im_S) : Prop := (stg (K e) < least → Fl K m fu e sz true S' Q) ∧ (least ≤ stg (K e) → FZ K m fu e sz S' Q)
def sT1 (s : Nat) : Nat := if s ≤ 3 then 2 else 1
def sT2 (s : Nat) : Nat := if s ≤ 2 then 2 else 1
theorem ob_eq {s : Nat} (hs : s ≤ 5) (x : Int32) (S : im_S) : f_X7_openBinary x (nI s) S = (f_X7_addHere 5 (nI (sT1 s)) x.toInt64 S).bind (fun q => gd (in_b q.1 512) (gd (in_b (q.2.1 3 8) 512) (gd (in_b q.1 512) ((f_X3_connect (q.2.1 3 8) 2 q.1 (-1) (uI (uI q.2 12 q.1.toNatClampNeg (q.2.1 3 8)) 20 q.1.toNatClampNeg ((q.2.1 20) ((q.2.1 3 8).toNatClampNeg)))).bind (fun q5 => (f_X7_checkType (q5.2.1 3 8) (nI (sT2 s)) q5.2).bind (fun q9 => (f_X6_topRegion q9.2).bind (fun q12 => (f_X6_push (nI s) q.1 q12.1 q12.2).bind (fun q15 => some (1, (uI q15.2 3 7 1)))))))))) := by
  have l4 : nI s < (4 : Int32) ↔ s < 4 := mI_lt (a := s) (b := 4) (by omega) (by omega)
  have l3 : nI s < (3 : Int32) ↔ s < 3 := mI_lt (a := s) (b := 3) (by omega) (by omega)
  unfold f_X7_openBinary sT1 sT2
  by_cases h4 : s < 4
  · rw [if_pos (l4.mpr h4), if_pos (show s ≤ 3 by omega)]
    by_cases h3 : s < 3
    · simp only [if_pos (l3.mpr h3), if_pos (show s ≤ 2 by omega)]; rfl
    · simp only [if_neg (fun z => h3 (l3.mp z)), if_neg (show ¬ s ≤ 2 by omega)]; rfl
  · rw [if_neg (fun z => h4 (l4.mp z)), if_neg (show ¬ s ≤ 3 by omega)]
    simp only [if_neg (show ¬ nI s < (3 : Int32) from fun z => by have := l3.mp z; omega), if_neg (show ¬ s ≤ 2 by omega)]; rfl
theorem eb_eq {s : Nat} (hs : s ≤ 5) (S : im_S) : f_X7_endOperator (nI s) S = (f_X6_pop S).bind (fun q => gd (in_b q.1 512) ((f_X3_connect (q.2.1 3 8) 2 q.1 (-1) (uI q.2 13 q.1.toNatClampNeg (q.2.1 3 8))).bind (fun q5 => (f_X7_checkType (q5.2.1 3 8) (nI (sT2 s)) q5.2).bind (fun q9 => some ((), (uI q9.2 3 8 q.1)))))) := by
  have l3 : nI s < (3 : Int32) ↔ s < 3 := mI_lt (a := s) (b := 3) (by omega) (by omega)
  have n6 : nI s ≠ (6 : Int32) := fun z => by have := (nI_eq (a := s) (b := 6) (by omega) (by omega)).mp z; omega
  unfold f_X7_endOperator sT2
  simp only [if_pos n6]
  by_cases h3 : s < 3
  · simp only [if_pos (l3.mpr h3), if_pos (show s ≤ 2 by omega)]; rfl
  · simp only [if_neg (fun z => h3 (l3.mp z)), if_neg (show ¬ s ≤ 2 by omega)]; rfl
section CBN
variable {K pl : Nat → Nat} {V : Nat → Int64} {m fu : Nat} {Q : Int32 → im_S → Prop} {S : im_S} {N M L : Nat → Nat} {pos dep sz n ρ τ f k R : Nat} {γ : List Nat}
set_option maxHeartbeats 4000000 in
/-- an operator and its right operand -/
theorem k_bin (T : TH K pl V m) (hfu : 600 ≤ fu) (hB : Bg K pl V m S N M L pos dep sz γ n ρ τ f k R) {x : TR} {S1 : im_S} {N1 M1 L1 : Nat → Nat} {n1 ρ1 τ1 p s : Nat} (w : Wt K x pos p 0) (P : PX K pl V m S N M L pos dep sz γ n ρ τ f R S1 N1 M1 L1 n1 ρ1 τ1 p x) (hs : s = stg (K p)) (hs1 : 1 ≤ s) (hks : 6 < k ∨ k < s) {r : PR} (hWr : ∀ b z, r = (b, some z) → Wt K z (p + 1) b 0)
    (hI : ∀ (A : im_S) (N' M' L' : Nat → Nat) (n' ρ' τ' f' : Nat), Bg K pl V m A N' M' L' (p + 1) dep (sz + 1) γ n' ρ' τ' f' s R → A.1 3 7 = nI 1 → (∀ e, r = (e, none) → Rf pl e Q → Lp m fu (p + 1) A Q) ∧ ∀ e z, r = (e, some z) → Kx K pl V m A N' M' L' (p + 1) dep (sz + 1) γ n' ρ' τ' f' R e z (FE K m fu e (sz + 1) (s + 1) Q) → Lp m fu (p + 1) A Q) :
    (∀ e, r = (e, none) → Rf pl e Q → Fl K m fu p sz true S1 Q) ∧ ∀ b z, r = (b, some z) →
      (∀ (S4 : im_S) (N4 M4 L4 : Nat → Nat) (n4 ρ4 τ4 : Nat), PX K pl V m S N M L pos dep sz γ n ρ τ f R S4 N4 M4 L4 n4 ρ4 τ4 b (aBin p x z) → (stg (K b) ≤ (if s = 3 then 2 else s) → Fl K m fu b sz true S4 Q) ∧ ((if s = 3 then 2 else s) < stg (K b) → FZ K m fu b sz S4 Q)) → Fl K m fu p sz true S1 Q := by
  obtain ⟨C, hTp, hR, hpos⟩ := hB
  have hg := C.2.1
  have C1 := P.1
  have hpm := C1.1.pm
  have hbd := C1.1.bd
  have hm := T.m_
  have hTp1 := Tp_Fr C1.2.2.2.2.2 hTp
  have hs5 : s ≤ 5 := by rw [hs]; have := stg_lt (K p); omega
  have hp : p < m := by
    rcases Nat.lt_or_ge p m with q | q
    · exact q
    · have e : p = m := by omega
      rcases T.end_ with z | z
      · rw [hs, e, z] at hs1; exact absurd hs1 (by decide)
      · rw [hs, e, z] at hs1; exact absurd hs1 (by decide)
  obtain ⟨-, -, nx1, nx2, nx3, nx4, hn1, hρ1, hτ1, hpp⟩ := PX_keep P w hg hR hpos (Fx_refl S1 n n1 ρ1 τ1 R _) (fun j _ => ⟨rfl, rfl, rfl⟩)
  have hRt := P.2.2.1
  obtain ⟨rt0, rt8, rtT, rtB, rtS⟩ := hRt
  generalize hkx : N1 (rtk x) = kx at *
  have hst := T.st_ hp
  have hwl := wl_ge (K p)
  have hkp : K p < 127 := by have := (tkK_c _ (T.2.1 p hpm).2).2.2.2.2.2; omega
  have t1 : sT1 s < 100 := by unfold sT1; split <;> omega
  have t2 : sT2 s < 100 := by unfold sT2; split <;> omega
  obtain ⟨A1, a0, CA, ndA, fz, rd, rd2, -, nl, fx⟩ := c_here T C1 hTp1 (show R < ρ1 by omega) (Or.inl rfl) hn1 (pl_B T hpm) hp 5 (by omega) (sT1 s) (Int64.ofNat (K p))
  have nl := nl (by omega)
  have eN1 : N1 p = n1 := C1.2.1.1
  have en : ex N1 p (n1 + 1) p = n1 := by rw [ex_le (Nat.le_refl _)]; exact eN1
  have en1 : ex N1 p (n1 + 1) (p + 1) = n1 + 1 := ex_gt (by omega)
  have hkx5 : kx < 512 := by omega
  have a38 : A1.1 3 8 = nI kx := by rw [rd 3 8 (by omega) (by omega) (by omega) (by omega) (by omega)]; exact rt8
  have a20 : A1.1 20 kx = nI (pl (bgk x)) := by rw [rd 20 kx (by omega) (by omega) (by omega) (by omega) (by omega)]; exact rtB
  have a8 : A1.1 8 kx = nI (tyk K (tv V) x) := by rw [rd 8 kx (by omega) (by omega) (by omega) (by omega) (by omega)]; exact rtT
  have hty := tyx_lt K V x
  have hbg := Wt_rt w
  obtain ⟨A, hA⟩ : ∃ A, A = uI (psS (ckS (cnS (uI (uI A1 12 n1 (nI kx)) 20 n1 (nI (pl (bgk x)))) kx 2 (nI n1) (-1)) kx (nI (sT2 s))) sz (nI s) (nI n1) (nI R)) 3 7 1 := ⟨_, rfl⟩
  have rdA : ∀ a j : Nat, (a ≠ 3 ∨ j ≠ 7) → (a < 34 ∨ 37 < a) → a ≠ 5 → (j ≠ kx ∨ a < 9 ∨ 11 < a) → (j ≠ n1 ∨ (a ≠ 12 ∧ a ≠ 20)) → A.1 a j = A1.1 a j := by
    intro a j h1 h2 h3 h4 h5
    rw [hA, uI_ne (by omega), ps_ne (by omega), ck_ne (by omega), cn_ne (by omega), uI_ne (by omega), uI_ne (by omega)]
  have rdA21 : ∀ a j : Nat, A.2.1 a j = A1.2.1 a j := by
    intro a j
    rw [hA]
    show (ckS (cnS (uI (uI A1 12 n1 (nI kx)) 20 n1 (nI (pl (bgk x)))) kx 2 (nI n1) (-1)) kx (nI (sT2 s))).2.1 a j = _
    rw [ck_21]
    rfl
  have CAf : Cz K pl V m S n ρ τ sz γ.length R A (ex N1 p (n1 + 1)) (ex M1 p ρ1) (ex L1 p τ1) (p + 1) dep (sz + 1) γ (n1 + 1) ρ1 τ1 (pl (p + 1)) (min (min f (pfc K pl V x γ 0 [] [])) (ckX K pl V x (sT2 s))) := by
    rw [hA]
    refine Cz_3 (Cz_push (Cz_B (Cz_ck (b := bgk x) (ty := tyk K (tv V) x) (Cz_cn (Cz_nd (Cz_nd CA (by omega) (by omega)) (by omega) (by omega)) 2 (nI n1) (-1) (by omega)) ?_ ?_ (T.pl_ (by omega)) hty t2) (show pl p + 1 ≤ pl (p + 1) by omega)) (nI s) (nI n1) (nI R) (by omega) (Nat.le_refl _)) (by omega)
    · rw [cn_ne (by omega), uI_ne (by omega), uI_ne (by omega)]; exact a8
    · rw [cn_ne (by omega), uI_ne (by omega), uI_ne (by omega)]; exact a20
  obtain ⟨sz', hsz'⟩ : ∃ z, sz = z + 1 := ⟨sz - 1, by have := hTp.1; omega⟩
  have hop : f_X7_openBinary (nI (K p)) (nI (stg (K p))) S1 = some (1, A) := by
    rw [← hs, ob_eq hs5, nI_l (show K p < 2 ^ 31 by omega)]
    have b0 : f_X7_addHere 5 (nI (sT1 s)) (lN (K p)) S1 = some (nI n1, A1) := a0
    rw [b0]
    simp only [Option.bind_some, a38, mI_in (a := n1) (n := 512) (by omega) (by omega), mI_in (a := kx) (n := 512) (by omega) hkx5, nI_clamp (show n1 < 2 ^ 31 by omega), nI_clamp (show kx < 2 ^ 31 by omega), gd_t, a20]
    rw [c_conn hkx5]
    simp only [Option.bind_some]
    have e38 : (cnS (uI (uI A1 12 n1 (nI kx)) 20 n1 (nI (pl (bgk x)))) kx 2 (nI n1) (-1)).1 3 8 = nI kx := by rw [cn_ne (by omega), uI_ne (by omega), uI_ne (by omega)]; exact a38
    rw [e38, c_chk hkx5]
    simp only [Option.bind_some]
    have e34 : (ckS (cnS (uI (uI A1 12 n1 (nI kx)) 20 n1 (nI (pl (bgk x)))) kx 2 (nI n1) (-1)) kx (nI (sT2 s))).1 34 3 = nI sz := by rw [ck_ne (by omega), cn_ne (by omega), uI_ne (by omega), uI_ne (by omega)]; exact CA.1.sz_
    have e34' := e34
    rw [hsz'] at e34'
    have e37 : (ckS (cnS (uI (uI A1 12 n1 (nI kx)) 20 n1 (nI (pl (bgk x)))) kx 2 (nI n1) (-1)) kx (nI (sT2 s))).1 37 sz' = nI R := by
      rw [ck_ne (by omega), cn_ne (by omega), uI_ne (by omega), uI_ne (by omega), rd 37 sz' (by omega) (by omega) (by omega) (by omega) (by omega)]
      have := hTp1.2.2.2
      rw [hsz', Nat.add_sub_cancel] at this
      exact this
    rw [c_topR e34' (by omega), e37]
    simp only [Option.bind_some]
    rw [c_push e34 (by omega)]
    simp only [Option.bind_some]
    rw [hA]
  have A7 : A.1 3 7 = nI 1 := by rw [hA, uI_eq]; rfl
  obtain ⟨p35, p36, p37, p34⟩ := ps_f (ckS (cnS (uI (uI A1 12 n1 (nI kx)) 20 n1 (nI (pl (bgk x)))) kx 2 (nI n1) (-1)) kx (nI (sT2 s))) sz (nI s) (nI n1) (nI R)
  have A35 : A.1 35 sz = nI s := by rw [hA, uI_ne (by omega)]; exact p35
  have A36 : A.1 36 sz = nI n1 := by rw [hA, uI_ne (by omega)]; exact p36
  have A37 : A.1 37 sz = nI R := by rw [hA, uI_ne (by omega)]; exact p37
  have A12 : A.1 12 n1 = nI kx := by rw [hA, uI_ne (by omega), ps_ne (by omega), ck_ne (by omega), cn_ne (by omega), uI_ne (by omega), uI_eq]
  have A20 : A.1 20 n1 = nI (pl (bgk x)) := by rw [hA, uI_ne (by omega), ps_ne (by omega), ck_ne (by omega), cn_ne (by omega), uI_eq]
  have A9 : A.1 9 kx = 2 ∧ A.1 10 kx = nI n1 := by
    obtain ⟨c9, c10, -⟩ := cn_f (uI (uI A1 12 n1 (nI kx)) 20 n1 (nI (pl (bgk x)))) kx 2 (nI n1) (-1)
    rw [hA, uI_ne (by omega), ps_ne (by omega), ck_ne (by omega), uI_ne (by omega), ps_ne (by omega), ck_ne (by omega)]
    exact ⟨c9, c10⟩
  have A26 : A.1 26 R = S1.1 26 R := by rw [rdA 26 R (by omega) (by omega) (by omega) (by omega) (by omega)]; exact nl
  have fxA : Fx S1 A n n1 ρ1 τ1 R kx := by
    rw [hA]
    exact Fx_uI (Fx_ps (Fx_ck (Fx_cn (Fx_uI (Fx_uI (fx n n1 ρ1 τ1 R kx (Nat.le_refl _) (Or.inl rfl)) (by omega)) (by omega)) (Or.inl rfl)))) (by omega)
  have ndA' : nd pl A (ex N1 p (n1 + 1)) 5 (sT1 s) (Int64.ofNat (K p)) p R := by
    obtain ⟨b0, b1, b2, b3, b4, b5⟩ := ndA
    rw [en] at b1 b2 b3 b4 b5
    refine ⟨b0, ?_, ?_, ?_, ?_, ?_⟩
    · rw [en, rdA 7 n1 (by omega) (by omega) (by omega) (by omega) (by omega)]; exact b1
    · rw [en, rdA 8 n1 (by omega) (by omega) (by omega) (by omega) (by omega)]; exact b2
    · rw [en, rdA21]; exact b3
    · rw [en, rdA 17 n1 (by omega) (by omega) (by omega) (by omega) (by omega), rdA 27 R (by omega) (by omega) (by omega) (by omega) (by omega)]; exact b4
    · rw [en, rdA 19 n1 (by omega) (by omega) (by omega) (by omega) (by omega)]; exact b5
  have A14 : A.1 14 n1 = -1 := by rw [rdA 14 n1 (by omega) (by omega) (by omega) (by omega) (by omega)]; exact fz.2.2.2.2.2.1
  have hBg : Bg K pl V m A (ex N1 p (n1 + 1)) (ex M1 p ρ1) (ex L1 p τ1) (p + 1) dep (sz + 1) γ (n1 + 1) ρ1 τ1 (min (min f (pfc K pl V x γ 0 [] [])) (ckX K pl V x (sT2 s))) s R := ⟨Cz_base CAf, ⟨by omega, by rw [Nat.add_sub_cancel]; exact A35, by omega, by rw [Nat.add_sub_cancel]; exact A37⟩, by omega, by omega⟩
  have gA := CAf.2.1
  obtain ⟨hN, hS⟩ := hI A _ _ _ _ _ _ _ hBg A7
  have hFl : Lp m fu (p + 1) A Q → Fl K m fu p sz true S1 Q := by
    intro hL
    have q1 := C1.1.sz_
    have q2 := hTp1.2.1
    rw [hsz'] at q1 q2 ⊢
    exact Fl_bin hfu q1 (by omega) q2 hTp1.2.2.1 (by omega) (by omega) hop (by omega) (by omega) hL
  refine ⟨fun e he hRf => hFl (hN e he hRf), fun b z hr hL => hFl (hS b z hr (fun S' N' M' L' n' ρ' τ' P' => ?_))⟩
  have wz := hWr b z hr
  have hzp := Wt_lt wz
  have hzr := Wt_rt wz
  have C' := P'.1
  have F' := C'.2.2.2.2.2
  have hb2 := C'.1.bd
  have hpm2 := C'.1.pm
  have b35 : S'.1 35 sz = nI s := by rw [F'.2.2.2.2.1 35 sz (by omega) (by omega) (by omega)]; exact A35
  have b36 : S'.1 36 sz = nI n1 := by rw [F'.2.2.2.2.1 36 sz (by omega) (by omega) (by omega)]; exact A36
  obtain ⟨-, -, nz1, nz2, nz3, nz4, hn', hρ', hτ', -⟩ := PX_keep P' wz gA (show R < ρ1 by omega) (by omega) (Fx_refl S' (n1 + 1) n' ρ' τ' R _) (fun j _ => ⟨rfl, rfl, rfl⟩)
  obtain ⟨zt0, zt8, ztT, ztB, ztS⟩ := P'.2.2.1
  generalize hkz : N' (rtk z) = kz at *
  have hkz5 : kz < 512 := by omega
  have htz := tyx_lt K V z
  obtain ⟨E, hE⟩ : ∃ E, E = uI (ckS (cnS (uI (uI S' 34 3 (nI sz)) 13 n1 (nI kz)) kz 2 (nI n1) (-1)) kz (nI (sT2 s))) 3 8 (nI n1) := ⟨_, rfl⟩
  have rdE : ∀ a j : Nat, (a ≠ 3 ∨ j ≠ 8) → (a ≠ 34 ∨ j ≠ 3) → a ≠ 5 → (a ≠ 13 ∨ j ≠ n1) → (j ≠ kz ∨ a < 9 ∨ 11 < a) → E.1 a j = S'.1 a j := by
    intro a j h1 h2 h3 h4 h5
    rw [hE, uI_ne (by omega), ck_ne (by omega), cn_ne (by omega), uI_ne (by omega), uI_ne (by omega)]
  have rdE21 : ∀ a j : Nat, E.2.1 a j = S'.2.1 a j := by
    intro a j
    rw [hE]
    show (ckS (cnS (uI (uI S' 34 3 (nI sz)) 13 n1 (nI kz)) kz 2 (nI n1) (-1)) kz (nI (sT2 s))).2.1 a j = _
    rw [ck_21]
    rfl
  have C2 : Cz K pl V m S n ρ τ sz γ.length R S' N' M' L' b dep (sz + 1) γ n' ρ' τ' (pl b) (min (min (min f (pfc K pl V x γ 0 [] [])) (ckX K pl V x (sT2 s))) (pfc K pl V z γ 0 [] [])) := Cz_tr CAf.2.2.2.2.2 C' (by omega) hρ1 hτ1 (by omega) (Nat.le_refl _) (Or.inl rfl)
  have CE : Cz K pl V m S n ρ τ sz γ.length R E N' M' L' b dep sz γ n' ρ' τ' (pl b) (min (min (min (min f (pfc K pl V x γ 0 [] [])) (ckX K pl V x (sT2 s))) (pfc K pl V z γ 0 [] [])) (ckX K pl V z (sT2 s))) := by
    rw [hE]
    refine Cz_3 (Cz_ck (b := bgk z) (ty := tyk K (tv V) z) (Cz_cn (Cz_nd (Cz_pop C2) (by omega) (by omega)) 2 (nI n1) (-1) (by omega)) ?_ ?_ (T.pl_ (by omega)) htz t2) (by omega)
    · rw [cn_ne (by omega), uI_ne (by omega), uI_ne (by omega)]; exact ztT
    · rw [cn_ne (by omega), uI_ne (by omega), uI_ne (by omega)]; exact ztB
  have heo : f_X7_endOperator (nI s) S' = some ((), E) := by
    rw [eb_eq hs5, c_pop C'.1.sz_ (by omega), b36]
    simp only [Option.bind_some]
    have c38 : (uI S' 34 3 (nI sz)).1 3 8 = nI kz := by rw [uI_ne (by omega)]; exact zt8
    simp only [c38, mI_in (a := n1) (n := 512) (by omega) (by omega), nI_clamp (show n1 < 2 ^ 31 by omega), gd_t]
    rw [c_conn hkz5]
    simp only [Option.bind_some]
    have c38' : (cnS (uI (uI S' 34 3 (nI sz)) 13 n1 (nI kz)) kz 2 (nI n1) (-1)).1 3 8 = nI kz := by rw [cn_ne (by omega), uI_ne (by omega)]; exact c38
    rw [c38', c_chk hkz5]
    simp only [Option.bind_some]
    rw [hE]
  have hA12 : Ag N1 M1 L1 N' M' L' p := Ag_tr (Ag_ex N1 M1 L1 p (n1 + 1) ρ1 τ1) P'.2.1 (by omega)
  have eN3 : N' p = n1 := by rw [(hA12 p (Nat.le_refl _)).1]; exact eN1
  have eN3' : N' (p + 1) = n1 + 1 := by rw [(P'.2.1 (p + 1) (Nat.le_refl _)).1]; exact en1
  have fxE : Fx S1 E n n1 ρ1 τ1 R kx := by
    have f1 := Fx_Fr fxA F' (by omega) (Nat.le_refl _) (Nat.le_refl _) (Or.inl rfl)
    rw [hE]
    exact Fx_uI (Fx_ck (Fx_cn (Fx_uI (Fx_uI f1 (by omega)) (by omega)) (by omega))) (by omega)
  obtain ⟨Gx, Sx, nx1', nx2', -⟩ := PX_keep P w hg hR hpos (by rw [hkx]; exact fxE) hA12
  have fzE : Fx S' E (n1 + 1) n' ρ' τ' R kz := by
    rw [hE]
    exact Fx_uI (Fx_ck (Fx_cn (Fx_uI (Fx_uI (Fx_refl S' (n1 + 1) n' ρ' τ' R kz) (by omega)) (by omega)) (Or.inl rfl))) (by omega)
  obtain ⟨Gz, Sz, nz1', nz2', -⟩ := PX_keep P' wz gA (show R < ρ1 by omega) (by omega) (by rw [hkz]; exact fzE) (fun j _ => ⟨rfl, rfl, rfl⟩)
  rw [hkx] at nx2'
  have Fn := F'.1
  have e13 : E.1 13 n1 = nI kz := by
    rw [hE, uI_ne (by omega), ck_ne (by omega), cn_ne (by omega), uI_eq]
  have ez9 : E.1 9 kz = 2 ∧ E.1 10 kz = nI n1 := by
    obtain ⟨c9, c10, -⟩ := cn_f (uI (uI S' 34 3 (nI sz)) 13 n1 (nI kz)) kz 2 (nI n1) (-1)
    rw [hE, uI_ne (by omega), ck_ne (by omega), uI_ne (by omega), ck_ne (by omega)]
    exact ⟨c9, c10⟩
  have ex9 : E.1 9 kx = 2 ∧ E.1 10 kx = nI n1 := by
    rw [rdE 9 kx (by omega) (by omega) (by omega) (by omega) (by omega), rdE 10 kx (by omega) (by omega) (by omega) (by omega) (by omega), Fn 9 kx (by omega) (by omega) (by omega), Fn 10 kx (by omega) (by omega) (by omega)]
    exact A9
  have rdn : ∀ a : Nat, 7 ≤ a → a ≤ 20 → a ≠ 13 → E.1 a n1 = A.1 a n1 := fun a h1 h2 h3 => by
    rw [rdE a n1 (by omega) (by omega) (by omega) (by omega) (by omega), Fn a n1 h1 h2 (by omega)]
  have e27 : E.1 27 R = A.1 27 R := by rw [rdE 27 R (by omega) (by omega) (by omega) (by omega) (by omega)]; exact (F'.2.2.1 R (by omega)).1
  have hpf : pfc K pl V (aBin p x z) γ 0 [] [] = min (pfc K pl V x γ 0 [] []) (min (ckX K pl V x (sT2 s)) (min (pfc K pl V z γ 0 [] []) (ckX K pl V z (sT2 s)))) := by rw [hs]; rfl
  have hty1 : tyk K (tv V) (aBin p x z) = sT1 s := by rw [hs]; rfl
  have PE : PX K pl V m S N M L pos dep sz γ n ρ τ f R E N' M' L' n' ρ' τ' b (aBin p x z) := by
    refine ⟨?_, ?_, ?_, fun hz => ?_, ?_, ?_⟩
    · have hmin : min (min (min (min f (pfc K pl V x γ 0 [] [])) (ckX K pl V x (sT2 s))) (pfc K pl V z γ 0 [] [])) (ckX K pl V z (sT2 s)) = min f (pfc K pl V (aBin p x z) γ 0 [] []) := by rw [hpf]; omega
      rw [← hmin]
      exact CE
    · exact Ag_tr P.2.1 hA12 (by omega)
    · refine ⟨?_, ?_, ?_, ?_, ?_⟩
      · show N' p < N' (p + 1); omega
      · show E.1 3 8 = nI (N' p); rw [eN3, hE, uI_eq]
      · rw [hty1]
        show E.1 8 (N' p) = nI (sT1 s)
        rw [eN3, rdn 8 (by omega) (by omega) (by omega)]
        have := ndA'.2.2.1; rw [en] at this; exact this
      · show E.1 20 (N' p) = nI (pl (bgk x)); rw [eN3, rdn 20 (by omega) (by omega) (by omega)]; exact A20
      · show E.1 14 (N' p) = -1; rw [eN3, rdn 14 (by omega) (by omega) (by omega)]; exact A14
    · rw [hpf] at hz
      obtain ⟨b0, b1, b2, b3, b4, b5⟩ := ndA'
      rw [en] at b1 b2 b3 b4 b5
      rw [G_bin]
      refine ⟨⟨by omega, ?_, ?_, ?_, ?_, ?_⟩, ?_, ?_, ⟨nx1', ?_, ?_⟩, ⟨nz1', ?_, ?_⟩, Gx (by omega), Gz (by omega)⟩
      · rw [eN3, rdn 7 (by omega) (by omega) (by omega)]; exact b1
      · rw [eN3, rdn 8 (by omega) (by omega) (by omega), ← hs]; exact b2
      · rw [eN3, rdE21, F'.2.1 n1 (by omega)]; exact b3
      · rw [eN3, rdn 17 (by omega) (by omega) (by omega), e27]; exact b4
      · rw [eN3, rdn 19 (by omega) (by omega) (by omega)]; exact b5
      · rw [eN3, rdn 12 (by omega) (by omega) (by omega), nx2']; exact A12
      · rw [eN3, hkz]; exact e13
      · rw [nx2']; exact ex9.1
      · rw [nx2', eN3]; exact ex9.2
      · rw [hkz]; exact ez9.1
      · rw [hkz, eN3]; exact ez9.2
    · show Seg E N' (E.1 26 R) (lvs z ++ lvs x) (S.1 26 R)
      rw [rdE 26 R (by omega) (by omega) (by omega) (by omega) (by omega)]
      refine Seg_app _ _ _ _ _ Sz ?_
      rw [A26]
      exact Sx
    · have CIx := PX_ci P w hg (by rw [hkx]; exact fxE.1) fxE.2.1 hA12
      have CIz := PX_ci P' wz gA (by rw [hkz]; exact fzE.1) fzE.2.1 (fun j _ => ⟨rfl, rfl, rfl⟩)
      show CI K pl V E N' pos b p (cls x ++ cls z)
      refine CI_seq CIx CIz (by omega) (by omega) (by omega) (fun k k1 k2 => ?_) (by omega)
      rw [eN3] at k1
      rw [eN3'] at k2
      have : k = n1 := by omega
      rw [this, rdn 7 (by omega) (by omega) (by omega)]
      have := ndA'.2.1
      rw [en] at this
      rw [this]
      exact k8 (by omega) (by omega)
  obtain ⟨L1', L2'⟩ := hL E N' M' L' n' ρ' τ' PE
  refine ⟨fun hlt => ?_, fun hge => ?_⟩
  · by_cases h33 : s = 3 ∧ stg (K b) = 3
    · refine Fl_cmp hfu C'.1.sz_ (by omega) (by rw [← h33.1]; exact b35) h33.2 ?_
      exact FZ_pop hfu C'.1.sz_ (by omega) b35 (by omega) (by omega) heo CE.1.sz_ (L2' (by rw [if_pos h33.1]; omega))
    · exact Fl_pop hfu C'.1.sz_ (by omega) b35 (by omega) (by omega) (by omega) heo CE.1.sz_ (L1' (by split <;> omega))
  · exact FZ_pop hfu C'.1.sz_ (by omega) b35 (by omega) (by omega) heo CE.1.sz_ (L2' (by split <;> omega))
/-- operands and operators, from where no operand stands yet, and from behind one -/
theorem k_signs (T : TH K pl V m) (hfu : 600 ≤ fu) {Rr R1 : Nat → PR} {p0 : Nat} (hW : WR K Rr) (hW1 : WR K R1) (hAh : ∀ q p d0, p0 ≤ p → m + 2 ≤ q + p → d0 ≤ 1 → (d0 = 0 → dep < 20 ∧ K p ≠ 4 ∧ K p ≠ 6 ∧ K p ≠ 9) → HOp K pl V m fu dep p d0 (pAh K Rr R1 q p)) : ∀ q : Nat,
    (∀ (S : im_S) (N M L : Nat → Nat) (least p d0 sz : Nat) (γ : List Nat) (n ρ τ f k R : Nat) (Q : Int32 → im_S → Prop), p0 ≤ p → 2 * m + 3 ≤ q + 2 * p → 1 ≤ least → d0 ≤ 1 → (d0 = 0 → dep < 20 ∧ K p ≠ 4 ∧ K p ≠ 6 ∧ K p ≠ 9) → Bg K pl V m S N M L p dep sz γ n ρ τ f k R → S.1 3 7 = nI d0 → (6 < k ∨ k < least) →
      (∀ e, pSg K Rr R1 q least 9 none p = (e, none) → Rf pl e Q → Lp m fu p S Q) ∧ ∀ e x, pSg K Rr R1 q least 9 none p = (e, some x) → Kx K pl V m S N M L p dep sz γ n ρ τ f R e x (FE K m fu e sz least Q) → Lp m fu p S Q) ∧
    (∀ (S : im_S) (N M L : Nat → Nat) (least most pos sz : Nat) (γ : List Nat) (n ρ τ f k R : Nat) (Q : Int32 → im_S → Prop) (x : TR) (S1 : im_S) (N1 M1 L1 : Nat → Nat) (n1 ρ1 τ1 p : Nat), p0 ≤ p → 2 * m + 2 ≤ q + 2 * p → 1 ≤ least → Bg K pl V m S N M L pos dep sz γ n ρ τ f k R → (6 < k ∨ k < least) → Wt K x pos p 0 → PX K pl V m S N M L pos dep sz γ n ρ τ f R S1 N1 M1 L1 n1 ρ1 τ1 p x → stg (K p) ≤ most →
      (∀ e, pSg K Rr R1 q least most (some x) p = (e, none) → Rf pl e Q → Fl K m fu p sz true S1 Q) ∧ ∀ e y, pSg K Rr R1 q least most (some x) p = (e, some y) → Kx K pl V m S N M L pos dep sz γ n ρ τ f R e y (FE K m fu e sz least Q) → Fl K m fu p sz true S1 Q) := by
  intro q
  induction q with
  | zero =>
    refine ⟨?_, ?_⟩
    · intro S N M L least p d0 sz γ n ρ τ f k R Q _ hq _ _ _ hB
      have := hB.1.1.pm
      omega
    · intro S N M L least most pos sz γ n ρ τ f k R Q x S1 N1 M1 L1 n1 ρ1 τ1 p _ hq _ _ _ _ P
      have := P.1.1.pm
      omega
  | succ q ih =>
    obtain ⟨ih1, ih2⟩ := ih
    refine ⟨?_, ?_⟩
    · intro S N M L least p d0 sz γ n ρ τ f k R Q hp0 hq hl hd0 hd00 hB hd hk
      have hpm := hB.1.1.pm
      obtain ⟨hN, hS⟩ := hAh q p d0 hp0 (by omega) hd0 hd00 S N M L sz γ n ρ τ f k R Q hB hd
      rw [pSg]
      rcases hr : pAh K Rr R1 q p with ⟨b, _ | x⟩
      · rw [pbd_none rfl]
        refine ⟨fun e he hRf => ?_, (fun e y he => by cases he)⟩
        cases he
        exact hN b hr hRf
      · rw [pbd_some rfl]
        obtain ⟨wx, -⟩ := pAh_W hW hW1 _ _ _ _ hr
        have hlt := Wt_lt wx
        have hsl := stg_lt (K b)
        refine ⟨fun e he hRf => hS b x hr (fun S' N' M' L' n' ρ' τ' P' => ?_), fun e y he hK => hS b x hr (fun S' N' M' L' n' ρ' τ' P' => ?_)⟩
        · exact (ih2 S N M L least 9 p sz γ n ρ τ f k R Q x S' N' M' L' n' ρ' τ' b (by omega) (by omega) hl hB hk wx P' (by omega)).1 e he hRf
        · exact (ih2 S N M L least 9 p sz γ n ρ τ f k R Q x S' N' M' L' n' ρ' τ' b (by omega) (by omega) hl hB hk wx P' (by omega)).2 e y he hK
    · intro S N M L least most pos sz γ n ρ τ f k R Q x S1 N1 M1 L1 n1 ρ1 τ1 p hp0 hq hl hB hk w P hmost
      rw [pSg]
      by_cases hc : ¬ (least ≤ stg (K p) ∧ stg (K p) ≤ most)
      · rw [if_neg hc]
        refine ⟨(fun e he => by cases he), fun e y he hK => ?_⟩
        cases he
        exact (hK _ _ _ _ _ _ _ P).1 (by omega)
      have hc : least ≤ stg (K p) ∧ stg (K p) ≤ most := Decidable.not_not.mp hc
      rw [if_pos hc]
      have hpm := P.1.1.pm
      have hWi : ∀ b z, pSg K Rr R1 q (stg (K p) + 1) 9 none (p + 1) = (b, some z) → Wt K z (p + 1) b 0 := fun b z hr => ((pSg_W hW hW1 _ _ _ _ _ _ _ (by omega) hr).1 rfl).1
      have hbin := k_bin (Q := Q) T hfu hB w P rfl (by omega) (by omega) hWi (fun A N' M' L' n' ρ' τ' f' hBA hA7 => ih1 A N' M' L' (stg (K p) + 1) (p + 1) 1 (sz + 1) γ n' ρ' τ' f' (stg (K p)) R Q (by omega) (by omega) (by omega) (by omega) (fun z => absurd z (by omega)) hBA hA7 (by omega))
      rcases hr : pSg K Rr R1 q (stg (K p) + 1) 9 none (p + 1) with ⟨b, _ | z⟩
      · rw [pbd_none rfl]
        refine ⟨fun e he hRf => ?_, (fun e y he => by cases he)⟩
        cases he
        exact hbin.1 b hr hRf
      · rw [pbd_some rfl]
        have wz := hWi b z hr
        have hlt := Wt_lt wz
        obtain ⟨q, rfl⟩ : ∃ z, q = z + 1 := ⟨q - 1, by omega⟩
        refine ⟨fun e he hRf => hbin.2 b z hr (fun S4 N4 M4 L4 n4 ρ4 τ4 P4 => ⟨fun h1 => ?_, fun h1 => ?_⟩), fun e y he hK => hbin.2 b z hr (fun S4 N4 M4 L4 n4 ρ4 τ4 P4 => ⟨fun h1 => ?_, fun h1 => ?_⟩)⟩
        · have hb := P4.1.1.pm
          exact (ih2 S N M L least _ pos sz γ n ρ τ f k R Q (aBin p x z) S4 N4 M4 L4 n4 ρ4 τ4 b (by omega) (by omega) hl hB hk ⟨by omega, w, wz⟩ P4 h1).1 e he hRf
        · rw [pSg, if_neg (by omega)] at he
          cases he
        · have hb := P4.1.1.pm
          exact (ih2 S N M L least _ pos sz γ n ρ τ f k R Q (aBin p x z) S4 N4 M4 L4 n4 ρ4 τ4 b (by omega) (by omega) hl hB hk ⟨by omega, w, wz⟩ P4 h1).2 e y he hK
        · rw [pSg, if_neg (by omega)] at he
          cases he
          refine (hK _ _ _ _ _ _ _ P4).2 ?_
          have : least ≤ stg (K p) := hc.1
          revert h1
          split <;> omega
end CBN
