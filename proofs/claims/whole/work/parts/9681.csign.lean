/-! the class's parser: a sign ahead -/
/-- an operand, told by what it reads as -/
def HOp (K pl : Nat → Nat) (V : Nat → Int64) (m fu dep p d0 : Nat) (r : PR) : Prop := ∀ (S : im_S) (N M L : Nat → Nat) (sz : Nat) (γ : List Nat) (n ρ τ f k R : Nat) (Q : Int32 → im_S → Prop), Bg K pl V m S N M L p dep sz γ n ρ τ f k R → S.1 3 7 = nI d0 → (∀ e, r = (e, none) → Rf pl e Q → Lp m fu p S Q) ∧ ∀ e x, r = (e, some x) → Kx K pl V m S N M L p dep sz γ n ρ τ f R e x (fun S' => Fl K m fu e sz true S' Q) → Lp m fu p S Q
section CSG
variable {K pl : Nat → Nat} {V : Nat → Int64} {m fu : Nat} {Q : Int32 → im_S → Prop} {S : im_S} {N M L : Nat → Nat} {pos dep sz n ρ τ f k R : Nat} {γ : List Nat}
set_option maxHeartbeats 4000000 in
theorem k_sig (T : TH K pl V m) (hfu : 600 ≤ fu) {d : Nat} {r : PR} (hI : HOp K pl V m fu dep (pos + 1) 1 r) (hWr : ∀ b x, r = (b, some x) → Wt K x (pos + 1) b 0) (hB : Bg K pl V m S N M L pos dep sz γ n ρ τ f k R) (hd : S.1 3 7 = nI d) (hd1 : d ≤ 1) (hdep : d = 0 → dep < 20) (hk45 : K pos = 45 ∨ K pos = 33) :
    (∀ e, r = (e, none) → Rf pl e Q → Lp m fu pos S Q) ∧ ∀ b x, r = (b, some x) → Kx K pl V m S N M L pos dep sz γ n ρ τ f R b (aSig pos x) (fun S' => Fl K m fu b sz true S' Q) → Lp m fu pos S Q := by
  obtain ⟨C, hTp, hR, hpos⟩ := hB
  have hm := T.m_
  have hbd := C.1.bd
  have hpm := C.1.pm
  have hp : pos < m := by
    rcases hk45 with q | q
    · exact K_lt T.end_ hpm q (by decide) (by decide)
    · exact K_lt T.end_ hpm q (by decide) (by decide)
  have hst := T.lt_ hp
  obtain ⟨ty, hty⟩ : ∃ ty, ty = if K pos = 45 then 1 else 2 := ⟨_, rfl⟩
  have hty2 : ty < 100 := by rw [hty]; split <;> omega
  obtain ⟨A1, a0, CA, ndA, fz, rd, rd2, -, nl, fx⟩ := c_here T C hTp hR (Or.inl rfl) (Nat.le_refl _) (pl_B T hpm) hp 4 (by omega) ty (Int64.ofNat (K pos))
  have nl := nl (by omega)
  have en : ex N pos (n + 1) pos = n := by rw [ex_le (Nat.le_refl _)]; exact C.2.1.1
  have en1 : ex N pos (n + 1) (pos + 1) = n + 1 := ex_gt (by omega)
  obtain ⟨A, hA⟩ : ∃ A, A = uI (psS A1 sz 6 (nI n) (nI R)) 3 7 1 := ⟨_, rfl⟩
  have rdA : ∀ a j : Nat, (a ≠ 3 ∨ j ≠ 7) → (a < 34 ∨ 37 < a) → A.1 a j = A1.1 a j := by
    intro a j h1 h2
    rw [hA, uI_ne (by omega), ps_ne (by omega)]
  have CAf : Cz K pl V m S n ρ τ sz γ.length R A (ex N pos (n + 1)) (ex M pos ρ) (ex L pos τ) (pos + 1) dep (sz + 1) γ (n + 1) ρ τ (pl (pos + 1)) f := by
    rw [hA]
    exact Cz_3 (Cz_push (Cz_B CA (show pl pos + 1 ≤ pl (pos + 1) by omega)) 6 (nI n) (nI R) (by omega) (Nat.le_refl _)) (by omega)
  have hopA : f_X7_openAhead (nI ty) S = some (1, A) := by
    unfold f_X7_openAhead
    have hkl : K pos < 2 ^ 31 := by omega
    rw [c_kind T C.1]
    simp only [Option.bind_some]
    rw [nI_l hkl]
    have b0 : f_X7_addHere 4 (nI ty) (lN (K pos)) S = some (nI n, A1) := a0
    rw [b0]
    simp only [Option.bind_some]
    obtain ⟨sz', rfl⟩ : ∃ z, sz = z + 1 := ⟨sz - 1, by have := hTp.1; omega⟩
    have e37 : A1.1 37 sz' = nI R := by
      rw [rd 37 sz' (by omega) (by omega) (by omega) (by omega) (by omega)]
      have := hTp.2.2.2
      rw [Nat.add_sub_cancel] at this
      exact this
    rw [c_topR CA.1.sz_ (by omega), e37]
    simp only [Option.bind_some]
    rw [c_push CA.1.sz_ (by omega)]
    simp only [Option.bind_some]
    rw [hA]
  have hop : dueF fu d S = some (1, A) := by
    have e : dueF fu d S = f_X7_operand fu S := by
      unfold dueF
      rw [if_neg (by omega), if_neg (by omega), if_neg (by omega)]
    rw [e]
    rcases hk45 with q | q
    · rw [op_45 T C.1 hd hd1 hdep q]
      have e1 : (1 : Int32) = nI ty := by rw [hty, if_pos q]; rfl
      rw [show f_X7_openAhead 1 S = f_X7_openAhead (nI ty) S by rw [← e1], hopA]
      rfl
    · rw [op_33 T C.1 hd hd1 hdep q]
      have e1 : (2 : Int32) = nI ty := by rw [hty, if_neg (by omega)]; rfl
      rw [show f_X7_openAhead 2 S = f_X7_openAhead (nI ty) S by rw [← e1], hopA]
      rfl
  have A7 : A.1 3 7 = nI 1 := by rw [hA, uI_eq]; rfl
  obtain ⟨p35, p36, p37, p34⟩ := ps_f A1 sz 6 (nI n) (nI R)
  have A35 : A.1 35 sz = nI 6 := by rw [hA, uI_ne (by omega)]; exact p35
  have A36 : A.1 36 sz = nI n := by rw [hA, uI_ne (by omega)]; exact p36
  have A37 : A.1 37 sz = nI R := by rw [hA, uI_ne (by omega)]; exact p37
  have hBg : Bg K pl V m A (ex N pos (n + 1)) (ex M pos ρ) (ex L pos τ) (pos + 1) dep (sz + 1) γ (n + 1) ρ τ f 6 R := ⟨Cz_base CAf, ⟨by omega, by rw [Nat.add_sub_cancel]; exact A35, by omega, by rw [Nat.add_sub_cancel]; exact A37⟩, hR, by omega⟩
  have gA := CAf.2.1
  have ndA' : nd pl A (ex N pos (n + 1)) 4 ty (Int64.ofNat (K pos)) pos R := by
    obtain ⟨b0, b1, b2, b3, b4, b5⟩ := ndA
    refine ⟨b0, ?_, ?_, ?_, ?_, ?_⟩
    · rw [rdA 7 _ (by omega) (by omega)]; exact b1
    · rw [rdA 8 _ (by omega) (by omega)]; exact b2
    · rw [hA]; exact b3
    · rw [rdA 17 _ (by omega) (by omega), rdA 27 R (by omega) (by omega)]; exact b4
    · rw [rdA 19 _ (by omega) (by omega)]; exact b5
  have A14 : A.1 14 n = -1 := by rw [rdA 14 n (by omega) (by omega)]; exact fz.2.2.2.2.2.1
  have A20 : A.1 20 n = nI (pl pos) := by rw [rdA 20 n (by omega) (by omega)]; exact fz.2.2.2.2.2.2.2
  have A26 : A.1 26 R = S.1 26 R := by rw [rdA 26 R (by omega) (by omega)]; exact nl
  have A8 : A.1 8 n = nI ty := by have := ndA'.2.2.1; rw [en] at this; exact this
  obtain ⟨hN, hS⟩ := hI A (ex N pos (n + 1)) (ex M pos ρ) (ex L pos τ) (sz + 1) γ (n + 1) ρ τ f 6 R Q hBg A7
  refine ⟨fun e he hRf => Lp_op hd (by omega) hop (by omega) (by omega) (hN e he hRf), fun b x hr hK => ?_⟩
  have wx := hWr b x hr
  have hxp := Wt_lt wx
  have hxr := Wt_rt wx
  refine Lp_op hd (by omega) hop (by omega) (by omega) (hS b x hr (fun S' N' M' L' n' ρ' τ' P' => ?_))
  have C' := P'.1
  have F' := C'.2.2.2.2.2
  have Fn := F'.1
  have hb2 := C'.1.bd
  have hpm2 := C'.1.pm
  have b35 : S'.1 35 sz = nI 6 := by rw [F'.2.2.2.2.1 35 sz (by omega) (by omega) (by omega)]; exact A35
  have b36 : S'.1 36 sz = nI n := by rw [F'.2.2.2.2.1 36 sz (by omega) (by omega) (by omega)]; exact A36
  obtain ⟨-, -, nz1, nz2, nz3, nz4, hn', hρ', hτ', -⟩ := PX_keep P' wx gA hR (by omega) (Fx_refl S' (n + 1) n' ρ' τ' R _) (fun j _ => ⟨rfl, rfl, rfl⟩)
  obtain ⟨zt0, zt8, ztT, ztB, ztS⟩ := P'.2.2.1
  generalize hkx : N' (rtk x) = kx at *
  have hkx5 : kx < 512 := by omega
  have htx := tyx_lt K V x
  obtain ⟨E, hE⟩ : ∃ E, E = uI (ckS (cnS (uI (uI S' 34 3 (nI sz)) 12 n (nI kx)) kx 1 (nI n) (-1)) kx (nI ty)) 3 8 (nI n) := ⟨_, rfl⟩
  have rdE : ∀ a j : Nat, (a ≠ 3 ∨ j ≠ 8) → (a ≠ 34 ∨ j ≠ 3) → a ≠ 5 → (a ≠ 12 ∨ j ≠ n) → (j ≠ kx ∨ a < 9 ∨ 11 < a) → E.1 a j = S'.1 a j := by
    intro a j h1 h2 h3 h4 h5
    rw [hE, uI_ne (by omega), ck_ne (by omega), cn_ne (by omega), uI_ne (by omega), uI_ne (by omega)]
  have rdE21 : ∀ a j : Nat, E.2.1 a j = S'.2.1 a j := by
    intro a j
    rw [hE]
    show (ckS (cnS (uI (uI S' 34 3 (nI sz)) 12 n (nI kx)) kx 1 (nI n) (-1)) kx (nI ty)).2.1 a j = _
    rw [ck_21]
    rfl
  have C2 : Cz K pl V m S n ρ τ sz γ.length R S' N' M' L' b dep (sz + 1) γ n' ρ' τ' (pl b) (min f (pfc K pl V x γ 0 [] [])) := Cz_tr CAf.2.2.2.2.2 C' (by omega) (by omega) (by omega) (by omega) (Nat.le_refl _) (Or.inl rfl)
  have CE : Cz K pl V m S n ρ τ sz γ.length R E N' M' L' b dep sz γ n' ρ' τ' (pl b) (min (min f (pfc K pl V x γ 0 [] [])) (ckX K pl V x ty)) := by
    rw [hE]
    refine Cz_3 (Cz_ck (b := bgk x) (ty := tyk K (tv V) x) (Cz_cn (Cz_nd (Cz_pop C2) (by omega) (Nat.le_refl _)) 1 (nI n) (-1) (by omega)) ?_ ?_ (T.pl_ (by omega)) htx hty2) (by omega)
    · rw [cn_ne (by omega), uI_ne (by omega), uI_ne (by omega)]; exact ztT
    · rw [cn_ne (by omega), uI_ne (by omega), uI_ne (by omega)]; exact ztB
  have heo : f_X7_endOperator (nI 6) S' = some ((), E) := by
    unfold f_X7_endOperator
    rw [c_pop C'.1.sz_ (by omega), b36]
    simp only [Option.bind_some]
    have c38 : (uI S' 34 3 (nI sz)).1 3 8 = nI kx := by rw [uI_ne (by omega)]; exact zt8
    rw [if_neg (fun z => z rfl)]
    simp only [c38, mI_in (a := n) (n := 512) (by omega) (by omega), nI_clamp (show n < 2 ^ 31 by omega), gd_t]
    rw [c_conn hkx5]
    simp only [Option.bind_some]
    have c38' : (cnS (uI (uI S' 34 3 (nI sz)) 12 n (nI kx)) kx 1 (nI n) (-1)).1 3 8 = nI kx := by rw [cn_ne (by omega), uI_ne (by omega)]; exact c38
    have c8 : (cnS (uI (uI S' 34 3 (nI sz)) 12 n (nI kx)) kx 1 (nI n) (-1)).1 8 n = nI ty := by rw [cn_ne (by omega), uI_ne (by omega), uI_ne (by omega), Fn 8 n (by omega) (by omega) (by omega)]; exact A8
    rw [c38', c8, c_chk hkx5]
    simp only [Option.bind_some]
    rw [hE]
  have hsl := stg_lt (K b)
  refine Fl_pop hfu C'.1.sz_ (by omega) b35 (by omega) (by omega) (Or.inl (by omega)) heo CE.1.sz_ ?_
  have hA12 : Ag N M L N' M' L' pos := Ag_tr (Ag_ex N M L pos (n + 1) ρ τ) P'.2.1 (by omega)
  have eN3 : N' pos = n := by rw [(P'.2.1 pos (by omega)).1]; exact en
  have eN3' : N' (pos + 1) = n + 1 := by rw [(P'.2.1 (pos + 1) (Nat.le_refl _)).1]; exact en1
  have fxE : Fx S' E (n + 1) n' ρ' τ' R kx := by
    rw [hE]
    exact Fx_uI (Fx_ck (Fx_cn (Fx_uI (Fx_uI (Fx_refl S' (n + 1) n' ρ' τ' R kx) (by omega)) (by omega)) (Or.inl rfl))) (by omega)
  obtain ⟨Gx, Sx, nx1', nx2', -⟩ := PX_keep P' wx gA hR (by omega) (by rw [hkx]; exact fxE) (fun j _ => ⟨rfl, rfl, rfl⟩)
  have ex9 : E.1 9 kx = 1 ∧ E.1 10 kx = nI n := by
    obtain ⟨c9, c10, -⟩ := cn_f (uI (uI S' 34 3 (nI sz)) 12 n (nI kx)) kx 1 (nI n) (-1)
    rw [hE, uI_ne (by omega), ck_ne (by omega), uI_ne (by omega), ck_ne (by omega)]
    exact ⟨c9, c10⟩
  have e12 : E.1 12 n = nI kx := by rw [hE, uI_ne (by omega), ck_ne (by omega), cn_ne (by omega), uI_eq]
  have rdn : ∀ a : Nat, 7 ≤ a → a ≤ 20 → a ≠ 12 → E.1 a n = A.1 a n := fun a h1 h2 h3 => by
    rw [rdE a n (by omega) (by omega) (by omega) (by omega) (by omega), Fn a n h1 h2 (by omega)]
  have e27 : E.1 27 R = A.1 27 R := by rw [rdE 27 R (by omega) (by omega) (by omega) (by omega) (by omega)]; exact (F'.2.2.1 R (by omega)).1
  have hpf : pfc K pl V (aSig pos x) γ 0 [] [] = min (pfc K pl V x γ 0 [] []) (ckX K pl V x ty) := by rw [hty]; rfl
  have hmin : min (min f (pfc K pl V x γ 0 [] [])) (ckX K pl V x ty) = min f (pfc K pl V (aSig pos x) γ 0 [] []) := by rw [hpf]; omega
  refine hK E N' M' L' n' ρ' τ' ⟨by rw [← hmin]; exact CE, hA12, ⟨?_, ?_, ?_, ?_, ?_⟩, fun hz => ?_, ?_, ?_⟩
  · show N' pos < N' (pos + 1); omega
  · show E.1 3 8 = nI (N' pos); rw [eN3, hE, uI_eq]
  · show E.1 8 (N' pos) = nI (if K pos = 45 then 1 else 2); rw [eN3, rdn 8 (by omega) (by omega) (by omega), ← hty]; exact A8
  · show E.1 20 (N' pos) = nI (pl pos); rw [eN3, rdn 20 (by omega) (by omega) (by omega)]; exact A20
  · show E.1 14 (N' pos) = -1; rw [eN3, rdn 14 (by omega) (by omega) (by omega)]; exact A14
  · rw [hpf] at hz
    obtain ⟨b0, b1, b2, b3, b4, b5⟩ := ndA'
    rw [en] at b1 b2 b3 b4 b5
    refine ⟨⟨by omega, ?_, ?_, ?_, ?_, ?_⟩, ?_, ⟨nx1', ?_, ?_⟩, Gx (by omega)⟩
    · rw [eN3, rdn 7 (by omega) (by omega) (by omega)]; exact b1
    · rw [eN3, rdn 8 (by omega) (by omega) (by omega), ← hty]; exact b2
    · rw [eN3, rdE21, F'.2.1 n (by omega)]; exact b3
    · rw [eN3, rdn 17 (by omega) (by omega) (by omega), e27]; exact b4
    · rw [eN3, rdn 19 (by omega) (by omega) (by omega)]; exact b5
    · rw [eN3, hkx]; exact e12
    · rw [hkx]; exact ex9.1
    · rw [hkx, eN3]; exact ex9.2
  · show Seg E N' (E.1 26 R) (lvs x) (S.1 26 R)
    rw [rdE 26 R (by omega) (by omega) (by omega) (by omega) (by omega)]
    rw [A26] at Sx
    exact Sx
  · have CIx := PX_ci P' wx gA (by rw [hkx]; exact fxE.1) fxE.2.1 (fun j _ => ⟨rfl, rfl, rfl⟩)
    show CI K pl V E N' pos b pos (cls x)
    refine CI_wid CIx (by omega) (Nat.le_refl _) (fun k k1 k2 => ?_) (fun k k1 k2 => absurd k1 (by omega)) (Or.inl (by omega))
    rw [eN3] at k1
    rw [eN3'] at k2
    have : k = n := by omega
    rw [this, rdn 7 (by omega) (by omega) (by omega)]
    have := ndA'.2.1
    rw [en] at this
    rw [this]
    exact k8 (by omega) (by omega)
end CSG
