/-! the class's parser: brackets, signs ahead -/
section CAH
variable {K pl : Nat → Nat} {V : Nat → Int64} {m fu : Nat} {Q : Int32 → im_S → Prop} {S : im_S} {N M L : Nat → Nat} {pos dep sz n ρ τ f k R : Nat} {γ : List Nat}
set_option maxHeartbeats 4000000 in
theorem k_brk (T : TH K pl V m) (hfu : 600 ≤ fu) {R1 : Nat → PR} {p0 d : Nat} (hR1 : HXc K pl V m fu R1 (dep + 1) p0) (hW1 : WR K R1) (hB : Bg K pl V m S N M L pos dep sz γ n ρ τ f k R) (hd : S.1 3 7 = nI d) (hd1 : d ≤ 1) (hdep : d = 0 → dep < 20) (hk40 : K pos = 40) (hp0 : p0 ≤ pos + 1) :
    (∀ e, R1 (pos + 1) = (e, none) → Rf pl e Q → Lp m fu pos S Q) ∧ ∀ b x, R1 (pos + 1) = (b, some x) → (K b ≠ 41 → Rf pl b Q → Lp m fu pos S Q) ∧ (K b = 41 → Kx K pl V m S N M L pos dep sz γ n ρ τ f R (b + 1) (aBrk pos x) (AC K m fu (b + 1) sz Q) → Lp m fu pos S Q) := by
  obtain ⟨C, hTp, hR, hpos⟩ := hB
  have hm := T.m_
  have hbd := C.1.bd
  have hpm := C.1.pm
  have hp := K_lt T.end_ hpm hk40 (by decide) (by decide)
  have hst := T.lt_ hp
  obtain ⟨A, hA⟩ : ∃ A, A = uI (psS (uI (ad6 S (pos + 1)) 3 9 (nI (dep + 1))) sz 11 (nI (pl pos)) (nI R)) 3 7 0 := ⟨_, rfl⟩
  have rdA : ∀ a j : Nat, a ≠ 3 → (a < 34 ∨ 37 < a) → A.1 a j = S.1 a j := by
    intro a j h1 h2
    rw [hA]
    unfold ad6
    rw [uI_ne (by omega), ps_ne (by omega), uI_ne (by omega), uI_ne (by omega)]
  have A8 : A.1 3 8 = S.1 3 8 := by
    rw [hA]
    unfold ad6
    rw [uI_ne (by omega), ps_ne (by omega), uI_ne (by omega), uI_ne (by omega)]
  have CA : Cz K pl V m S n ρ τ sz γ.length R A (ex N pos n) (ex M pos ρ) (ex L pos τ) (pos + 1) (dep + 1) (sz + 1) γ n ρ τ (pl (pos + 1)) f := by
    rw [hA]
    exact Cz_3 (Cz_push (Cz_9 (Cz_B (Cz_ad T C hp) (show pl pos ≤ pl (pos + 1) by omega)) (dep + 1)) 11 (nI (pl pos)) (nI R) (by omega) (Nat.le_refl _)) (by omega)
  have hop : dueF fu d S = some (1, A) := by
    have e : dueF fu d S = f_X7_operand fu S := by
      unfold dueF
      rw [if_neg (by omega), if_neg (by omega), if_neg (by omega)]
    rw [e, op_40 T C.1 hd hd1 hdep hk40]
    unfold f_X7_openBracket
    rw [c_place T C.1]
    simp only [Option.bind_some]
    rw [C.1.at_, C.1.dp, show nI pos + 1 = nI (pos + 1) from nI_add pos 1, show nI dep + 1 = nI (dep + 1) from nI_add dep 1]
    obtain ⟨sz', rfl⟩ : ∃ z, sz = z + 1 := ⟨sz - 1, by have := hTp.1; omega⟩
    have e34 : (uI (uI S 3 6 (nI (pos + 1))) 3 9 (nI (dep + 1))).1 34 3 = nI (sz' + 1) := by rw [uI_ne (by omega), uI_ne (by omega)]; exact C.1.sz_
    have e37 : (uI (uI S 3 6 (nI (pos + 1))) 3 9 (nI (dep + 1))).1 37 sz' = nI R := by
      rw [uI_ne (by omega), uI_ne (by omega)]
      have := hTp.2.2.2
      rw [Nat.add_sub_cancel] at this
      exact this
    rw [c_topR e34 (by omega), e37]
    simp only [Option.bind_some]
    unfold f_X7_open
    rw [c_push e34 (by omega)]
    simp only [Option.bind_some, show z_b 1 = true from rfl, gd_t]
    rw [hA]
    rfl
  have A7 : A.1 3 7 = 0 := by rw [hA, uI_eq]
  obtain ⟨p35, p36, p37, p34⟩ := ps_f (uI (ad6 S (pos + 1)) 3 9 (nI (dep + 1))) sz 11 (nI (pl pos)) (nI R)
  have A35 : A.1 35 sz = nI 11 := by rw [hA, uI_ne (by omega)]; exact p35
  have A36 : A.1 36 sz = nI (pl pos) := by rw [hA, uI_ne (by omega)]; exact p36
  have A37 : A.1 37 sz = nI R := by rw [hA, uI_ne (by omega)]; exact p37
  have hBg : Bg K pl V m A (ex N pos n) (ex M pos ρ) (ex L pos τ) (pos + 1) (dep + 1) (sz + 1) γ n ρ τ f 11 R := ⟨Cz_base CA, ⟨by omega, by rw [Nat.add_sub_cancel]; exact A35, by omega, by rw [Nat.add_sub_cancel]; exact A37⟩, hR, by omega⟩
  have gA := CA.2.1
  obtain ⟨hN, hS⟩ := hR1 A (ex N pos n) (ex M pos ρ) (ex L pos τ) (pos + 1) (sz + 1) γ n ρ τ f 11 R Q hp0 hBg A7 (by omega)
  refine ⟨fun e he hRf => Lp_op hd (by omega) hop (by omega) (by omega) (hN e he hRf), fun b x hr => ?_⟩
  obtain ⟨wx, -⟩ := hW1 _ _ _ hr
  have hxp := Wt_lt wx
  have hxr := Wt_rt wx
  refine ⟨fun h41 hRf => ?_, fun h41 hK => ?_⟩
  · refine Lp_op hd (by omega) hop (by omega) (by omega) (hS b x hr (fun S' N' M' L' n' ρ' τ' P' => ?_))
    have C' := P'.1
    have b35 : S'.1 35 sz = nI 11 := by rw [C'.2.2.2.2.2.2.2.2.2.1 35 sz (by omega) (by omega) (by omega)]; exact A35
    have hb2 := C'.1.bd
    have hpm2 := C'.1.pm
    refine FZ_cl hfu C'.1.sz_ (by omega) b35 (by omega) (by omega) (by omega) (r := 0) (S1 := rcS S' (pl b)) ?_ hpm2 (Or.inl ⟨rfl, Rf_rc hRf⟩) (pos1 := 0)
    rw [cl_11 C'.1.sz_ (by omega) b35, show (41 : Int32) = nI 41 from rfl, c_take T C'.1 41 (by omega), if_neg h41]
    rfl
  · refine Lp_op hd (by omega) hop (by omega) (by omega) (hS b x hr (fun S' N' M' L' n' ρ' τ' P' => ?_))
    have C' := P'.1
    have F' := C'.2.2.2.2.2
    have hb2 := C'.1.bd
    have hpm2 := C'.1.pm
    have b35 : S'.1 35 sz = nI 11 := by rw [F'.2.2.2.2.1 35 sz (by omega) (by omega) (by omega)]; exact A35
    have b36 : S'.1 36 sz = nI (pl pos) := by rw [F'.2.2.2.2.1 36 sz (by omega) (by omega) (by omega)]; exact A36
    have hbm := K_lt T.end_ hpm2 h41 (by decide) (by decide)
    obtain ⟨-, -, nz1, nz2, nz3, nz4, hn', hρ', hτ', -⟩ := PX_keep P' wx gA hR (by omega) (Fx_refl S' n n' ρ' τ' R _) (fun j _ => ⟨rfl, rfl, rfl⟩)
    obtain ⟨zt0, zt8, ztT, ztB, ztS⟩ := P'.2.2.1
    generalize hkx : N' (rtk x) = kx at *
    have hstb := T.lt_ hbm
    have hkx5 : kx < 512 := by omega
    obtain ⟨E, hE⟩ : ∃ E, E = uI (uI (uI (uI (uI (ad6 S' (b + 1)) 34 3 (nI sz)) 20 kx (nI (pl pos))) 3 9 (nI dep)) 3 8 (nI kx)) 3 7 2 := ⟨_, rfl⟩
    have rdE : ∀ a j : Nat, a ≠ 3 → (a ≠ 34 ∨ j ≠ 3) → (a ≠ 20 ∨ j ≠ kx) → E.1 a j = S'.1 a j := by
      intro a j h1 h2 h3
      rw [hE]
      unfold ad6
      rw [uI_ne (by omega), uI_ne (by omega), uI_ne (by omega), uI_ne (by omega), uI_ne (by omega), uI_ne (by omega)]
    have C2 : Cz K pl V m S n ρ τ sz γ.length R S' N' M' L' b (dep + 1) (sz + 1) γ n' ρ' τ' (pl b) (min f (pfc K pl V x γ 0 [] [])) := Cz_tr CA.2.2.2.2.2 C' (by omega) (by omega) (by omega) (by omega) (Nat.le_refl _) (Or.inl rfl)
    have CE : Cz K pl V m S n ρ τ sz γ.length R E (ex N' b n') (ex M' b ρ') (ex L' b τ') (b + 1) dep sz γ n' ρ' τ' (pl (b + 1)) (min f (pfc K pl V x γ 0 [] [])) := by
      rw [hE]
      exact Cz_3 (Cz_3 (Cz_9 (Cz_nd (Cz_B (Cz_pop (Cz_ad T C2 hbm)) (show pl b ≤ pl (b + 1) by omega)) (by omega) (by omega)) dep) (by omega)) (by omega)
    have hcl : f_X7_close fu (nI (K b)) S' = some (1, E) := by
      rw [cl_11 C'.1.sz_ (by omega) b35, show (41 : Int32) = nI 41 from rfl, c_take T C'.1 41 (by omega), if_pos h41]
      simp only [Option.bind_some]
      rw [if_neg (show ¬ (1 : Int32) = 0 by decide)]
      unfold f_X7_endBracket
      have c34 : (ad6 S' (b + 1)).1 34 3 = nI (sz + 1) := by unfold ad6; rw [uI_ne (by omega)]; exact C'.1.sz_
      have c36 : (ad6 S' (b + 1)).1 36 sz = nI (pl pos) := by unfold ad6; rw [uI_ne (by omega)]; exact b36
      have c38 : (ad6 S' (b + 1)).1 3 8 = nI kx := by unfold ad6; rw [uI_ne (by omega)]; exact zt8
      have c38' : (uI (ad6 S' (b + 1)) 34 3 (nI sz)).1 3 8 = nI kx := by rw [uI_ne (by omega)]; exact c38
      have c39 : (uI (ad6 S' (b + 1)) 34 3 (nI sz)).1 3 9 = nI (dep + 1) := by unfold ad6; rw [uI_ne (by omega), uI_ne (by omega)]; exact C'.1.dp
      have dd : nI (dep + 1) - 1 = nI dep := by rw [show (1 : Int32) = nI 1 from rfl, nI_sub (by omega), Nat.add_sub_cancel]
      rw [c_pop c34 (by omega), c36]
      simp only [Option.bind_some, c38, mI_in (a := kx) (n := 512) (by omega) hkx5, nI_clamp (show kx < 2 ^ 31 by omega), gd_t, c38', c39, dd, c_endO]
      rw [hE]
      rfl
    refine FZ_cl hfu C'.1.sz_ (by omega) b35 (by omega) (by omega) (by omega) (pos1 := b + 1) hcl hpm2 (Or.inr ⟨rfl, by omega, by omega, ?_⟩)
    have hA12 : Ag N M L (ex N' b n') (ex M' b ρ') (ex L' b τ') pos := Ag_tr (Ag_ex N M L pos n ρ τ) (Ag_tr P'.2.1 (Ag_ex N' M' L' b _ _ _) (by omega)) (by omega)
    have fxE : Fx S' E n n' ρ' τ' R kx := by
      rw [hE]
      unfold ad6
      exact Fx_uI (Fx_uI (Fx_uI (Fx_uI (Fx_uI (Fx_uI (Fx_refl S' n n' ρ' τ' R kx) (by omega)) (by omega)) (by omega)) (by omega)) (by omega)) (by omega)
    obtain ⟨Gx, Sx, nx1', nx2', -⟩ := PX_keep P' wx gA hR (by omega) (by rw [hkx]; exact fxE) (Ag_ex N' M' L' b n' ρ' τ')
    rw [hkx] at nx2'
    refine (hK E (ex N' b n') (ex M' b ρ') (ex L' b τ') n' ρ' τ' ⟨CE, hA12, ⟨nx1', ?_, ?_, ?_, ?_⟩, Gx, ?_, ?_⟩).1 (by rw [hE, uI_eq])
    · show E.1 3 8 = nI (ex N' b n' (rtk x)); rw [nx2', hE, uI_ne (by omega), uI_eq]
    · show E.1 8 (ex N' b n' (rtk x)) = nI (tyk K (tv V) x); rw [nx2', rdE 8 kx (by omega) (by omega) (by omega)]; exact ztT
    · show E.1 20 (ex N' b n' (rtk x)) = nI (pl pos)
      rw [nx2', hE, uI_ne (by omega), uI_ne (by omega), uI_ne (by omega), uI_eq]
    · show E.1 14 (ex N' b n' (rtk x)) = -1; rw [nx2', rdE 14 kx (by omega) (by omega) (by omega)]; exact ztS
    · show Seg E (ex N' b n') (E.1 26 R) (lvs x) (S.1 26 R)
      rw [rdE 26 R (by omega) (by omega) (by omega)]
      rw [rdA 26 R (by omega) (by omega)] at Sx
      exact Sx
    · have CIx := PX_ci P' wx gA (by rw [hkx]; exact fxE.1) fxE.2.1 (Ag_ex N' M' L' b n' ρ' τ')
      show CI K pl V E (ex N' b n') pos (b + 1) (rtk x) (cls x)
      refine CI_wid CIx (by omega) (by omega) (fun k k1 k2 => ?_) (fun k k1 k2 => ?_) (Or.inr (Or.inr rfl))
      · rw [(hA12 pos (Nat.le_refl _)).1, C.2.1.1] at k1
        rw [ex_le (by omega), (P'.2.1 (pos + 1) (Nat.le_refl _)).1, ex_gt (by omega)] at k2
        omega
      · rw [ex_le (Nat.le_refl _), C'.2.1.1] at k1
        rw [ex_gt (by omega)] at k2
        omega
end CAH
