/-! the class's parser: a call, from its name on -/
theorem pC_len {K : Nat → Nat} {R1 : Nat → PR} : ∀ (q n p e : Nat) (r : TR), pC K R1 q n p = (e, some r) → n ≤ 4 → n + (rts r).length ≤ 4 := by
  intro q
  induction q with
  | zero => intro n p e r h; cases h
  | succ q ih =>
    intro n p e r h hn
    rw [pC] at h
    by_cases h4 : n = 4
    · rw [if_pos h4] at h; cases h
    rw [if_neg h4] at h
    obtain ⟨b, x, hx, h⟩ := pbd_inv h
    by_cases h44 : K b = 44
    · rw [if_pos h44] at h
      obtain ⟨e2, r2, hr, h⟩ := pbd_inv h
      cases h
      have := ih (n + 1) (b + 1) e r2 hr (by omega)
      show n + ((rts r2).length + 1) ≤ 4
      omega
    · rw [if_neg h44] at h
      cases h
      show n + 1 ≤ 4
      omega
section CCA
variable {K pl : Nat → Nat} {V : Nat → Int64} {m fu : Nat} {Q : Int32 → im_S → Prop} {S : im_S} {N M L : Nat → Nat} {pos dep sz n ρ τ f k R : Nat} {γ : List Nat}
set_option maxHeartbeats 4000000 in
theorem k_call (T : TH K pl V m) (hfu : 600 ≤ fu) {R1 : Nat → PR} {p0 d : Nat} (hR1 : HXc K pl V m fu R1 (dep + 1) p0) (hW1 : WR K R1) (hB : Bg K pl V m S N M L pos dep sz γ n ρ τ f k R) (hd : S.1 3 7 = nI d) (hd1 : d ≤ 1) (hdep : d = 0 → dep < 20) (hk : K pos = 1) (hk40 : K (pos + 1) = 40) (hp0 : p0 ≤ pos + 2) {q : Nat} (hq : m < q + (pos + 2)) :
    (K (pos + 2) = 41 → Kx K pl V m S N M L pos dep sz γ n ρ τ f R (pos + 3) (aCal pos .nil) (AC K m fu (pos + 3) sz Q) → Lp m fu pos S Q) ∧
    (K (pos + 2) ≠ 41 → (∀ e, pC K R1 q 0 (pos + 2) = (e, none) → Rf pl e Q → Lp m fu pos S Q) ∧ ∀ e r, pC K R1 q 0 (pos + 2) = (e, some r) → (K e ≠ 41 → Rf pl e Q → Lp m fu pos S Q) ∧ (K e = 41 → Kx K pl V m S N M L pos dep sz γ n ρ τ f R (e + 1) (aCal pos r) (AC K m fu (e + 1) sz Q) → Lp m fu pos S Q)) := by
  obtain ⟨C, hTp, hR, hpos⟩ := hB
  have hm := T.m_
  have hbd := C.1.bd
  have hpm := C.1.pm
  have hp : pos < m := K_lt T.end_ hpm hk (by decide) (by decide)
  have hp1 : pos + 1 < m := K_lt T.end_ (by omega) hk40 (by decide) (by decide)
  have hst := T.lt_ hp
  have hst1 := T.lt_ hp1
  have hNam : Nam (V pos) := (T.2.2.1 pos hp).2.2.2 hk
  have hin : in_b (nI pos) 501 = true := mI_in (by omega) (by omega)
  have hcl : (nI pos).toNatClampNeg = pos := nI_clamp (by omega)
  have e33 : S.2.1 33 pos = V pos := (C.1.ct pos C.1.pm).2.2 (Or.inl hk)
  have hinn : in_b (nI n) 512 = true := mI_in (by omega) (by omega)
  have hcln : (nI n).toNatClampNeg = n := nI_clamp (by omega)
  obtain ⟨A1, a0, CA1, ndA, fz, rd, rd2, lf, -, fx⟩ := c_here T C hTp hR (Or.inl rfl) (Nat.le_refl _) (pl_B T hpm) hp 8 (by omega) (tvV (V pos)) (V pos)
  have lf := lf (by omega)
  have en : ex N pos (n + 1) pos = n := by rw [ex_le (Nat.le_refl _)]; exact C.2.1.1
  have en1 : ex N pos (n + 1) (pos + 1) = n + 1 := ex_gt (by omega)
  obtain ⟨N2, hN2⟩ : ∃ N2, N2 = ex (ex N pos (n + 1)) (pos + 1) (n + 1) := ⟨_, rfl⟩
  obtain ⟨M2, hM2⟩ : ∃ M2, M2 = ex (ex M pos ρ) (pos + 1) ρ := ⟨_, rfl⟩
  obtain ⟨L2, hL2⟩ : ∃ L2, L2 = ex (ex L pos τ) (pos + 1) τ := ⟨_, rfl⟩
  have CA2 : Cz K pl V m S n ρ τ sz γ.length R (ad6 A1 (pos + 2)) N2 M2 L2 (pos + 2) dep sz γ (n + 1) ρ τ (pl (pos + 2)) f := by
    rw [hN2, hM2, hL2]
    exact Cz_B (Cz_ad T CA1 hp1) (show pl pos + 2 ≤ pl (pos + 1 + 1) by omega)
  have hAg2 : Ag N M L N2 M2 L2 pos := by
    rw [hN2, hM2, hL2]
    exact Ag_tr (Ag_ex N M L pos (n + 1) ρ τ) (Ag_ex _ _ _ (pos + 1) (n + 1) ρ τ) (by omega)
  have eN2 : N2 pos = n := by rw [hN2, ex_le (by omega)]; exact en
  have eN2' : N2 (pos + 1) = n + 1 := by rw [hN2, ex_le (by omega)]; exact en1
  have r2 : ∀ a j : Nat, a ≠ 3 → (ad6 A1 (pos + 2)).1 a j = A1.1 a j := fun a j h => by unfold ad6; rw [uI_ne (by omega)]
  have heq : dueF fu d S = ((if K (pos + 2) ≠ 41 then ((f_X6_topRegion (uI (ad6 A1 (pos + 2)) 3 9 (nI (dep + 1)))).bind (fun qS11 => (f_X7_open 13 (nI n) qS11.1 qS11.2).bind (fun qS14 => gd (z_b qS14.1) (some (qS14.1, qS14.2))))) else some (1, uI (uI (ad6 (ad6 A1 (pos + 2)) (pos + 3)) 3 8 (nI n)) 3 7 2)).bind (fun q => gd (z_b q.1) (some (q.1, q.2)))) := by
    have e : dueF fu d S = f_X7_operand fu S := by
      unfold dueF
      rw [if_neg (by omega), if_neg (by omega), if_neg (by omega)]
    rw [e, op_call T C.1 hd hd1 hdep hk hp hk40]
    unfold f_X7_openCall
    rw [C.1.at_, hin, hcl, e33]
    simp only [gd_t]
    rw [c_ty (by omega) hNam]
    simp only [Option.bind_some]
    have b0 : f_X7_addHere 8 (nI (tvV (V pos))) (V pos) S = some (nI n, A1) := a0
    rw [b0]
    simp only [Option.bind_some]
    have a6 : A1.1 3 6 = nI (pos + 1) := CA1.1.at_
    rw [a6, show nI (pos + 1) + 1 = nI (pos + 2) from nI_add (pos + 1) 1]
    have ck := c_kind T CA2.1
    unfold ad6 at ck
    rw [ck]
    simp only [Option.bind_some]
    have hk2 : K (pos + 2) < 127 := by have := (tkK_c _ (T.2.1 (pos + 2) (by omega)).2).2.2.2.2.2; omega
    have e41 : nI (K (pos + 2)) = (41 : Int32) ↔ K (pos + 2) = 41 := nI_eq (a := K (pos + 2)) (b := 41) (by omega) (by omega)
    have a9 : (uI A1 3 6 (nI (pos + 2))).1 3 9 = nI dep := by rw [uI_ne (by omega)]; exact CA1.1.dp
    have a6' : (uI A1 3 6 (nI (pos + 2))).1 3 6 = nI (pos + 2) := uI_eq
    rw [a9, a6', show nI dep + 1 = nI (dep + 1) from nI_add dep 1, show nI (pos + 2) + 1 = nI (pos + 3) from nI_add (pos + 2) 1]
    unfold ad6
    by_cases h41 : K (pos + 2) = 41
    · rw [if_neg (fun z => z (e41.mpr h41)), if_neg (fun z => z h41)]
      rfl
    · rw [if_pos (fun z => h41 (e41.mp z)), if_pos h41]
  refine ⟨fun h41 hK => ?_, fun h41 => ?_⟩
  · rw [if_neg (fun z => z h41)] at heq
    obtain ⟨E, hE⟩ : ∃ E, E = uI (uI (ad6 (ad6 A1 (pos + 2)) (pos + 3)) 3 8 (nI n)) 3 7 2 := ⟨_, rfl⟩
    rw [← hE] at heq
    have hp2 : pos + 2 < m := K_lt T.end_ (by omega) h41 (by decide) (by decide)
    have hst2 := T.lt_ hp2
    have rE : ∀ a j : Nat, a ≠ 3 → E.1 a j = A1.1 a j := fun a j h => by rw [hE]; unfold ad6; rw [uI_ne (by omega), uI_ne (by omega), uI_ne (by omega), uI_ne (by omega)]
    have CE : Cz K pl V m S n ρ τ sz γ.length R E (ex N2 (pos + 2) (n + 1)) (ex M2 (pos + 2) ρ) (ex L2 (pos + 2) τ) (pos + 3) dep sz γ (n + 1) ρ τ (pl (pos + 3)) f := by
      rw [hE]
      exact Cz_3 (Cz_3 (Cz_B (Cz_ad T CA2 hp2) (show pl (pos + 2) ≤ pl (pos + 2 + 1) by omega)) (by omega)) (by omega)
    refine Lp_op hd (by omega) heq (show pos < pos + 3 by omega) (by omega) ?_
    have e2 : ex N2 (pos + 2) (n + 1) pos = n := by rw [ex_le (by omega)]; exact eN2
    have e2' : ex N2 (pos + 2) (n + 1) (pos + 1) = n + 1 := by rw [ex_le (by omega)]; exact eN2'
    have hpf : pfc K pl V (aCal pos .nil) γ 0 [] [] = 4000 := rfl
    have hmin : min f (pfc K pl V (aCal pos .nil) γ 0 [] []) = f := by rw [hpf]; exact Nat.min_eq_left C.2.2.2.2.1
    obtain ⟨b0, b1, b2, b3, b4, b5⟩ := ndA
    rw [en] at b1 b2 b3 b4 b5
    refine (hK E (ex N2 (pos + 2) (n + 1)) (ex M2 (pos + 2) ρ) (ex L2 (pos + 2) τ) (n + 1) ρ τ ⟨by rw [hmin]; exact CE, Ag_tr hAg2 (Ag_ex N2 M2 L2 (pos + 2) (n + 1) ρ τ) (by omega), ⟨?_, ?_, ?_, ?_, ?_⟩, fun _ => ?_, ?_, ?_⟩).1 (by rw [hE, uI_eq])
    · show ex N2 (pos + 2) (n + 1) pos < ex N2 (pos + 2) (n + 1) (pos + 1); omega
    · show E.1 3 8 = nI (ex N2 (pos + 2) (n + 1) pos); rw [e2, hE, uI_ne (by omega), uI_eq]
    · show E.1 8 (ex N2 (pos + 2) (n + 1) pos) = nI (tvV (V pos)); rw [e2, rE 8 n (by omega)]; exact b2
    · show E.1 20 (ex N2 (pos + 2) (n + 1) pos) = nI (pl pos); rw [e2, rE 20 n (by omega)]; exact fz.2.2.2.2.2.2.2
    · show E.1 14 (ex N2 (pos + 2) (n + 1) pos) = -1; rw [e2, rE 14 n (by omega)]; exact fz.2.2.2.2.2.1
    · refine ⟨⟨by omega, ?_, ?_, ?_, ?_, ?_⟩, ?_, trivial⟩
      · rw [e2, rE 7 n (by omega)]; exact b1
      · rw [e2, rE 8 n (by omega)]; exact b2
      · rw [e2, hE]; exact b3
      · rw [e2, rE 17 n (by omega), rE 27 R (by omega)]; exact b4
      · rw [e2, rE 19 n (by omega)]; exact b5
      · show E.1 12 (ex N2 (pos + 2) (n + 1) pos) = -1; rw [e2, rE 12 n (by omega)]; exact fz.2.2.2.1
    · show Seg E (ex N2 (pos + 2) (n + 1)) (E.1 26 R) [pos] (S.1 26 R)
      rw [rE 26 R (by omega), lf.1]
      refine ⟨by rw [e2], by omega, ?_⟩
      show E.1 16 (ex N2 (pos + 2) (n + 1) pos) = S.1 26 R
      rw [e2, rE 16 n (by omega)]
      exact lf.2
    · show CI K pl V E (ex N2 (pos + 2) (n + 1)) pos (pos + 3) pos [(pos, .nil)]
      refine ⟨fun k k1 k2 k3 => ⟨(pos, .nil), List.mem_singleton.mpr rfl, ?_⟩, fun c hc => ?_⟩
      · rw [e2] at k1
        rw [ex_gt (by omega)] at k2
        show ex N2 (pos + 2) (n + 1) pos = k
        omega
      · rw [List.mem_singleton] at hc
        subst hc
        refine ⟨⟨?_, ?_, ?_, ?_, ?_, by show 0 ≤ 4; omega⟩, Nat.le_refl _, ?_, fun t ht => absurd ht List.not_mem_nil⟩
        · show ex N2 (pos + 2) (n + 1) pos < ex N2 (pos + 2) (n + 1) (pos + 1); omega
        · show E.1 7 (ex N2 (pos + 2) (n + 1) pos) = 8; rw [e2, rE 7 n (by omega)]; exact b1
        · show E.2.1 21 (ex N2 (pos + 2) (n + 1) pos) = V pos; rw [e2, hE]; exact b3
        · show E.1 19 (ex N2 (pos + 2) (n + 1) pos) = nI (pl pos); rw [e2, rE 19 n (by omega)]; exact b5
        · show E.1 12 (ex N2 (pos + 2) (n + 1) pos) = -1; rw [e2, rE 12 n (by omega)]; exact fz.2.2.2.1
        · show pos < pos + 3; omega
  · rw [if_pos h41] at heq
    obtain ⟨A, hA⟩ : ∃ A, A = uI (psS (uI (ad6 A1 (pos + 2)) 3 9 (nI (dep + 1))) sz 13 (nI n) (nI R)) 3 7 0 := ⟨_, rfl⟩
    have hop : dueF fu d S = some (1, A) := by
      rw [heq]
      obtain ⟨sz', rfl⟩ : ∃ z, sz = z + 1 := ⟨sz - 1, by have := hTp.1; omega⟩
      have e34 : (uI (ad6 A1 (pos + 2)) 3 9 (nI (dep + 1))).1 34 3 = nI (sz' + 1) := by rw [uI_ne (by omega)]; exact CA2.1.sz_
      have e37 : (uI (ad6 A1 (pos + 2)) 3 9 (nI (dep + 1))).1 37 sz' = nI R := by
        unfold ad6
        rw [uI_ne (by omega), uI_ne (by omega), rd 37 sz' (by omega) (by omega) (by omega) (by omega) (by omega)]
        have := hTp.2.2.2
        rw [Nat.add_sub_cancel] at this
        exact this
      rw [c_topR e34 (by omega), e37]
      simp only [Option.bind_some]
      unfold f_X7_open
      rw [c_push e34 (by omega)]
      simp only [Option.bind_some, show z_b 1 = true from rfl, gd_t]
      rw [hA]
    have rA : ∀ a j : Nat, a ≠ 3 → (a < 34 ∨ 37 < a) → A.1 a j = A1.1 a j := fun a j h h2 => by rw [hA]; unfold ad6; rw [uI_ne (by omega), ps_ne (by omega), uI_ne (by omega), uI_ne (by omega)]
    have CA : Cz K pl V m S n ρ τ sz γ.length R A N2 M2 L2 (pos + 2) (dep + 1) (sz + 1) γ (n + 1) ρ τ (pl (pos + 2)) f := by
      rw [hA]
      exact Cz_3 (Cz_push (Cz_9 CA2 (dep + 1)) 13 (nI n) (nI R) (by omega) (Nat.le_refl _)) (by omega)
    obtain ⟨p35, p36, p37, p34⟩ := ps_f (uI (ad6 A1 (pos + 2)) 3 9 (nI (dep + 1))) sz 13 (nI n) (nI R)
    have A35 : A.1 35 sz = nI 13 := by rw [hA, uI_ne (by omega)]; exact p35
    have A36 : A.1 36 sz = nI n := by rw [hA, uI_ne (by omega)]; exact p36
    have A37 : A.1 37 sz = nI R := by rw [hA, uI_ne (by omega)]; exact p37
    have A12 : A.1 12 n = -1 := by rw [rA 12 n (by omega) (by omega)]; exact fz.2.2.2.1
    obtain ⟨hN, hS⟩ := k_args (Q := Q) (pos := pos) T hfu hR1 hW1 hR q 0 (pos + 2) A N2 M2 L2 (n + 1) ρ τ f [] 12 n hp0 (by omega) hq CA (by rw [hA, uI_eq]) eN2 (by omega) (Nat.le_refl _) (Nat.le_refl _) A35 A36 A37 A12 rfl (by omega) (fun j hj => absurd hj (List.not_mem_nil)) List.Pairwise.nil (Or.inl ⟨rfl, rfl, rfl⟩)
    refine ⟨fun e he hRf => Lp_op hd (by omega) hop (show pos < pos + 2 by omega) (by omega) (hN e he hRf), fun e r he => ⟨fun hk1 hRf => Lp_op hd (by omega) hop (show pos < pos + 2 by omega) (by omega) ((hS e r he).1 hk1 hRf), fun hk1 hK => Lp_op hd (by omega) hop (show pos < pos + 2 by omega) (by omega) ((hS e r he).2 hk1 (fun S' N' M' L' n' ρ' τ' PP => ?_))⟩⟩
    obtain ⟨y1, y2, y3, y4, y5, y6, y7, y8, ⟨y9, y10, y11⟩, y12, y13⟩ := PP
    have eN3 : N' pos = n := by rw [(y2 pos (by omega)).1]; exact eN2
    have eN3' : N' (pos + 1) = n + 1 := by rw [(y2 (pos + 1) (by omega)).1]; exact eN2'
    have rn : ∀ a : Nat, 7 ≤ a → a ≤ 20 → a ≠ 12 → S'.1 a n = A1.1 a n := fun a h1 h2 h3 => by rw [y5.1 a n h1 h2 (Nat.le_refl _) (by omega) (by omega), rA a n (by omega) (by omega)]
    have r27 : S'.1 27 R = A1.1 27 R := by rw [(y5.2.2.1 R (by omega)).1, rA 27 R (by omega) (by omega)]
    obtain ⟨b0, b1, b2, b3, b4, b5⟩ := ndA
    rw [en] at b1 b2 b3 b4 b5
    have hpf : pfc K pl V (aCal pos r) γ 0 [] [] = pfc K pl V r γ 101 [] [] := rfl
    refine (hK S' N' M' L' n' ρ' τ' ⟨by rw [hpf]; exact y1, Ag_tr hAg2 y2 (by omega), ⟨?_, ?_, ?_, ?_, ?_⟩, fun hz => ?_, ?_, ?_⟩).1 y3
    · show N' pos < N' (pos + 1); omega
    · show S'.1 3 8 = nI (N' pos); rw [eN3]; exact y4
    · show S'.1 8 (N' pos) = nI (tvV (V pos)); rw [eN3, rn 8 (by omega) (by omega) (by omega)]; exact b2
    · show S'.1 20 (N' pos) = nI (pl pos); rw [eN3, rn 20 (by omega) (by omega) (by omega)]; exact fz.2.2.2.2.2.2.2
    · show S'.1 14 (N' pos) = -1; rw [eN3, rn 14 (by omega) (by omega) (by omega)]; exact fz.2.2.2.2.2.1
    · rw [hpf] at hz
      refine ⟨⟨by omega, ?_, ?_, ?_, ?_, ?_⟩, ?_, y7 hz⟩
      · rw [eN3, rn 7 (by omega) (by omega) (by omega)]; exact b1
      · rw [eN3, rn 8 (by omega) (by omega) (by omega)]; exact b2
      · rw [eN3, y5.2.1 n (by omega) (by omega), hA]; exact b3
      · rw [eN3, rn 17 (by omega) (by omega) (by omega), r27]; exact b4
      · rw [eN3, rn 19 (by omega) (by omega) (by omega)]; exact b5
      · rw [eN3]; exact y6
    · show Seg S' N' (S'.1 26 R) (lvs r ++ [pos]) (S.1 26 R)
      refine Seg_app _ _ _ _ _ y8 ?_
      rw [rA 26 R (by omega) (by omega), lf.1]
      refine ⟨by rw [eN3], by omega, ?_⟩
      show S'.1 16 (N' pos) = S.1 26 R
      rw [eN3, rn 16 (by omega) (by omega) (by omega)]
      exact lf.2
    · show CI K pl V S' N' pos (e + 1) pos ((pos, r) :: cls r)
      have hNe : N' (e + 1) = n' := y1.2.1.1
      have hNp2 : N' (pos + 2) = n + 1 := by rw [(y2 (pos + 2) (Nat.le_refl _)).1, hN2, ex_gt (by omega)]
      refine ⟨fun k k1 k2 k3 => ?_, fun d hd => ?_⟩
      · rcases Nat.lt_or_ge k (n + 1) with z | z
        · refine ⟨(pos, r), List.mem_cons_self .., ?_⟩
          show N' pos = k
          omega
        · obtain ⟨d, d1, d2⟩ := y9.1 k (by omega) (by omega) k3
          exact ⟨d, List.mem_cons_of_mem _ d1, d2⟩
      · rcases List.mem_cons.mp hd with z | z
        · subst z
          refine ⟨⟨?_, ?_, ?_, ?_, ?_, by have := pC_len q 0 (pos + 2) e r he (by omega); show (rts r).length ≤ 4; omega⟩, Nat.le_refl _, ?_, fun t ht => ?_⟩
          · show N' pos < N' (pos + 1); omega
          · show S'.1 7 (N' pos) = 8; rw [eN3, rn 7 (by omega) (by omega) (by omega)]; exact b1
          · show S'.2.1 21 (N' pos) = V pos; rw [eN3, y5.2.1 n (by omega) (by omega), hA]; exact b3
          · show S'.1 19 (N' pos) = nI (pl pos); rw [eN3, rn 19 (by omega) (by omega) (by omega)]; exact b5
          · show AgC K pl V S' N' r (S'.1 12 (N' pos)); rw [eN3]; exact y10
          · show pos < e + 1; omega
          · have := y11 t ht; omega
        · obtain ⟨q1, q2, q3, q4⟩ := y9.2 d z
          exact ⟨q1, by omega, by omega, fun t ht => by have := q4 t ht; omega⟩
end CCA
