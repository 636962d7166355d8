/-! the reference reads an atom: the cases -/
section RA2
variable {K pl : Nat → Nat} {V : Nat → Int64} {m : Nat}
theorem Rd_mk0 {D : im_S} {pos dep n r h : Nat} (H : Rd K pl V m D pos dep n r h) (hn : K 1000 ≤ n ∧ n < K 1000 + 600) (c p : Int32) (v : Int64) : Rd K pl V m (mkD D n r c p v) pos dep (n + 1) r h := by
  refine Rd_of H (mk_tk n r c p v) H.2.2.1 ?_ ?_ ?_ ?_ ?_ ?_ (mk_ps H.ps hn r c p v)
  · rw [mk_75, if_neg (by decide)]; exact H.at_
  · rw [mk_75, if_neg (by decide)]; exact H.dep_
  · rw [mk_75, if_pos rfl]
  · rw [mk_75, if_neg (by decide)]; exact H.row
  · rw [mk_75, if_neg (by decide)]; exact H.hld
  · rw [mk_75, if_neg (by decide)]; exact H.flt
theorem pg_tru {D : im_S} {pos dep n r h : Nat} (H : Rd K pl V m D pos dep n r h) (B : Bd (K 1000) m pos n r h) (hp : pos < m) {v : Int64} (hv : v = if K pos = 15 then 1 else 0) : Pg K pl V m D n r h 2 pos (adv (uJ (mkD D n r 2 (nI (pl pos)) (V pos)) 87 n v) (pos + 1)) (pos + 1) dep (n + 1) r := by
  obtain ⟨a1, a2, -, -, -⟩ := mk_f (D := D) n r 2 (nI (pl pos)) (V pos)
  have hn0 := Bd_n B H.2.2.1
  refine ⟨Rd_adv (Rd_putJ (Rd_mk0 H hn0 _ _ _) (by decide) (Pr_n (by omega) hn0)) hp, ⟨by unfold Bd at B ⊢; omega, hn0.1⟩, by omega, Nat.le_refl _, by omega, by omega, by omega, Kpt_adv (Kpt_uJ (mk_kp n r h _ _ _) (Or.inl ⟨rfl, Nat.le_refl _⟩)), ?_⟩
  refine ndD_uI ⟨by decide, by decide, by decide⟩ ⟨?_, fun _ _ => ?_, fun q => by omega, fun _ => ?_, fun q => by omega, fun q => by omega⟩
  · rw [uJ_at1]; exact a1
  · rw [uJ_at1]; exact a2
  · rw [uJ_at, if_pos rfl, if_pos rfl]; exact hv
theorem pg_call {D : im_S} {pos dep n r h : Nat} (H : Rd K pl V m D pos dep n r h) (B : Bd (K 1000) m pos n r h) (hp : pos + 1 < m) : Pg K pl V m D n r h 4 pos (uI (adv (adv (mkD D n r 3 (nI (pl pos)) (V pos)) (pos + 1)) (pos + 1 + 1)) 81 n 4) (pos + 1 + 1) dep (n + 1) r ∧ (uI (adv (adv (mkD D n r 3 (nI (pl pos)) (V pos)) (pos + 1)) (pos + 1 + 1)) 81 n 4).1 89 n = nI r ∧ (uI (adv (adv (mkD D n r 3 (nI (pl pos)) (V pos)) (pos + 1)) (pos + 1 + 1)) 81 n 4).1 90 n = 0 := by
  obtain ⟨a1, a2, a3, a4, a5⟩ := mk_f (D := D) n r 3 (nI (pl pos)) (V pos)
  have hn0 := Bd_n B H.2.2.1
  have H2 := Rd_adv (Rd_mk H (by omega) hn0 3 (nI (pl pos)) (V pos)) hp
  have kp2 : Kpt D (adv (adv (mkD D n r 3 (nI (pl pos)) (V pos)) (pos + 1)) (pos + 1 + 1)) n r h := Kpt_adv (Kpt_adv (mk_kp n r h 3 (nI (pl pos)) (V pos)))
  refine ⟨⟨Rd_put H2 (by decide) (Pr_n (by omega) hn0), ⟨by unfold Bd at B ⊢; omega, hn0.1⟩, by omega, Nat.le_refl _, by omega, by omega, by omega, Kpt_uI kp2 (Or.inr (Or.inl ⟨by decide, Nat.le_refl _⟩)), ?_⟩, ?_, ?_⟩
  · refine ⟨?_, fun _ _ => ?_, fun _ => ?_, fun q => by omega, fun q => by omega, fun q => by omega⟩
    · rw [uI_at, if_pos rfl, if_pos rfl]; rfl
    · unfold adv; rw [uI_at, if_neg (by decide), uI_at, if_neg (by decide), uI_at, if_neg (by decide)]; exact a2
    · unfold adv; rw [uI_21, uI_21, uI_21]; exact a3
  · unfold adv; rw [uI_at, if_neg (by decide), uI_at, if_neg (by decide), uI_at, if_neg (by decide)]; exact a4
  · unfold adv; rw [uI_at, if_neg (by decide), uI_at, if_neg (by decide), uI_at, if_neg (by decide)]; exact a5
theorem RepD_leaf {D : im_S} {lo hi rlo rhi j k c : Nat} (h1 : lo ≤ k) (h2 : k < hi) (hc : c = 1 ∨ c = 2 ∨ c = 3) (nd : ndD K pl V D c j k) (e1 : D.1 83 k = -1 ∧ D.1 84 k = -1) : RepD K pl V D lo hi rlo rhi (.tag c (.tag j .nil)) 0 k := by
  rcases hc with rfl | rfl | rfl
  · exact ⟨h1, h2, by decide, by decide, nd, rfl, e1⟩
  · exact ⟨h1, h2, by decide, by decide, nd, rfl, e1⟩
  · exact ⟨h1, h2, by decide, by decide, nd, rfl, e1⟩
theorem RepD_cal {D : im_S} {lo hi rlo rhi j k i : Nat} {f : TR} (h1 : lo ≤ k) (h2 : k < hi) (nd : ndD K pl V D 4 j k) (e1 : D.1 89 k = nI i) (e2 : D.1 90 k = nI (tln f)) (r1 : RepD K pl V D lo hi rlo rhi f 101 i) : RepD K pl V D lo hi rlo rhi (aCal j f) 0 k := ⟨h1, h2, by decide, by decide, nd, i, e1, e2, r1⟩
set_option maxHeartbeats 4000000 in
theorem r_atom (hKm : K m = 0 ∨ K m = 3) {F : KT} {R R1 : Nat → PR} {D : im_S} {q pos dep n r h : Nat} (hW : HX K pl V m F 1 R1 dep (pos + 1)) (hT : K pos = 13 → ∃ (k : Int32) (E : im_S), F 9 0 0 D = some (k, E) ∧ Out K pl V m D pos dep n r h (pTab K R R1 pos) k E) (H : Rd K pl V m D pos dep n r h) (B : Bd (K 1000) m pos n r h) (fu : Nat) (hfu : 600 ≤ fu) (hq : m < q + pos) : ∃ (k : Int32) (E : im_S), f_X11_readAtom F fu D = some (k, E) ∧ Out K pl V m D pos dep n r h (pAtom K R R1 q pos) k E := by
  have hpm := H.2.2.1
  have hm := H.2.1
  have hn : n < 1200 := by unfold Bd at B; omega
  have hb : in_b (nI n) 1200 = true := mI_in (by omega) hn
  have hcl : (nI n).toNatClampNeg = n := nI_clamp (by omega)
  obtain ⟨t1, t2, t3, t4, t5⟩ := H.1 pos hpm
  obtain ⟨c1, c2, c3, c4, c5, c6⟩ := tkK_c _ t1
  have hin : in_b (nI pos) 502 = true := mI_in (by omega) (by omega)
  have hcp : (nI pos).toNatClampNeg = pos := nI_clamp (by omega)
  generalize hres : pAtom K R R1 q pos = res
  unfold pAtom at hres
  unfold f_X11_readAtom
  simp only [H.at_, hin, hcp, gd_t, t2]
  by_cases k2 : K pos = 2
  · rw [if_pos k2] at hres
    subst hres
    have hp := K_lt hKm hpm k2 (by decide) (by decide)
    have P1 := pg_new H B hp 1 (by decide) (by decide) (by decide) (by decide)
    refine ⟨nI n, adv (mkD D n r 1 (nI (pl pos)) (V pos)) (pos + 1), ?_, pg_out P1 hn (RepD_leaf (Nat.le_refl _) P1.2.2.1 (.inl rfl) P1.2.2.2.2.2.2.2.2 (by unfold adv; rw [uI_at, uI_at, if_neg (by decide), if_neg (by decide)]; exact mk_m1 n r _ _ _))⟩
    rw [c4.mpr k2, if_neg (fun z => z rfl), rd_make H hn (by omega) 1]
    simp only [Option.bind_some, mk_adv H]
  rw [if_neg k2] at hres
  have e2 : nI (tkK (K pos)) ≠ (2 : Int32) := fun z => k2 (c4.mp ((nI_eq (a := tkK (K pos)) (b := 2) (by have := tkK_lt (K pos); omega) (by decide)).mp z))
  simp only [if_pos e2, show (12 : Int32) = nI 12 from rfl, rd_word H 12 (by decide) (by decide), Option.bind_some]
  by_cases k15 : K pos = 3 + 12
  · rw [if_pos (show K pos = 15 ∨ K pos = 16 by omega)] at hres
    subst hres
    have hp := K_lt hKm hpm k15 (by decide) (by decide)
    have P1 := pg_tru H B hp (v := 1) (by rw [if_pos (by omega)])
    refine ⟨nI n, adv (uJ (mkD D n r 2 (nI (pl pos)) (V pos)) 87 n 1) (pos + 1), ?_, pg_out P1 hn (RepD_leaf (Nat.le_refl _) P1.2.2.1 (.inr (.inl rfl)) P1.2.2.2.2.2.2.2.2 (by unfold adv; rw [uI_at, uI_at, if_neg (by decide), if_neg (by decide), uJ_at1]; exact mk_m1 n r _ _ _))⟩
    have Hm := Rd_mk0 H (Bd_n B H.2.2.1) 2 (nI (pl pos)) (V pos)
    simp only [H.at_, ↓reduceIte, if_pos k15, if_pos (show (1 : Int32) ≠ 0 by decide), rd_make H hn (show pos ≤ m by omega) 2, Option.bind_some, rd_word Hm 12 (by decide) (by decide), if_neg (show ¬ (1 : Int32) = 0 by decide), hb, hcl, gd_t, Hm.at_, show nI pos + 1 = nI (pos + 1) from nI_add pos 1]
    rfl
  simp only [↓reduceIte, if_neg k15, if_neg (show ¬ (0 : Int32) ≠ 0 by decide), show (13 : Int32) = nI 13 from rfl, rd_word H 13 (by decide) (by decide), Option.bind_some]
  by_cases k16 : K pos = 3 + 13
  · rw [if_pos (show K pos = 15 ∨ K pos = 16 by omega)] at hres
    subst hres
    have hp := K_lt hKm hpm k16 (by decide) (by decide)
    have P1 := pg_tru H B hp (v := 0) (by rw [if_neg (by omega)])
    refine ⟨nI n, adv (uJ (mkD D n r 2 (nI (pl pos)) (V pos)) 87 n 0) (pos + 1), ?_, pg_out P1 hn (RepD_leaf (Nat.le_refl _) P1.2.2.1 (.inr (.inl rfl)) P1.2.2.2.2.2.2.2.2 (by unfold adv; rw [uI_at, uI_at, if_neg (by decide), if_neg (by decide), uJ_at1]; exact mk_m1 n r _ _ _))⟩
    have Hm := Rd_mk0 H (Bd_n B H.2.2.1) 2 (nI (pl pos)) (V pos)
    simp only [H.at_, ↓reduceIte, if_pos k16, if_neg (show ¬ (1 : Int32) = 0 by decide), rd_make H hn (show pos ≤ m by omega) 2, Option.bind_some, rd_word Hm 12 (by decide) (by decide), if_neg k15, hb, hcl, gd_t, Hm.at_, show nI pos + 1 = nI (pos + 1) from nI_add pos 1]
    rfl
  rw [if_neg (show ¬ (K pos = 15 ∨ K pos = 16) by omega)] at hres
  simp only [↓reduceIte, if_neg k16, show (10 : Int32) = nI 10 from rfl, rd_word H 10 (by decide) (by decide), Option.bind_some]
  by_cases k13 : K pos = 3 + 10
  · rw [if_pos (show K pos = 13 by omega)] at hres
    subst hres
    obtain ⟨k, E, f1, o1⟩ := hT (by omega)
    refine ⟨k, E, ?_, o1⟩
    simp only [↓reduceIte, if_pos k13, if_neg (show ¬ (1 : Int32) = 0 by decide), f1, Option.bind_some]
  rw [if_neg (show ¬ K pos = 13 by omega)] at hres
  simp only [↓reduceIte, if_neg k13, H.at_, hin, hcp, gd_t, t2]
  by_cases k1 : ¬ K pos = 1
  · rw [if_neg k1] at hres
    subst hres
    refine ⟨-1, rfD pl D pos, ?_, Out_refuse H⟩
    rw [if_neg (show ¬ nI (tkK (K pos)) = (1 : Int32) from fun z => k1 (c3.mp ((nI_eq (a := tkK (K pos)) (b := 1) (by have := tkK_lt (K pos); omega) (by decide)).mp z))), rd_refuse H]
    rfl
  have k1 : K pos = 1 := Decidable.not_not.mp k1
  have hp := K_lt hKm hpm k1 (by decide) (by decide)
  have H1 := Rd_mk H hp (Bd_n B H.2.2.1) 3 (nI (pl pos)) (V pos)
  rw [if_pos k1] at hres
  rw [c3.mpr k1, if_pos (show nI 1 = (1 : Int32) from rfl), rd_make H hn (by omega) 3]
  simp only [Option.bind_some, mk_adv H, show (40 : Int32) = nI 40 from rfl, rd_sign H1 40 (by decide) (by decide), rd_takesP H1]
  by_cases k40 : ¬ K (pos + 1) = 40
  · rw [if_neg k40] at hres
    subst hres
    have P1 := pg_new H B hp 3 (by decide) (by decide) (by decide) (by decide)
    refine ⟨nI n, adv (mkD D n r 3 (nI (pl pos)) (V pos)) (pos + 1), ?_, pg_out P1 hn (RepD_leaf (Nat.le_refl _) P1.2.2.1 (.inr (.inr rfl)) P1.2.2.2.2.2.2.2.2 (by unfold adv; rw [uI_at, uI_at, if_neg (by decide), if_neg (by decide)]; exact mk_m1 n r _ _ _))⟩
    simp only [if_neg k40, if_neg (show ¬ (0 : Int32) ≠ 0 by decide)]
  have k40 : K (pos + 1) = 40 := Decidable.not_not.mp k40
  have hp1 := K_lt hKm H1.2.2.1 k40 (by decide) (by decide)
  obtain ⟨P2, f89, f90⟩ := pg_call H B hp1
  rw [if_pos k40] at hres
  simp only [if_pos k40, if_pos (show (1 : Int32) ≠ 0 by decide), hb, hcl, gd_t]
  generalize uI (adv (adv (mkD D n r 3 (nI (pl pos)) (V pos)) (pos + 1)) (pos + 1 + 1)) 81 n 4 = D2 at *
  simp only [show (41 : Int32) = nI 41 from rfl, rd_sign P2.1 41 (by decide) (by decide), Option.bind_some, rd_takesP P2.1]
  by_cases k41 : K (pos + 1 + 1) = 41
  · rw [if_pos (show K (pos + 2) = 41 from k41)] at hres
    subst hres
    obtain ⟨P3, T3⟩ := pg_want hKm P2 (by decide) (by decide) k41
    refine ⟨nI n, adv D2 (pos + 1 + 1 + 1), ?_, pg_out P3 hn (RepD_cal (Nat.le_refl _) P3.2.2.1 P3.2.2.2.2.2.2.2.2 (i := r) ?_ ?_ (.inl rfl))⟩
    · simp only [if_pos k41, if_neg (show ¬ (1 : Int32) = 0 by decide)]
    · rw [T3.fld 89 (by decide) (by decide) (by decide) (by decide)]; exact f89
    · rw [T3.fld 90 (by decide) (by decide) (by decide) (by decide)]; exact f90
  rw [if_neg (show ¬ K (pos + 2) = 41 from k41)] at hres
  simp only [↓reduceIte, if_neg k41]
  obtain ⟨E, o1, o2, o3⟩ := r_args hKm hW fu (nI n) q fu 0 D2 (pos + 1 + 1) (n + 1) r h (by omega) P2.1 P2.2.1.1 (by omega) (by omega) (by omega)
  change pbd (pC K R1 q 0 (pos + 1 + 1)) _ = res at hres
  generalize hpc : pC K R1 q 0 (pos + 1 + 1) = rc at *
  obtain ⟨b, _ | f⟩ := rc
  · obtain ⟨f1, q1, q2, q3⟩ := o1 rfl
    rw [pbd_none rfl] at hres
    subst hres
    exact ⟨-1, E, f1, Out_err q1 q2 q3⟩
  rw [pbd_some rfl] at hres
  obtain ⟨f1, f2⟩ := o2 f rfl
  obtain ⟨E3, n3, r3, l3, P3, T3, rep3⟩ := pg_lay fu hfu rfl P2 o3
  rw [Nat.zero_add] at f1
  have f1 : f_X11_readAtom_L188 F fu fu (nI n) 0 D2 = layEnd fu (nI n) (nI (tln f)) E := f1
  rw [f1]
  unfold layEnd
  rw [l3]
  simp only [Option.bind_some, hb, hcl, gd_t]
  obtain ⟨P4, T4⟩ := pg_put (a := 89) (v := nI r3) P3 (by decide) (by decide) (by decide)
  have g89 : (uI E3 89 n (nI r3)).1 89 n = nI r3 := by rw [uI_at, if_pos rfl, if_pos rfl]
  generalize uI E3 89 n (nI r3) = D4 at *
  obtain ⟨P5, T5⟩ := pg_put (a := 90) (v := nI (tln f)) P4 (by decide) (by decide) (by decide)
  have g90 : (uI D4 90 n (nI (tln f))).1 90 n = nI (tln f) := by rw [uI_at, if_pos rfl, if_pos rfl]
  generalize uI D4 90 n (nI (tln f)) = D5 at *
  simp only [show (41 : Int32) = nI 41 from rfl, rd_sign P5.1 41 (by decide) (by decide), Option.bind_some, rd_wantP P5.1]
  unfold pw at hres
  by_cases kb : ¬ K b = 41
  · rw [if_neg kb] at hres
    subst hres
    refine ⟨-1, rfD pl D5 b, ?_, Out_refuse P5.1⟩
    simp only [if_neg kb]
    rfl
  have kb : K b = 41 := Decidable.not_not.mp kb
  rw [if_pos kb] at hres
  subst hres
  obtain ⟨P6, T6⟩ := pg_want hKm P5 (by decide) (by decide) kb
  refine ⟨nI n, adv D5 (b + 1), ?_, pg_out P6 hn (RepD_cal (Nat.le_refl _) P6.2.2.1 P6.2.2.2.2.2.2.2.2 (i := r3) ?_ ?_ (RepD_up (.inr (.inl rfl)) (T6.rep f 101 r3 (.inr (.inl rfl)) (T5.rep f 101 r3 (.inr (.inl rfl)) (T4.rep f 101 r3 (.inr (.inl rfl)) rep3)))))⟩
  · simp only [if_pos kb]
    rfl
  · rw [T6.fld 89 (by decide) (by decide) (by decide) (by decide), T5.fld 89 (by decide) (by decide) (by decide) (by decide)]; exact g89
  · rw [T6.fld 90 (by decide) (by decide) (by decide) (by decide)]; exact g90
end RA2
