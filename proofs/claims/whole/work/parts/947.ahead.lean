/-! the reference reads [ X ] behind an operand, and - and ! ahead of it -/
def fin (z1 z2 x : Int32) (S : im_S) : Option (Int32 × im_S) := if z2 = -1 then some (x, S) else gd (in_b z2 1200) (some (z1, uI S 83 z2.toNatClampNeg x))
section RAH
variable {K pl : Nat → Nat} {V : Nat → Int64} {m : Nat}
theorem RepD_cel {D : im_S} {lo hi rlo rhi j k k1 k2 : Nat} {x y : TR} (h1 : lo ≤ k) (h2 : k < hi) (nd : ndD K pl V D 10 j k) (e1 : D.1 83 k = nI k1) (e2 : D.1 84 k = nI k2) (e3 : D.1 82 k = D.1 82 k1) (r1 : RepD K pl V D lo hi rlo rhi x 0 k1) (r2 : RepD K pl V D lo hi rlo rhi y 0 k2) : RepD K pl V D lo hi rlo rhi (aCel j x y) 0 k := ⟨h1, h2, by decide, by decide, nd, k1, k2, e1, e2, e3, r1, r2⟩
/-- node n for [ is made behind the operand kx -/
theorem pg_cel {D : im_S} {pos dep n r h kx : Nat} (H : Rd K pl V m D pos dep n r h) (B : Bd (K 1000) m pos n r h) (hp : pos < m) (hx : kx < n) : Pg K pl V m D n r h 10 pos (uI (adv (uI (mkD D n r 10 (nI (pl pos)) (V pos)) 82 n (D.1 82 kx)) (pos + 1)) 83 n (nI kx)) (pos + 1) dep (n + 1) r ∧ (uI (adv (uI (mkD D n r 10 (nI (pl pos)) (V pos)) 82 n (D.1 82 kx)) (pos + 1)) 83 n (nI kx)).1 83 n = nI kx ∧ (uI (adv (uI (mkD D n r 10 (nI (pl pos)) (V pos)) 82 n (D.1 82 kx)) (pos + 1)) 83 n (nI kx)).1 82 n = D.1 82 kx := by
  obtain ⟨a1, a2, a3, a4, a5⟩ := mk_f (D := D) n r 10 (nI (pl pos)) (V pos)
  have hn0 := Bd_n B H.2.2.1
  refine ⟨⟨Rd_put (Rd_adv (Rd_put (Rd_mk0 H hn0 _ _ _) (by decide) (Pr_n (by omega) hn0)) hp) (by decide) (Pr_n (by omega) hn0), ⟨by unfold Bd at B ⊢; omega, hn0.1⟩, by omega, Nat.le_refl _, by omega, by omega, by omega, Kpt_uI (Kpt_adv (Kpt_uI (mk_kp n r h _ _ _) (Or.inr (Or.inl ⟨by decide, Nat.le_refl _⟩)))) (Or.inr (Or.inl ⟨by decide, Nat.le_refl _⟩)), ?_⟩, ?_, ?_⟩
  · refine ⟨?_, fun _ q => absurd rfl q, fun q => by omega, fun q => by omega, fun q => by omega, fun q => by omega⟩
    unfold adv
    rw [uI_at, if_neg (by decide), uI_at, if_neg (by decide), uI_at, if_neg (by decide)]
    exact a1
  · rw [uI_at, if_pos rfl, if_pos rfl]
  · unfold adv
    rw [uI_at, if_neg (by decide), uI_at, if_neg (by decide), uI_at, if_pos rfl, if_pos rfl]
set_option maxHeartbeats 4000000 in
theorem r_cells (hKm : K m = 0 ∨ K m = 3) {F : KT} {R1 : Nat → PR} {dep p0 : Nat} (hW : HX K pl V m F 1 R1 dep p0) (fu : Nat) (z1 z2 : Int32) : ∀ (q nf : Nat) (x : TR) (kx : Nat) (D : im_S) (pos n r h lo rlo : Nat), p0 ≤ pos → Rd K pl V m D pos dep n r h → Bd (K 1000) m pos n r h → RepD K pl V D lo n rlo r x 0 kx → rlo ≤ r → m < q + pos → m + 1 < nf + pos →
    ((pCel K R1 q x pos).2 = none → ∃ E : im_S, f_X11_readAhead_L150 F fu nf z1 z2 (nI kx) D = some (-1, E) ∧ (pCel K R1 q x pos).1 ≤ m ∧ E.1 75 3 = 1 ∧ E.1 75 4 = nI (pl (pCel K R1 q x pos).1) ∧ Ps K V E) ∧
    (∀ y, (pCel K R1 q x pos).2 = some y → ∃ (ky n' r' : Nat) (E : im_S), ky < 1200 ∧ f_X11_readAhead_L150 F fu nf z1 z2 (nI kx) D = fin z1 z2 (nI ky) E ∧ Rd K pl V m E (pCel K R1 q x pos).1 dep n' r' h ∧ pos ≤ (pCel K R1 q x pos).1 ∧ n ≤ n' ∧ r ≤ r' ∧ n' + pos ≤ n + (pCel K R1 q x pos).1 ∧ r' + pos ≤ r + (pCel K R1 q x pos).1 ∧ Kpt D E n r h ∧ RepD K pl V E lo n' rlo r' y 0 ky) := by
  intro q
  induction q with
  | zero => intro nf x kx D pos n r h lo rlo _ H _ _ _ hq; have := H.2.2.1; omega
  | succ q ih =>
    intro nf x kx D pos n r h lo rlo hp0 H B rep hrl hq hnf
    obtain ⟨nf, rfl⟩ : ∃ z, nf = z + 1 := ⟨nf - 1, by have := H.2.2.1; omega⟩
    have hm := H.2.1
    have hpm := H.2.2.1
    obtain ⟨g1, g2⟩ := RepD_k rep
    have hn : n < 1200 := by unfold Bd at B; omega
    have hb : in_b (nI n) 1200 = true := mI_in (by omega) hn
    have hcl : (nI n).toNatClampNeg = n := nI_clamp (by omega)
    have hbx : in_b (nI kx) 1200 = true := mI_in (by omega) (by omega)
    have hclx : (nI kx).toNatClampNeg = kx := nI_clamp (by omega)
    have hx1 := nI_m1 (show kx < 2 ^ 31 by omega)
    generalize hres : pCel K R1 (q + 1) x pos = res
    rw [pCel] at hres
    rw [f_X11_readAhead_L150]
    simp only [if_neg hx1, show (91 : Int32) = nI 91 from rfl, rd_sign H 91 (by decide) (by decide), Option.bind_some]
    by_cases k91 : ¬ K pos = 91
    · rw [if_neg k91] at hres
      subst hres
      refine ⟨(fun hf => by cases hf), fun y hy => ?_⟩
      cases hy
      refine ⟨kx, n, r, D, by omega, ?_, H, Nat.le_refl _, Nat.le_refl _, Nat.le_refl _, Nat.le_refl _, Nat.le_refl _, Kpt_refl _ _ _ _, rep⟩
      simp only [if_neg k91, ↓reduceIte, if_pos (show nI kx ≠ -1 from hx1)]
      rfl
    have k91 : K pos = 91 := Decidable.not_not.mp k91
    have hp := K_lt hKm hpm k91 (by decide) (by decide)
    rw [if_pos k91] at hres
    obtain ⟨P1, f83, f82⟩ := pg_cel (kx := kx) H B hp g2
    have hmx : (mkD D n r 10 (nI (pl pos)) (V pos)).1 82 kx = D.1 82 kx := (mk_kp n r h 10 (nI (pl pos)) (V pos)).1 82 kx (by decide) (by decide) g2
    have hat : (mkD D n r 10 (nI (pl pos)) (V pos)).1 75 10 + 1 = nI (pos + 1) := by rw [mk_75, if_neg (by decide), H.at_]; exact nI_add pos 1
    simp only [if_pos k91, if_neg (show ¬ (1 : Int32) = 0 by decide), H.at_, rd_make H hn (show pos ≤ m by omega) 10, Option.bind_some, hb, hbx, hcl, hclx, gd_t, hmx, hat]
    change ((res.2 = none → ∃ E : im_S, ((F 1 0 0 (uI (adv (uI (mkD D n r 10 (nI (pl pos)) (V pos)) 82 n (D.1 82 kx)) (pos + 1)) 83 n (nI kx))).bind _) = some (-1, E) ∧ _) ∧ (∀ y, res.2 = some y → ∃ (ky n' r' : Nat) (E : im_S), ky < 1200 ∧ ((F 1 0 0 (uI (adv (uI (mkD D n r 10 (nI (pl pos)) (V pos)) 82 n (D.1 82 kx)) (pos + 1)) 83 n (nI kx))).bind _) = _ ∧ _))
    have repx : RepD K pl V (uI (adv (uI (mkD D n r 10 (nI (pl pos)) (V pos)) 82 n (D.1 82 kx)) (pos + 1)) 83 n (nI kx)) lo n rlo r x 0 kx := RepD_mono (D := D) (Kpt_ag P1.2.2.2.2.2.2.2.1) (Nat.le_refl _) (Nat.le_refl _) (Nat.le_refl _) (Nat.le_refl _) x 0 kx ⟨fun q => by omega, fun q => by omega⟩ rep
    have f82' : (uI (adv (uI (mkD D n r 10 (nI (pl pos)) (V pos)) 82 n (D.1 82 kx)) (pos + 1)) 83 n (nI kx)).1 82 kx = D.1 82 kx := P1.2.2.2.2.2.2.2.1.1 82 kx (by decide) (by decide) g2
    generalize uI (adv (uI (mkD D n r 10 (nI (pl pos)) (V pos)) 82 n (D.1 82 kx)) (pos + 1)) 83 n (nI kx) = D1 at *
    obtain ⟨nf, rfl⟩ : ∃ z, nf = z + 1 := ⟨nf - 1, by omega⟩
    rcases stX (k := n) (a := 84) hW (by omega) P1.1 P1.2.1.1 P1.2.2.1 P1.2.1.2 (by omega) with ⟨b, E, q1, q2, q3, q4, q5⟩ | ⟨b, y, k1, n1, r1, E, q1, q2, q3, H2, B2, l1, l2, l3, l4, l5, l6, kp2, f84, fo, f87, ag, rep1⟩
    · rw [pbd_none q1] at hres
      subst hres
      refine ⟨fun _ => ⟨uI E 84 n (-1), ?_, q3, q4, q5⟩, (fun y hy => by cases hy)⟩
      simp only [q2, Option.bind_some, hb, hcl, gd_t, pk_us, ↓reduceIte]
      rw [f_X11_readAhead_L150]
      simp only [↓reduceIte, ne_eq, not_true_eq_false]
      by_cases hz : z2 = -1
      · rw [if_pos hz]
      · rw [if_neg hz]
    rw [pbd_some q1] at hres
    simp only [q2, Option.bind_some, hb, hcl, gd_t, pk_us, if_neg (nI_m1 (show k1 < 2 ^ 31 by omega)), show (93 : Int32) = nI 93 from rfl, rd_sign H2 93 (by decide) (by decide), rd_wantP H2]
    generalize uI E 84 n (nI k1) = D2 at *
    unfold pw at hres
    by_cases k93 : ¬ K b = 93
    · rw [if_neg k93] at hres
      subst hres
      refine ⟨fun _ => ⟨rfD pl D2 b, ?_, l2, (rf_fl H2).1, (rf_fl H2).2⟩, (fun y hy => by cases hy)⟩
      simp only [if_neg k93, ne_eq, not_true_eq_false, ↓reduceIte]
      rw [f_X11_readAhead_L150]
      simp only [↓reduceIte, ne_eq, not_true_eq_false]
      by_cases hz : z2 = -1
      · rw [if_pos hz]
      · rw [if_neg hz]
    have k93 : K b = 93 := Decidable.not_not.mp k93
    have hb3 := K_lt hKm l2 k93 (by decide) (by decide)
    have H3 := Rd_adv H2 hb3
    have B3 : Bd (K 1000) m (b + 1) n1 r1 h := by unfold Bd at B2 ⊢; omega
    rw [if_pos k93] at hres
    simp only [if_pos k93, if_pos (show (1 : Int32) ≠ 0 by decide)]
    have kpD : Kpt D (adv D2 (b + 1)) n r h := Kpt_adv (Kpt_trans P1.2.2.2.2.2.2.2.1 kp2 (Nat.le_refl _) (Nat.le_refl _) (Nat.le_refl _))
    have ad : ∀ c i, 81 ≤ c → (adv D2 (b + 1)).1 c i = D2.1 c i := fun c i hc => by unfold adv; rw [uI_at, if_neg (by omega)]
    have agA : AgD D2 (adv D2 (b + 1)) lo n1 rlo r1 := Kpt_ag (h := 0) (Kpt_adv (Kpt_refl D2 n1 r1 0))
    have repc : RepD K pl V (adv D2 (b + 1)) lo n1 rlo r1 (aCel pos x y) 0 n := by
      refine RepD_cel (k1 := kx) (k2 := k1) (by omega) (by omega) ?_ ?_ ?_ ?_ ?_ ?_
      · exact ndD_uI ⟨by decide, by decide, by decide⟩ (ndD_st P1.2.2.2.2.2.2.2.2 (fo 81 (by decide) (by decide) (by decide)) (fo 82 (by decide) (by decide) (by decide)) (fo 86 (by decide) (by decide) (by decide)) f87)
      · rw [ad 83 n (by decide), fo 83 (by decide) (by decide) (by decide)]; exact f83
      · rw [ad 84 n (by decide)]; exact f84
      · rw [ad 82 n (by decide), ad 82 kx (by decide), fo 82 (by decide) (by decide) (by decide), kp2.1 82 kx (by decide) (by decide) g2, f82, f82']
      · exact RepD_mono (D := D2) agA (Nat.le_refl _) (Nat.le_refl _) (Nat.le_refl _) (Nat.le_refl _) x 0 kx ⟨fun q => by omega, fun q => by omega⟩ (RepD_mono (D := D1) (lo := lo) (hi := n) (rlo := rlo) (rhi := r) (Kpt_ag kp2) (Nat.le_refl _) (by omega) (Nat.le_refl _) l4 x 0 kx ⟨fun q => by omega, fun q => by omega⟩ repx)
      · exact RepD_mono (D := D2) (lo := n + 1) (hi := n1) (rlo := r) (rhi := r1) ⟨fun a i p q s t => agA.1 a i p q (by omega) t, fun i s t => agA.2.1 i (by omega) t, fun i s t => agA.2.2 i (by omega) t⟩ (by omega) (Nat.le_refl _) hrl (Nat.le_refl _) y 0 k1 ⟨fun q => by omega, fun q => by omega⟩ rep1
    have step := ih (nf + 1) (aCel pos x y) n (adv D2 (b + 1)) (b + 1) n1 r1 h lo rlo (by omega) H3 B3 repc (by omega) (by omega) (by omega)
    rw [hres] at step
    obtain ⟨s1, s2⟩ := step
    refine ⟨s1, fun z hz => ?_⟩
    obtain ⟨ky, n', r', E', t1, t2, t3, t4, t5, t6, t7, t8, t9, t10⟩ := s2 z hz
    exact ⟨ky, n', r', E', t1, t2, t3, by omega, by omega, by omega, by omega, by omega, Kpt_trans kpD t9 (by omega) (by omega) (Nat.le_refl _), t10⟩
end RAH
