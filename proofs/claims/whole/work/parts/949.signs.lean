/-! the reference reads operators between operands -/
section RSG
variable {K pl : Nat → Nat} {V : Nat → Int64} {m : Nat}
def HH (K pl : Nat → Nat) (V : Nat → Int64) (m : Nat) (F : KT) (R R1 : Nat → PR) (dep p0 : Nat) : Prop := ∀ (q : Nat) (D : im_S) (pos n r h : Nat), p0 ≤ pos → m + 1 < q + pos → Rd K pl V m D pos dep n r h → Bd (K 1000) m pos n r h → ∃ (k : Int32) (E : im_S), F 7 0 0 D = some (k, E) ∧ Out K pl V m D pos dep n r h (pAh K R R1 q pos) k E
def HS (K pl : Nat → Nat) (V : Nat → Int64) (m : Nat) (F : KT) (R R1 : Nat → PR) (dep p0 : Nat) : Prop := ∀ (q least : Nat) (D : im_S) (pos n r h : Nat), p0 ≤ pos → 1 ≤ least → least ≤ 6 → 2 * m + 3 ≤ q + 2 * pos → Rd K pl V m D pos dep n r h → Bd (K 1000) m pos n r h → ∃ (k : Int32) (E : im_S), F 6 (nI least) 0 D = some (k, E) ∧ Out K pl V m D pos dep n r h (pSg K R R1 q least 9 none pos) k E
theorem RepD_bin {D : im_S} {lo hi rlo rhi j k k1 k2 : Nat} {x y : TR} (h1 : lo ≤ k) (h2 : k < hi) (nd : ndD K pl V D 9 j k) (e1 : D.1 83 k = nI k1) (e2 : D.1 84 k = nI k2) (e3 : D.1 82 k = D.1 82 k1) (r1 : RepD K pl V D lo hi rlo rhi x 0 k1) (r2 : RepD K pl V D lo hi rlo rhi y 0 k2) : RepD K pl V D lo hi rlo rhi (aBin j x y) 0 k := ⟨h1, h2, by decide, by decide, nd, k1, k2, e1, e2, e3, r1, r2⟩
theorem stg_lt (c : Nat) : stg c ≤ 5 := by
  unfold stg
  repeat' split
  all_goals omega
theorem pg_bin {D : im_S} {pos dep n r h kx : Nat} (H : Rd K pl V m D pos dep n r h) (B : Bd (K 1000) m pos n r h) (hp : pos < m) (hx : kx < n) : Pg K pl V m D n r h 9 pos (uI (adv (uI (uI (mkD D n r 9 (nI (pl pos)) (V pos)) 86 n (nI (K pos))) 82 n (D.1 82 kx)) (pos + 1)) 83 n (nI kx)) (pos + 1) dep (n + 1) r ∧ (uI (adv (uI (uI (mkD D n r 9 (nI (pl pos)) (V pos)) 86 n (nI (K pos))) 82 n (D.1 82 kx)) (pos + 1)) 83 n (nI kx)).1 83 n = nI kx ∧ (uI (adv (uI (uI (mkD D n r 9 (nI (pl pos)) (V pos)) 86 n (nI (K pos))) 82 n (D.1 82 kx)) (pos + 1)) 83 n (nI kx)).1 82 n = D.1 82 kx := by
  obtain ⟨a1, a2, a3, a4, a5⟩ := mk_f (D := D) n r 9 (nI (pl pos)) (V pos)
  have hn0 := Bd_n B H.2.2.1
  refine ⟨⟨Rd_put (Rd_adv (Rd_put (Rd_put (Rd_mk0 H hn0 _ _ _) (by decide) (Pr_n (by omega) hn0)) (by decide) (Pr_n (by omega) hn0)) hp) (by decide) (Pr_n (by omega) hn0), ⟨by unfold Bd at B ⊢; omega, hn0.1⟩, by omega, Nat.le_refl _, by omega, by omega, by omega, Kpt_uI (Kpt_adv (Kpt_uI (Kpt_uI (mk_kp n r h _ _ _) (Or.inr (Or.inl ⟨by decide, Nat.le_refl _⟩))) (Or.inr (Or.inl ⟨by decide, Nat.le_refl _⟩)))) (Or.inr (Or.inl ⟨by decide, Nat.le_refl _⟩)), ?_⟩, ?_, ?_⟩
  · refine ⟨?_, fun q => absurd rfl q, fun q => by omega, fun q => by omega, fun q => by omega, fun _ => ?_⟩
    · unfold adv
      rw [uI_at, if_neg (by decide), uI_at, if_neg (by decide), uI_at, if_neg (by decide), uI_at, if_neg (by decide)]
      exact a1
    · unfold adv
      rw [uI_at, if_neg (by decide), uI_at, if_neg (by decide), uI_at, if_neg (by decide), uI_at, if_pos rfl, if_pos rfl]
  · rw [uI_at, if_pos rfl, if_pos rfl]
  · unfold adv
    rw [uI_at, if_neg (by decide), uI_at, if_neg (by decide), uI_at, if_pos rfl, if_pos rfl]
/-- HS gives what stX wants of label 6, told as another label -/
theorem HS_X {F : KT} {R R1 : Nat → PR} {dep p0 q least : Nat} (hS : HS K pl V m F R R1 dep p0) (h1 : 1 ≤ least) (h6 : least ≤ 6) (hq : 2 * m + 3 ≤ q + 2 * p0) : HX K pl V m (fun _ _ _ D => F 6 (nI least) 0 D) 0 (fun pos => pSg K R R1 q least 9 none pos) dep p0 := fun D pos n r h hp H B => hS q least D pos n r h hp h1 h6 (by omega) H B
set_option maxHeartbeats 4000000 in
theorem r_sloop (hKm : K m = 0 ∨ K m = 3) {F : KT} {R R1 : Nat → PR} {dep p0 : Nat} (hS : HS K pl V m F R R1 dep (p0 + 1)) (fu : Nat) {least : Nat} (hl1 : 1 ≤ least) (hl6 : least ≤ 6) : ∀ (q nf : Nat) (most : Nat) (x : TR) (kx : Nat) (D : im_S) (pos n r h lo rlo : Nat), p0 ≤ pos → most ≤ 9 → Rd K pl V m D pos dep n r h → Bd (K 1000) m pos n r h → RepD K pl V D lo n rlo r x 0 kx → rlo ≤ r → 2 * m + 2 ≤ q + 2 * pos → m < nf + pos →
    ∃ (k : Int32) (E : im_S), f_X11_readSigns_L15 F fu nf (nI least) (nI kx) (nI most) D = some (k, E) ∧ ((pSg K R R1 q least most (some x) pos).2 = none → k = -1 ∧ (pSg K R R1 q least most (some x) pos).1 ≤ m ∧ E.1 75 3 = 1 ∧ E.1 75 4 = nI (pl (pSg K R R1 q least most (some x) pos).1) ∧ Ps K V E) ∧
    (∀ y, (pSg K R R1 q least most (some x) pos).2 = some y → ∃ ky n' r' : Nat, k = nI ky ∧ Rd K pl V m E (pSg K R R1 q least most (some x) pos).1 dep n' r' h ∧ pos ≤ (pSg K R R1 q least most (some x) pos).1 ∧ n ≤ n' ∧ r ≤ r' ∧ n' + pos ≤ n + (pSg K R R1 q least most (some x) pos).1 ∧ r' + pos ≤ r + (pSg K R R1 q least most (some x) pos).1 ∧ Kpt D E n r h ∧ RepD K pl V E lo n' rlo r' y 0 ky) := by
  intro q
  induction q with
  | zero => intro nf most x kx D pos n r h lo rlo _ _ H _ _ _ hq; have := H.2.2.1; omega
  | succ q ih =>
    intro nf most x kx D pos n r h lo rlo hp0 hmost H B rep hrl hq hnf
    obtain ⟨nf, rfl⟩ : ∃ z, nf = z + 1 := ⟨nf - 1, by have := H.2.2.1; omega⟩
    have hm := H.2.1
    have hpm := H.2.2.1
    obtain ⟨g1, g2⟩ := RepD_k rep
    have hn : n < 1200 := by unfold Bd at B; omega
    have hb : in_b (nI n) 1200 = true := mI_in (by omega) hn
    have hcl : (nI n).toNatClampNeg = n := nI_clamp (by omega)
    have hbx : in_b (nI kx) 1200 = true := mI_in (by omega) (by omega)
    have hclx : (nI kx).toNatClampNeg = kx := nI_clamp (by omega)
    have hin : in_b (nI pos) 502 = true := mI_in (by omega) (by omega)
    have hcp : (nI pos).toNatClampNeg = pos := nI_clamp (by omega)
    have hst := stg_lt (K pos)
    have lt1 : (nI (stg (K pos)) < nI least) ↔ stg (K pos) < least := mI_lt (by omega) (by omega)
    have lt2 : (nI most < nI (stg (K pos))) ↔ most < stg (K pos) := mI_lt (by omega) (by omega)
    generalize hres : pSg K R R1 (q + 1) least most (some x) pos = res
    rw [pSg] at hres
    rw [f_X11_readSigns_L15]
    simp only [rd_firm H, Option.bind_some]
    by_cases hc : ¬ (least ≤ stg (K pos) ∧ stg (K pos) ≤ most)
    · rw [if_neg hc] at hres
      subst hres
      refine ⟨nI kx, D, ?_, (fun hf => by cases hf), fun y hy => ?_⟩
      · by_cases c1 : stg (K pos) < least
        · rw [if_pos (lt1.mpr c1)]
        · rw [if_neg (fun z => c1 (lt1.mp z)), if_pos (lt2.mpr (by omega))]
      · cases hy
        exact ⟨kx, n, r, rfl, H, Nat.le_refl _, Nat.le_refl _, Nat.le_refl _, Nat.le_refl _, Nat.le_refl _, Kpt_refl _ _ _ _, rep⟩
    have hc : least ≤ stg (K pos) ∧ stg (K pos) ≤ most := Decidable.not_not.mp hc
    rw [if_pos hc] at hres
    have hK17 : 17 ≤ K pos := by
      rcases Nat.lt_or_ge (K pos) 17 with z | z
      · have e0 : stg (K pos) = 0 := by
          unfold stg
          rw [if_neg (by omega), if_neg (by omega), if_neg (by omega), if_neg (by omega), if_neg (by omega), if_neg (by omega), if_neg (by omega), if_neg (by omega), if_neg (by omega)]
        omega
      · exact z
    have hp := K_lt hKm hpm rfl (show K pos ≠ 0 by omega) (show K pos ≠ 3 by omega)
    obtain ⟨P1, f83, f82⟩ := pg_bin (kx := kx) H B hp g2
    have Hm := Rd_mk0 H (Bd_n B H.2.2.1) 9 (nI (pl pos)) (V pos)
    have m78 : (mkD D n r 9 (nI (pl pos)) (V pos)).1 78 pos = nI (K pos) := by
      rw [(Hm.1 pos hpm).2.2.1 (by omega), (tkK_sg hK17).2]
    have hmx : (mkD D n r 9 (nI (pl pos)) (V pos)).1 82 kx = D.1 82 kx := (mk_kp n r h 9 (nI (pl pos)) (V pos)).1 82 kx (by decide) (by decide) g2
    simp only [if_neg (show ¬ nI (stg (K pos)) < nI least from fun z => by have := lt1.mp z; omega), if_neg (show ¬ nI most < nI (stg (K pos)) from fun z => by have := lt2.mp z; omega), H.at_, rd_make H hn (show pos ≤ m by omega) 9, Option.bind_some, Hm.at_, hin, hcp, hb, hbx, hcl, hclx, gd_t, m78, hmx, show nI pos + 1 = nI (pos + 1) from nI_add pos 1, show nI (stg (K pos)) + 1 = nI (stg (K pos) + 1) from nI_add _ 1]
    change ∃ (k : Int32) (E : im_S), ((F 6 (nI (stg (K pos) + 1)) 0 (uI (adv (uI (uI (mkD D n r 9 (nI (pl pos)) (V pos)) 86 n (nI (K pos))) 82 n (D.1 82 kx)) (pos + 1)) 83 n (nI kx))).bind _) = some (k, E) ∧ _
    have repx : RepD K pl V (uI (adv (uI (uI (mkD D n r 9 (nI (pl pos)) (V pos)) 86 n (nI (K pos))) 82 n (D.1 82 kx)) (pos + 1)) 83 n (nI kx)) lo n rlo r x 0 kx := RepD_mono (D := D) (Kpt_ag P1.2.2.2.2.2.2.2.1) (Nat.le_refl _) (Nat.le_refl _) (Nat.le_refl _) (Nat.le_refl _) x 0 kx ⟨fun q => by omega, fun q => by omega⟩ rep
    have f82' : (uI (adv (uI (uI (mkD D n r 9 (nI (pl pos)) (V pos)) 86 n (nI (K pos))) 82 n (D.1 82 kx)) (pos + 1)) 83 n (nI kx)).1 82 kx = D.1 82 kx := P1.2.2.2.2.2.2.2.1.1 82 kx (by decide) (by decide) g2
    generalize uI (adv (uI (uI (mkD D n r 9 (nI (pl pos)) (V pos)) 86 n (nI (K pos))) 82 n (D.1 82 kx)) (pos + 1)) 83 n (nI kx) = D1 at *
    have hX6 : HX K pl V m (fun _ _ _ D => F 6 (nI (stg (K pos) + 1)) 0 D) 0 (fun p => pSg K R R1 q (stg (K pos) + 1) 9 none p) dep (pos + 1) := fun D pos' n r h hp H B => hS q (stg (K pos) + 1) D pos' n r h (by omega) (by omega) (by omega) (by omega) H B
    rcases stX (k := n) (a := 84) hX6 (Nat.le_refl _) P1.1 P1.2.1.1 P1.2.2.1 P1.2.1.2 (by omega) with ⟨b, E, q1, q2, q3, q4, q5⟩ | ⟨b, y, k1, n1, r1, E, q1, q2, q3, H2, B2, l1, l2, l3, l4, l5, l6, kp2, f84, fo, f87, ag, rep1⟩
    · rw [pbd_none q1] at hres
      subst hres
      refine ⟨-1, uI E 84 n (-1), ?_, fun _ => ⟨rfl, q3, q4, q5⟩, (fun y hy => by cases hy)⟩
      simp only [q2, Option.bind_some, hb, hcl, gd_t, pk_us, ne_eq, not_true_eq_false, ↓reduceIte]
    rw [pbd_some q1] at hres
    have kpD : Kpt D (uI E 84 n (nI k1)) n r h := Kpt_trans P1.2.2.2.2.2.2.2.1 kp2 (Nat.le_refl _) (Nat.le_refl _) (Nat.le_refl _)
    have repb : RepD K pl V (uI E 84 n (nI k1)) lo n1 rlo r1 (aBin pos x y) 0 n := by
      refine RepD_bin (k1 := kx) (k2 := k1) (by omega) (by omega) ?_ ?_ f84 ?_ ?_ ?_
      · exact ndD_st P1.2.2.2.2.2.2.2.2 (fo 81 (by decide) (by decide) (by decide)) (fo 82 (by decide) (by decide) (by decide)) (fo 86 (by decide) (by decide) (by decide)) f87
      · rw [fo 83 (by decide) (by decide) (by decide)]; exact f83
      · rw [fo 82 (by decide) (by decide) (by decide), kp2.1 82 kx (by decide) (by decide) g2, f82, f82']
      · exact RepD_mono (D := D1) (lo := lo) (hi := n) (rlo := rlo) (rhi := r) (Kpt_ag kp2) (Nat.le_refl _) (by omega) (Nat.le_refl _) l4 x 0 kx ⟨fun q => by omega, fun q => by omega⟩ repx
      · exact RepD_mono (D := uI E 84 n (nI k1)) (lo := n + 1) (hi := n1) (rlo := r) (rhi := r1) ⟨fun _ _ _ _ _ _ => rfl, fun _ _ _ => rfl, fun _ _ _ => ⟨rfl, rfl, rfl⟩⟩ (by omega) (Nat.le_refl _) hrl (Nat.le_refl _) y 0 k1 ⟨fun q => by omega, fun q => by omega⟩ rep1
    have step : ∀ most' : Nat, most' ≤ 9 → pSg K R R1 q least most' (some (aBin pos x y)) b = res → ∃ (k : Int32) (E' : im_S), f_X11_readSigns_L15 F fu nf (nI least) (nI n) (nI most') (uI E 84 n (nI k1)) = some (k, E') ∧ (res.2 = none → k = -1 ∧ res.1 ≤ m ∧ E'.1 75 3 = 1 ∧ E'.1 75 4 = nI (pl res.1) ∧ Ps K V E') ∧ (∀ z, res.2 = some z → ∃ ky n' r' : Nat, k = nI ky ∧ Rd K pl V m E' res.1 dep n' r' h ∧ pos ≤ res.1 ∧ n ≤ n' ∧ r ≤ r' ∧ n' + pos ≤ n + res.1 ∧ r' + pos ≤ r + res.1 ∧ Kpt D E' n r h ∧ RepD K pl V E' lo n' rlo r' z 0 ky) := by
      intro most' hm9 hr
      obtain ⟨k, E', s0, s1, s2⟩ := ih nf most' (aBin pos x y) n (uI E 84 n (nI k1)) b n1 r1 h lo rlo (by omega) hm9 H2 B2 repb (by omega) (by omega) (by omega)
      rw [hr] at s1 s2
      refine ⟨k, E', s0, s1, fun z hz => ?_⟩
      obtain ⟨ky, n', r', t1, t3, t4, t5, t6, t7, t8, t9, t10⟩ := s2 z hz
      exact ⟨ky, n', r', t1, t3, by omega, by omega, by omega, by omega, by omega, Kpt_trans kpD t9 (by omega) (by omega) (Nat.le_refl _), t10⟩
    have e3 : (nI (stg (K pos)) ≠ (3 : Int32)) ↔ stg (K pos) ≠ 3 := not_congr (nI_eq (a := stg (K pos)) (b := 3) (by omega) (by omega))
    by_cases h3 : stg (K pos) = 3
    · rw [if_pos h3] at hres
      obtain ⟨k, E', s0, s1, s2⟩ := step 2 (by omega) hres
      refine ⟨k, E', ?_, s1, s2⟩
      simp only [q2, Option.bind_some, hb, hcl, gd_t, pk_us, if_pos (show nI k1 ≠ -1 from nI_m1 (show k1 < 2 ^ 31 by omega)), if_neg (show ¬ nI (stg (K pos)) ≠ (3 : Int32) from fun z => e3.mp z h3)]
      exact s0
    · rw [if_neg h3] at hres
      obtain ⟨k, E', s0, s1, s2⟩ := step (stg (K pos)) (by omega) hres
      refine ⟨k, E', ?_, s1, s2⟩
      simp only [q2, Option.bind_some, hb, hcl, gd_t, pk_us, if_pos (show nI k1 ≠ -1 from nI_m1 (show k1 < 2 ^ 31 by omega)), if_pos (e3.mpr h3)]
      exact s0
end RSG
