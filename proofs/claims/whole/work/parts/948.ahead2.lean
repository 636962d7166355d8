/-! the reference reads an operand with - and ! ahead -/
theorem uI_same {S : im_S} {i k : Nat} {v : Int32} (h : S.1 i k = v) : uI S i k v = S := by
  refine Prod.ext ?_ rfl
  funext a b
  show (uI S i k v).1 a b = S.1 a b
  rw [uI_at]
  by_cases e : a = i
  · rw [if_pos e]
    by_cases e2 : b = k
    · rw [if_pos e2, e, e2]; exact h.symm
    · rw [if_neg e2]
  · rw [if_neg e]
section RA4
variable {K pl : Nat → Nat} {V : Nat → Int64} {m : Nat}
/-- nothing changed below n, r, h but the child of the node z2 -/
def Kz (z2 : Int32) (D E : im_S) (n r h : Nat) : Prop := (∀ b i : Nat, 81 ≤ b → b ≤ 92 → i < n → ¬ (b = 83 ∧ z2 = nI i) → E.1 b i = D.1 b i) ∧ (∀ i : Nat, i < n → E.2.1 87 i = D.2.1 87 i) ∧ (∀ i : Nat, i < r → E.1 94 i = D.1 94 i ∧ E.1 95 i = D.1 95 i ∧ E.2.1 93 i = D.2.1 93 i) ∧ ∀ i : Nat, i < h → E.1 132 i = D.1 132 i ∧ E.1 133 i = D.1 133 i
theorem Kz_of {z2 : Int32} {D E : im_S} {n r h : Nat} (g : Kpt D E n r h) : Kz z2 D E n r h := ⟨fun b i p q s _ => g.1 b i p q s, g.2.1, g.2.2.1, g.2.2.2⟩
theorem Kpt_of {D E : im_S} {n r h : Nat} (hn : n ≤ 1200) (g : Kz (-1) D E n r h) : Kpt D E n r h := ⟨fun b i p q s => g.1 b i p q s (fun z => nI_m1 (show i < 2 ^ 31 by omega) z.2.symm), g.2.1, g.2.2.1, g.2.2.2⟩
def HA (K pl : Nat → Nat) (V : Nat → Int64) (m : Nat) (F : KT) (R R1 : Nat → PR) (dep p0 : Nat) : Prop := ∀ (q : Nat) (D : im_S) (pos n r h : Nat), p0 ≤ pos → m < q + pos → Rd K pl V m D pos dep n r h → Bd (K 1000) m pos n r h → ∃ (k : Int32) (E : im_S), F 8 0 0 D = some (k, E) ∧ Out K pl V m D pos dep n r h (pAtom K R R1 q pos) k E
theorem RepD_sig {D : im_S} {lo hi rlo rhi j k k1 : Nat} {x : TR} (h1 : lo ≤ k) (h2 : k < hi) (nd : ndD K pl V D 8 j k) (e0 : D.1 84 k = -1) (e1 : D.1 83 k = nI k1) (r1 : RepD K pl V D lo hi rlo rhi x 0 k1) : RepD K pl V D lo hi rlo rhi (aSig j x) 0 k := ⟨h1, h2, by decide, by decide, nd, e0, k1, e1, r1⟩
theorem RepD_brk {D : im_S} {lo hi rlo rhi j k k1 : Nat} {x : TR} (h1 : lo ≤ k) (h2 : k < hi) (nd : ndD K pl V D 12 j k) (e0 : D.1 84 k = -1) (e1 : D.1 83 k = nI k1) (r1 : RepD K pl V D lo hi rlo rhi x 0 k1) : RepD K pl V D lo hi rlo rhi (aBrk j x) 0 k := ⟨h1, h2, by decide, by decide, nd, e0, k1, e1, r1⟩
theorem L150_m1 (F : KT) (fu nf : Nat) (z1 z2 : Int32) (S : im_S) : f_X11_readAhead_L150 F fu (nf + 1) z1 z2 (-1) S = some (-1, S) := by
  rw [f_X11_readAhead_L150]
  simp only [↓reduceIte, ne_eq, not_true_eq_false]
  by_cases hz : z2 = -1
  · rw [if_pos hz]
  · rw [if_neg hz]
/-- node n for a sign ahead -/
theorem sig_mk {D : im_S} {pos dep n r h : Nat} (H : Rd K pl V m D pos dep n r h) (hp : pos < m) (hn0 : K 1000 ≤ n ∧ n < K 1000 + 600) : Rd K pl V m (adv (uI (mkD D n r 8 (nI (pl pos)) (V pos)) 86 n (nI (K pos))) (pos + 1)) (pos + 1) dep (n + 1) r h ∧ Kpt D (adv (uI (mkD D n r 8 (nI (pl pos)) (V pos)) 86 n (nI (K pos))) (pos + 1)) n r h ∧ ndD K pl V (adv (uI (mkD D n r 8 (nI (pl pos)) (V pos)) 86 n (nI (K pos))) (pos + 1)) 8 pos n := by
  obtain ⟨a1, a2, a3, a4, a5⟩ := mk_f (D := D) n r 8 (nI (pl pos)) (V pos)
  refine ⟨Rd_adv (Rd_put (Rd_mk0 H hn0 _ _ _) (by decide) (Pr_n (by omega) hn0)) hp, Kpt_adv (Kpt_uI (mk_kp n r h _ _ _) (Or.inr (Or.inl ⟨by decide, Nat.le_refl _⟩))), ?_, fun _ _ => ?_, fun q => by omega, fun q => by omega, fun q => by omega, fun _ => ?_⟩
  · unfold adv; rw [uI_at, if_neg (by decide), uI_at, if_neg (by decide)]; exact a1
  · unfold adv; rw [uI_at, if_neg (by decide), uI_at, if_neg (by decide)]; exact a2
  · unfold adv; rw [uI_at, if_neg (by decide), uI_at, if_pos rfl, if_pos rfl]
set_option maxHeartbeats 4000000 in
theorem r_ahead (hKm : K m = 0 ∨ K m = 3) {F : KT} {R R1 : Nat → PR} {dep p0 : Nat} (hW : HX K pl V m F 1 R1 dep (p0 + 1)) (hA : HA K pl V m F R R1 dep p0) (fu : Nat) (hfu : 600 ≤ fu) : ∀ (q nf : Nat) (z1 z2 : Int32) (D : im_S) (pos n r h : Nat), p0 ≤ pos → Rd K pl V m D pos dep n r h → Bd (K 1000) m pos n r h → m + 1 < q + pos → m < nf + pos → (z2 = -1 ∨ ∃ l, z2 = nI l ∧ l < n ∧ K 1000 ≤ l) →
    ((pAh K R R1 q pos).2 = none → ∃ E : im_S, f_X11_readAhead_L4 F fu nf z1 z2 D = some (-1, E) ∧ (pAh K R R1 q pos).1 ≤ m ∧ E.1 75 3 = 1 ∧ E.1 75 4 = nI (pl (pAh K R R1 q pos).1) ∧ Ps K V E) ∧
    (∀ y, (pAh K R R1 q pos).2 = some y → ∃ (ky n' r' : Nat) (E : im_S), ky < 1200 ∧ f_X11_readAhead_L4 F fu nf z1 z2 D = fin z1 z2 (nI ky) E ∧ Rd K pl V m E (pAh K R R1 q pos).1 dep n' r' h ∧ pos < (pAh K R R1 q pos).1 ∧ n ≤ n' ∧ r ≤ r' ∧ n' + pos ≤ n + (pAh K R R1 q pos).1 ∧ r' + pos + 1 ≤ r + (pAh K R R1 q pos).1 ∧ Kz z2 D E n r h ∧ RepD K pl V E n n' r r' y 0 ky) := by
  intro q
  induction q with
  | zero => intro nf z1 z2 D pos n r h _ H _ hq; have := H.2.2.1; omega
  | succ q ih =>
    intro nf z1 z2 D pos n r h hp0 H B hq hnf hz2
    obtain ⟨nf, rfl⟩ : ∃ z, nf = z + 1 := ⟨nf - 1, by have := H.2.2.1; omega⟩
    obtain ⟨fu', hfu'⟩ : ∃ z, fu = z + 1 := ⟨fu - 1, by omega⟩
    have hm := H.2.1
    have hpm := H.2.2.1
    have hn : n < 1200 := by unfold Bd at B; omega
    have hb : in_b (nI n) 1200 = true := mI_in (by omega) hn
    have hcl : (nI n).toNatClampNeg = n := nI_clamp (by omega)
    have hin : in_b (nI pos) 502 = true := mI_in (by omega) (by omega)
    have hcp : (nI pos).toNatClampNeg = pos := nI_clamp (by omega)
    generalize hres : pAh K R R1 (q + 1) pos = res
    rw [pAh] at hres
    -- a sign ahead
    have sign : (K pos = 45 ∨ K pos = 33) → f_X11_readAhead_L4 F fu (nf + 1) z1 z2 D = (if z2 ≠ -1 then gd (in_b z2 1200) (f_X11_readAhead_L4 F fu nf z1 (nI n) (uI (adv (uI (mkD D n r 8 (nI (pl pos)) (V pos)) 86 n (nI (K pos))) (pos + 1)) 83 z2.toNatClampNeg (nI n))) else f_X11_readAhead_L4 F fu nf (nI n) (nI n) (adv (uI (mkD D n r 8 (nI (pl pos)) (V pos)) 86 n (nI (K pos))) (pos + 1))) → (res.2 = none → ∃ E : im_S, f_X11_readAhead_L4 F fu (nf + 1) z1 z2 D = some (-1, E) ∧ res.1 ≤ m ∧ E.1 75 3 = 1 ∧ E.1 75 4 = nI (pl res.1) ∧ Ps K V E) ∧ (∀ y, res.2 = some y → ∃ (ky n' r' : Nat) (E : im_S), ky < 1200 ∧ f_X11_readAhead_L4 F fu (nf + 1) z1 z2 D = fin z1 z2 (nI ky) E ∧ Rd K pl V m E res.1 dep n' r' h ∧ pos < res.1 ∧ n ≤ n' ∧ r ≤ r' ∧ n' + pos ≤ n + res.1 ∧ r' + pos + 1 ≤ r + res.1 ∧ Kz z2 D E n r h ∧ RepD K pl V E n n' r r' y 0 ky) := by
      intro ks hcode
      rw [if_pos ks] at hres
      have hp : pos < m := by rcases ks with z | z <;> exact K_lt hKm hpm z (by decide) (by decide)
      obtain ⟨H1, kp1, nd1⟩ := sig_mk H hp (Bd_n B H.2.2.1)
      have m84 : (adv (uI (mkD D n r 8 (nI (pl pos)) (V pos)) 86 n (nI (K pos))) (pos + 1)).1 84 n = -1 := by unfold adv; rw [uI_at, if_neg (by decide), uI_at, if_neg (by decide)]; exact (mk_m1 n r _ _ _).2
      have B1 : Bd (K 1000) m (pos + 1) (n + 1) r h := by unfold Bd at B ⊢; omega
      generalize adv (uI (mkD D n r 8 (nI (pl pos)) (V pos)) 86 n (nI (K pos))) (pos + 1) = D1 at *
      -- the two cases: a first sign, or one behind another
      have core : ∀ (D2 : im_S) (z1' : Int32), Rd K pl V m D2 (pos + 1) dep (n + 1) r h → Kz z2 D D2 n r h → ndD K pl V D2 8 pos n → D2.1 84 n = -1 → f_X11_readAhead_L4 F fu (nf + 1) z1 z2 D = f_X11_readAhead_L4 F fu nf z1' (nI n) D2 → (∀ E : im_S, Kz (nI n) D2 E (n + 1) r h → ∀ ky : Nat, fin z1' (nI n) (nI ky) E = fin z1 z2 (nI n) (uI E 83 n (nI ky))) → (res.2 = none → ∃ E : im_S, f_X11_readAhead_L4 F fu (nf + 1) z1 z2 D = some (-1, E) ∧ res.1 ≤ m ∧ E.1 75 3 = 1 ∧ E.1 75 4 = nI (pl res.1) ∧ Ps K V E) ∧ (∀ y, res.2 = some y → ∃ (ky n' r' : Nat) (E : im_S), ky < 1200 ∧ f_X11_readAhead_L4 F fu (nf + 1) z1 z2 D = fin z1 z2 (nI ky) E ∧ Rd K pl V m E res.1 dep n' r' h ∧ pos < res.1 ∧ n ≤ n' ∧ r ≤ r' ∧ n' + pos ≤ n + res.1 ∧ r' + pos + 1 ≤ r + res.1 ∧ Kz z2 D E n r h ∧ RepD K pl V E n n' r r' y 0 ky) := by
        intro D2 z1' H2 kz2 nd2 h84 hc2 hfin
        obtain ⟨s1, s2⟩ := ih nf z1' (nI n) D2 (pos + 1) (n + 1) r h (by omega) H2 B1 (by omega) (by omega) (.inr ⟨n, rfl, by omega, (Bd_n B H.2.2.1).1⟩)
        generalize hrb : pAh K R R1 q (pos + 1) = rb at *
        obtain ⟨b, _ | y⟩ := rb
        · rw [pbd_none rfl] at hres
          subst hres
          refine ⟨fun _ => ?_, (fun y hy => by cases hy)⟩
          rw [hc2]
          exact s1 rfl
        · rw [pbd_some rfl] at hres
          subst hres
          refine ⟨(fun hf => by cases hf), fun z hz => ?_⟩
          cases hz
          obtain ⟨ky, n', r', E, t1, t2, t3, t4, t5, t6, t7, t8, t9, t10⟩ := s2 y rfl
          have t4 : pos + 1 < b := t4
          have t7 : n' + (pos + 1) ≤ n + 1 + b := t7
          have t8 : r' + (pos + 1) + 1 ≤ r + b := t8
          have dif : ∀ i, i < n → ¬ nI n = nI i := fun i hi q => by have := (nI_eq (a := n) (b := i) (by omega) (by omega)).mp q; omega
          refine ⟨n, n', r', uI E 83 n (nI ky), hn, ?_, Rd_put t3 (by decide) (Pr_n (by omega) (Bd_n B H.2.2.1)), by show pos < b; omega, by omega, t6, by show n' + pos ≤ n + b; omega, by show r' + pos + 1 ≤ r + b; omega, ⟨fun c i p1 p2 p3 p4 => ?_, fun i p3 => ?_, fun i p => ?_, fun i p => ?_⟩, ?_⟩
          · rw [hc2, t2]; exact hfin E t9 ky
          · have e1 : (uI E 83 n (nI ky)).1 c i = E.1 c i := by
              rw [uI_at]
              by_cases ec : c = 83
              · rw [if_pos ec, if_neg (by omega)]
              · rw [if_neg ec]
            rw [e1, t9.1 c i p1 p2 (by omega) (fun q => dif i p3 q.2)]
            exact kz2.1 c i p1 p2 p3 p4
          · rw [uI_21]; exact (t9.2.1 i (by omega)).trans (kz2.2.1 i p3)
          · rw [uI_at, uI_at, if_neg (by decide), if_neg (by decide), uI_21]
            have a1 := t9.2.2.1 i p
            have a2 := kz2.2.2.1 i p
            exact ⟨a1.1.trans a2.1, a1.2.1.trans a2.2.1, a1.2.2.trans a2.2.2⟩
          · rw [uI_at, uI_at, if_neg (by decide), if_neg (by decide)]
            have a1 := t9.2.2.2 i p
            have a2 := kz2.2.2.2 i p
            exact ⟨a1.1.trans a2.1, a1.2.trans a2.2⟩
          · refine RepD_sig (k1 := ky) (Nat.le_refl _) (by omega) ?_ (by rw [uI_at, if_neg (by decide)]; exact (t9.1 84 n (by decide) (by decide) (by omega) (fun q => by cases q.1)).trans h84) ?_ ?_
            · refine ndD_uI ⟨by decide, by decide, by decide⟩ (ndD_st nd2 ?_ ?_ ?_ (t9.2.1 n (by omega)))
              · exact t9.1 81 n (by decide) (by decide) (by omega) (fun q => by cases q.1)
              · exact t9.1 82 n (by decide) (by decide) (by omega) (fun q => by cases q.1)
              · exact t9.1 86 n (by decide) (by decide) (by omega) (fun q => by cases q.1)
            · rw [uI_at, if_pos rfl, if_pos rfl]
            · refine RepD_mono (D := E) (E := uI E 83 n (nI ky)) (lo := n + 1) (hi := n') (rlo := r) (rhi := r') ⟨fun c i p1 p2 p3 p4 => ?_, fun _ _ _ => rfl, fun i _ _ => ?_⟩ (by omega) (Nat.le_refl _) (Nat.le_refl _) (Nat.le_refl _) y 0 ky ⟨fun q => by omega, fun q => by omega⟩ t10
              · rw [uI_at]
                by_cases ec : c = 83
                · rw [if_pos ec, if_neg (by omega)]
                · rw [if_neg ec]
              · rw [uI_at, uI_at, if_neg (by decide), if_neg (by decide), uI_21]
                exact ⟨rfl, rfl, rfl⟩
      by_cases hz : z2 = -1
      · rw [if_neg (fun q => q hz)] at hcode
        refine core D1 (nI n) H1 (Kz_of kp1) nd1 m84 hcode (fun E _ ky => ?_)
        unfold fin
        rw [if_neg (nI_m1 (by omega)), hb, gd_t, hcl, if_pos hz]
      · rw [if_pos hz] at hcode
        rcases hz2 with z | ⟨l, hl, hln, hll⟩
        · exact absurd z hz
        have hbl : in_b (nI l) 1200 = true := mI_in (by omega) (by omega)
        have hcll : (nI l).toNatClampNeg = l := nI_clamp (by omega)
        rw [hl, hbl, gd_t, hcll] at hcode
        rw [← hl] at hcode
        refine core (uI D1 83 l (nI n)) z1 (Rd_put H1 (by decide) (Pr_n (by omega) ⟨hll, by have := Bd_n B H.2.2.1; omega⟩)) ⟨fun c i p1 p2 p3 p4 => ?_, kp1.2.1, fun i p => ?_, fun i p => ?_⟩ (ndD_uI ⟨by decide, by decide, by decide⟩ nd1) (by rw [uI_at, if_neg (by decide)]; exact m84) hcode (fun E g ky => ?_)
        · rw [uI_at]
          by_cases ec : c = 83
          · rw [if_pos ec, if_neg (fun q => p4 ⟨ec, by rw [hl, q]⟩)]; exact kp1.1 c i p1 p2 p3
          · rw [if_neg ec]; exact kp1.1 c i p1 p2 p3
        · rw [uI_at, uI_at, if_neg (by decide), if_neg (by decide), uI_21]; exact kp1.2.2.1 i p
        · rw [uI_at, uI_at, if_neg (by decide), if_neg (by decide)]; exact kp1.2.2.2 i p
        · unfold fin
          rw [if_neg (nI_m1 (by omega)), hb, gd_t, hcl, if_neg hz, hl, hbl, gd_t, hcll]
          have e1 : (uI E 83 n (nI ky)).1 83 l = nI n := by
            rw [uI_at, if_pos rfl, if_neg (by omega), g.1 83 l (by decide) (by decide) (by omega) (fun q => by have := (nI_eq (a := n) (b := l) (by omega) (by omega)).mp q.2; omega), uI_at, if_pos rfl, if_pos rfl]
          rw [uI_same e1]
    have Hm := Rd_mk0 H (Bd_n B H.2.2.1) 8 (nI (pl pos)) (V pos)
    have m78 : 17 ≤ K pos → (mkD D n r 8 (nI (pl pos)) (V pos)).1 78 pos = nI (K pos) := fun z => by
      rw [(Hm.1 pos hpm).2.2.1 (by omega), (tkK_sg z).2]
    by_cases k45 : K pos = 45
    · refine sign (.inl k45) ?_
      rw [f_X11_readAhead_L4]
      simp only [show (45 : Int32) = nI 45 from rfl, rd_sign H 45 (by decide) (by decide), Option.bind_some, if_pos k45, if_pos (show (1 : Int32) ≠ 0 by decide), H.at_, rd_make H hn (show pos ≤ m by omega) 8, hb, hcl, gd_t, Hm.at_, hin, hcp, m78 (by omega), show nI pos + 1 = nI (pos + 1) from nI_add pos 1]
      rfl
    by_cases k33 : K pos = 33
    · refine sign (.inr k33) ?_
      rw [f_X11_readAhead_L4]
      simp only [show (45 : Int32) = nI 45 from rfl, rd_sign H 45 (by decide) (by decide), Option.bind_some, if_neg k45, if_neg (show ¬ (0 : Int32) ≠ 0 by decide), show (33 : Int32) = nI 33 from rfl, rd_sign H 33 (by decide) (by decide), if_pos k33, if_neg (show ¬ (1 : Int32) = 0 by decide), H.at_, rd_make H hn (show pos ≤ m by omega) 8, hb, hcl, gd_t, Hm.at_, hin, hcp, m78 (by omega), show nI pos + 1 = nI (pos + 1) from nI_add pos 1]
      rfl
    rw [if_neg (show ¬ (K pos = 45 ∨ K pos = 33) by omega)] at hres
    rw [f_X11_readAhead_L4]
    simp only [show (45 : Int32) = nI 45 from rfl, rd_sign H 45 (by decide) (by decide), Option.bind_some, if_neg k45, if_neg (show ¬ (0 : Int32) ≠ 0 by decide), show (33 : Int32) = nI 33 from rfl, rd_sign H 33 (by decide) (by decide), if_neg k33, ↓reduceIte, show (40 : Int32) = nI 40 from rfl, rd_sign H 40 (by decide) (by decide)]
    by_cases k40 : K pos = 40
    · -- a bracket
      rw [if_pos k40] at hres
      have hp := K_lt hKm hpm k40 (by decide) (by decide)
      have P1 := pg_new H B hp 12 (by decide) (by decide) (by decide) (by decide)
      change Pg K pl V m D n r h 12 pos (adv (mkD D n r 12 (nI (pl pos)) (V pos)) (pos + 1)) (pos + 1) dep (n + 1) r at P1
      simp only [if_pos k40, if_neg (show ¬ (1 : Int32) = 0 by decide), H.at_, rd_make H hn (show pos ≤ m by omega) 12, Option.bind_some, mk_adv H]
      have m84 : (adv (mkD D n r 12 (nI (pl pos)) (V pos)) (pos + 1)).1 84 n = -1 := by unfold adv; rw [uI_at, if_neg (by decide)]; exact (mk_m1 n r _ _ _).2
      generalize adv (mkD D n r 12 (nI (pl pos)) (V pos)) (pos + 1) = D1 at *
      rcases pg_x (a := 83) hW (by omega) P1 (by omega) with ⟨b, E, q1, q2, q3, q4, q5⟩ | ⟨b, x, k1, n1, r1, E, q1, q2, q3, P2, T2, f1, g1⟩
      · rw [pbd_none q1] at hres
        subst hres
        refine ⟨fun _ => ⟨uI E 83 n (-1), ?_, q3, q4, q5⟩, (fun y hy => by cases hy)⟩
        simp only [q2, Option.bind_some, hb, hcl, gd_t, pk_us, ↓reduceIte]
      rw [pbd_some q1] at hres
      simp only [q2, Option.bind_some, hb, hcl, gd_t, pk_us, if_neg (nI_m1 (show k1 < 2 ^ 31 by omega)), show (41 : Int32) = nI 41 from rfl, rd_sign P2.1 41 (by decide) (by decide), rd_wantP P2.1]
      generalize uI E 83 n (nI k1) = D2 at *
      unfold pw at hres
      by_cases k41 : ¬ K b = 41
      · rw [if_neg k41] at hres
        subst hres
        refine ⟨fun _ => ⟨rfD pl D2 b, ?_, P2.1.2.2.1, (rf_fl P2.1).1, (rf_fl P2.1).2⟩, (fun y hy => by cases hy)⟩
        simp only [if_neg k41, ne_eq, not_true_eq_false, ↓reduceIte]
      have k41 : K b = 41 := Decidable.not_not.mp k41
      obtain ⟨P3, T3⟩ := pg_want hKm P2 (by decide) (by decide) k41
      rw [if_pos k41] at hres
      simp only [if_pos k41, if_pos (show (1 : Int32) ≠ 0 by decide)]
      have rb : RepD K pl V (adv D2 (b + 1)) n n1 r r1 (aBrk pos x) 0 n := by
        refine RepD_brk (k1 := k1) (Nat.le_refl _) P3.2.2.1 P3.2.2.2.2.2.2.2.2 (by rw [T3.fld 84 (by decide) (by decide) (by decide) (by decide), T2.fld 84 (by decide) (by decide) (by decide) (by decide)]; exact m84) ?_ (RepD_up (.inl rfl) (T3.rep x 0 k1 (.inl rfl) g1))
        rw [T3.fld 83 (by decide) (by decide) (by decide) (by decide)]; exact f1
      have hbp : pos + 1 < b + 1 := P3.2.2.2.2.1 |> fun z => by have := P2.2.2.2.2.1; omega
      have l4 : n1 + pos ≤ n + (b + 1) := P3.2.2.2.2.2.1
      have l5 : r1 + pos + 1 ≤ r + (b + 1) := P3.2.2.2.2.2.2.1
      obtain ⟨s1, s2⟩ := r_cells hKm hW fu z1 z2 q fu (aBrk pos x) n (adv D2 (b + 1)) (b + 1) n1 r1 h n r (by omega) P3.1 P3.2.1.1 rb P3.2.2.2.1 (by omega) (by omega)
      rw [hres] at s1 s2
      refine ⟨s1, fun y hy => ?_⟩
      obtain ⟨ky, n', r', E', t1, t2, t3, t4, t5, t6, t7, t8, t9, t10⟩ := s2 y hy
      have nn : n + 1 ≤ n1 := P3.2.2.1
      have rr : r ≤ r1 := P3.2.2.2.1
      exact ⟨ky, n', r', E', t1, t2, t3, by omega, by omega, by omega, by omega, by omega, Kz_of (Kpt_trans P3.2.2.2.2.2.2.2.1 t9 (by omega) rr (Nat.le_refl _)), t10⟩
    -- an atom
    rw [if_neg k40] at hres
    simp only [if_neg k40, ↓reduceIte]
    obtain ⟨k, E, f1, o1⟩ := hA q D pos n r h hp0 (by omega) H B
    generalize hra : pAtom K R R1 q pos = ra at *
    obtain ⟨b, _ | x⟩ := ra
    · obtain ⟨rfl, q1, q2, q3⟩ := o1.1 rfl
      rw [pbd_none rfl] at hres
      subst hres
      refine ⟨fun _ => ⟨E, ?_, q1, q2, q3⟩, (fun y hy => by cases hy)⟩
      simp only [f1, Option.bind_some]
      rw [hfu']
      exact L150_m1 F _ fu' z1 z2 E
    · obtain ⟨kk, n1, r1, rfl, R2, p1, m1, m2, m3, m4, kp, rep⟩ := o1.2 x rfl
      rw [pbd_some rfl] at hres
      have p1 : pos < b := p1
      have R2 : Rd K pl V m E b dep n1 r1 h := R2
      have m3 : n1 + pos ≤ n + b := m3
      have m4 : r1 + pos + 1 ≤ r + b := m4
      have B2 : Bd (K 1000) m b n1 r1 h := by unfold Bd at B ⊢; omega
      have hbm := R2.2.2.1
      simp only [f1, Option.bind_some]
      obtain ⟨s1, s2⟩ := r_cells hKm hW fu z1 z2 q fu x kk E b n1 r1 h n r (by omega) R2 B2 rep m2 (by omega) (by omega)
      rw [hres] at s1 s2
      refine ⟨s1, fun y hy => ?_⟩
      obtain ⟨ky, n', r', E', t1, t2, t3, t4, t5, t6, t7, t8, t9, t10⟩ := s2 y hy
      exact ⟨ky, n', r', E', t1, t2, t3, by omega, by omega, by omega, by omega, by omega, Kz_of (Kpt_trans kp t9 m1 m2 (Nat.le_refl _)), t10⟩
end RA4
