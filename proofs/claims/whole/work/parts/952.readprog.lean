/-! the reference reads programs -/
/-- the functions of a program, from number f on, as the reference's arrays hold them -/
def RpF (K pl : Nat → Nat) (V : Nat → Int64) (D : im_S) (lo hi rlo rhi : Nat) : TR → Nat → Prop
  | .append (.tag j (.append (.tag np .nil) x)) r, f => (D.2.1 97 f = V j ∧ D.1 98 f = nI (pl j) ∧ D.1 99 f = nI np ∧ np ≤ 4 ∧ (∀ i, i < np → D.2.1 100 (4 * f + i) = V (j + 2 + 2 * i) ∧ D.1 101 (4 * f + i) = nI (pl (j + 2 + 2 * i))) ∧ ∃ k : Nat, D.1 102 f = nI k ∧ RepD K pl V D lo hi rlo rhi x 0 k) ∧ RpF K pl V D lo hi rlo rhi r (f + 1)
  | .nil, _ => True
  | _, _ => False
section RPG
variable {K pl : Nat → Nat} {V : Nat → Int64} {m : Nat}
theorem Rd_cp {D E : im_S} {pos dep n r h : Nat} (H : Rd K pl V m D pos dep n r h) (e1 : ∀ a j : Nat, (77 ≤ a ∧ a ≤ 79 ∨ a = 75 ∧ (j = 10 ∨ j = 77 ∨ j = 26 ∨ j = 27 ∨ j = 78 ∨ j = 3)) → E.1 a j = D.1 a j) (e2 : ∀ j, E.2.1 80 j = D.2.1 80 j) (ps : Ps K V E) : Rd K pl V m E pos dep n r h :=
  Rd_of H ⟨fun a j p q => e1 a j (Or.inl ⟨p, q⟩), e2⟩ H.2.2.1 (by rw [e1 75 10 (by omega)]; exact H.at_) (by rw [e1 75 77 (by omega)]; exact H.dep_) (by rw [e1 75 26 (by omega)]; exact H.nod) (by rw [e1 75 27 (by omega)]; exact H.row) (by rw [e1 75 78 (by omega)]; exact H.hld) (by rw [e1 75 3 (by omega)]; exact H.flt) ps
/-- the places of function f0 -/
def fnX (f0 : Nat) (i j : Nat) : Prop := (i = 75 ∧ j = 36) ∨ ((i = 97 ∨ i = 98 ∨ i = 99 ∨ i = 102) ∧ j = f0) ∨ ((i = 100 ∨ i = 101) ∧ 4 * f0 ≤ j ∧ j < 4 * f0 + 4)
theorem r_fun (hKm : K m = 0 ∨ K m = 3) {fu q s c : Nat} (hfu : 600 ≤ fu) (hq : 3 * m + 4 ≤ q) (hs : s ≤ 1) (hK0 : K 1000 = 600 * (1 - s)) (hc : c < 8) {D : im_S} {pos n r : Nat} (H : Rd K pl V m D pos 0 n r 0) (B : Bd (K 1000) m pos n r 0) (h36 : D.1 75 36 = nI c) (h37 : D.1 75 37 = nI s) :
    ∃ (k : Int32) (E : im_S), f_X11_readFunction fu D = some (k, E) ∧ ((pF K q pos).2 = none → k = 0 ∧ (pF K q pos).1 ≤ m ∧ E.1 75 3 = 1 ∧ E.1 75 4 = nI (pl (pF K q pos).1) ∧ Ps K V E) ∧
    (∀ y, (pF K q pos).2 = some y → ∃ n' r' : Nat, k = 1 ∧ Rd K pl V m E (pF K q pos).1 0 n' r' 0 ∧ pos < (pF K q pos).1 ∧ n ≤ n' ∧ r ≤ r' ∧ n' + pos ≤ n + (pF K q pos).1 ∧ r' + pos ≤ r + (pF K q pos).1 ∧ Kpt D E n r 0 ∧ E.1 75 36 = nI (c + 1) ∧ RpF K pl V E n n' r r' (.append y .nil) (8 * (1 - s) + c)) ∧
    KX (fnX (8 * (1 - s) + c)) D E := by
  have hm := H.2.1
  have hpm := H.2.2.1
  have e8 : 8 * (1 - nI s) + nI c = nI (8 * (1 - s) + c) := by
    rw [show (8 : Int32) = nI 8 from rfl, show (1 : Int32) = nI 1 from rfl, nI_sub hs, nI_mul, nI_add]
  obtain ⟨f0, hf0⟩ : ∃ f0, f0 = 8 * (1 - s) + c := ⟨_, rfl⟩
  rw [← hf0]
  have hf : f0 < 16 := by omega
  have hF0 : F0r (K 1000) f0 := ⟨1 - s, hK0, by omega, by omega⟩
  have hfb : in_b (nI f0) 16 = true := mI_in (by omega) (by omega)
  have hfc : (nI f0).toNatClampNeg = f0 := nI_clamp (by omega)
  have hin : in_b (nI pos) 502 = true := mI_in (by omega) (by omega)
  have hcp : (nI pos).toNatClampNeg = pos := nI_clamp (by omega)
  have c8 : ¬ nI c = (8 : Int32) := fun z => by have := (nI_eq (a := c) (b := 8) (by omega) (by omega)).mp z; omega
  obtain ⟨t1, t2, t3, t4, t5⟩ := H.1 pos hpm
  generalize hres : pF K q pos = res
  unfold pF pw at hres
  rw [rf_fun]
  simp only [h36, h37, e8, ← hf0, hfb, hfc, gd_t, H.at_, hin, hcp, t4, t5, if_pos (show nI c ≠ (8 : Int32) from c8)]
  have H1 : Rd K pl V m (uI (uI (uJ D 97 f0 (V pos)) 98 f0 (nI (pl pos))) 99 f0 0) pos 0 n r 0 := Rd_put (Rd_put (Rd_putJ H (by decide) (Pr_f hF0 (by omega))) (by decide) (Pr_f hF0 (by omega))) (by decide) (Pr_f hF0 (by omega))
  have kp1 : Kpt D (uI (uI (uJ D 97 f0 (V pos)) 98 f0 (nI (pl pos))) 99 f0 0) n r 0 := Kpt_x (Kpt_x (Kpt_uJ (Kpt_refl D n r 0) (by omega)) (by omega)) (by omega)
  have kx1 : KX (fnX f0) D (uI (uI (uJ D 97 f0 (V pos)) 98 f0 (nI (pl pos))) 99 f0 0) := KX_uI (Or.inr (by unfold fnX; omega)) (KX_uI (Or.inr (by unfold fnX; omega)) (KX_uJ (Or.inr (by unfold fnX; omega)) (KX_refl _ D)))
  have v97 : (uI (uI (uJ D 97 f0 (V pos)) 98 f0 (nI (pl pos))) 99 f0 0).2.1 97 f0 = V pos := by rw [uI_21, uI_21, uJ_at, if_pos rfl, if_pos rfl]
  have v98 : (uI (uI (uJ D 97 f0 (V pos)) 98 f0 (nI (pl pos))) 99 f0 0).1 98 f0 = nI (pl pos) := by rw [uI_at, if_neg (by decide), uI_at, if_pos rfl, if_pos rfl]
  have v99 : (uI (uI (uJ D 97 f0 (V pos)) 98 f0 (nI (pl pos))) 99 f0 0).1 99 f0 = nI 0 := by rw [uI_at, if_pos rfl, if_pos rfl]; rfl
  have v36 : (uI (uI (uJ D 97 f0 (V pos)) 98 f0 (nI (pl pos))) 99 f0 0).1 75 36 = nI c := by rw [uI_at, if_neg (by decide), uI_at, if_neg (by decide), uJ_1]; exact h36
  generalize uI (uI (uJ D 97 f0 (V pos)) 98 f0 (nI (pl pos))) 99 f0 0 = D1 at *
  simp only [rd_name H1, Option.bind_some]
  by_cases k1 : ¬ K pos = 1
  · rw [if_neg k1] at hres
    subst hres
    simp only [if_neg k1, ↓reduceIte]
    exact ⟨_, _, rfl, fun _ => ⟨rfl, hpm, (rf_fl H1).1, (rf_fl H1).2⟩, (fun y hy => by cases hy), rf_kx kx1⟩
  have k1 : K pos = 1 := Decidable.not_not.mp k1
  have hp := K_lt hKm hpm k1 (by decide) (by decide)
  rw [if_pos k1] at hres
  have H2 := Rd_adv H1 hp
  simp only [if_pos k1, if_neg (show ¬ (1 : Int32) = 0 by decide), show (40 : Int32) = nI 40 from rfl, show (41 : Int32) = nI 41 from rfl, rd_sign H2 40 (by decide) (by decide), Option.bind_some, rd_wantP H2]
  by_cases k40 : ¬ K (pos + 1) = 40
  · rw [if_neg k40] at hres
    subst hres
    simp only [if_neg k40, ne_eq, not_true_eq_false, ↓reduceIte]
    exact ⟨_, _, rfl, fun _ => ⟨rfl, H2.2.2.1, (rf_fl H2).1, (rf_fl H2).2⟩, (fun y hy => by cases hy), rf_kx (KX_uI (Or.inl rfl) kx1)⟩
  have k40 : K (pos + 1) = 40 := Decidable.not_not.mp k40
  have hp2 := K_lt hKm H2.2.2.1 k40 (by decide) (by decide)
  rw [if_pos k40] at hres
  have H3 := Rd_adv H2 hp2
  simp only [if_pos k40, if_pos (show (1 : Int32) ≠ 0 by decide), rd_sign H3 41 (by decide) (by decide), Option.bind_some, rd_takesP H3]
  have kp3 : Kpt D (adv (adv D1 (pos + 1)) (pos + 1 + 1)) n r 0 := Kpt_adv (Kpt_adv kp1)
  have kx3 : KX (fnX f0) D (adv (adv D1 (pos + 1)) (pos + 1 + 1)) := KX_uI (Or.inl rfl) (KX_uI (Or.inl rfl) kx1)
  have w97 : (adv (adv D1 (pos + 1)) (pos + 1 + 1)).2.1 97 f0 = V pos := v97
  have w98 : (adv (adv D1 (pos + 1)) (pos + 1 + 1)).1 98 f0 = nI (pl pos) := by unfold adv; rw [uI_at, if_neg (by decide), uI_at, if_neg (by decide)]; exact v98
  have w99 : (adv (adv D1 (pos + 1)) (pos + 1 + 1)).1 99 f0 = nI 0 := by unfold adv; rw [uI_at, if_neg (by decide), uI_at, if_neg (by decide)]; exact v99
  have w36 : (adv (adv D1 (pos + 1)) (pos + 1 + 1)).1 75 36 = nI c := by unfold adv; rw [uI_75, if_neg (by decide), uI_75, if_neg (by decide)]; exact v36
  generalize adv (adv D1 (pos + 1)) (pos + 1 + 1) = D3 at *
  by_cases k41 : K (pos + 2) = 41
  · have hp3 := K_lt hKm H3.2.2.1 k41 (by decide) (by decide)
    rw [if_pos k41] at hres
    simp only [show K (pos + 1 + 1) = 41 from k41, ↓reduceIte, if_pos (show (1 : Int32) ≠ 0 by decide)]
    have H4 := Rd_adv H3 hp3
    obtain ⟨k, E, s0, s1, s2, s3⟩ := r_tail hKm hfu hq (f0 := f0) (c := c) H4 (by unfold Bd at B ⊢; omega) hf hF0 (by unfold adv; rw [uI_75, if_neg (by decide)]; exact w36)
    have kx4 : KX (fnX f0) D E := KX_trans (Y := fun _ _ => True) (KX_uI (Or.inl rfl) kx3) (KX_wk (fun i j z => by unfold fnX; omega) s3)
    refine ⟨k, E, s0, ?_⟩
    have ep : pT K q (pos + 1 + 1 + 1) = pT K q (pos + 3) := rfl
    rw [ep] at s1 s2
    generalize hrt : pT K q (pos + 3) = rt at *
    obtain ⟨e, _ | x⟩ := rt
    · rw [pbd_none rfl] at hres
      subst hres
      obtain ⟨u0, u1, u2, u3⟩ := s1 rfl
      exact ⟨fun _ => ⟨u0, u1, u2, u3⟩, (fun y hy => by cases hy), kx4⟩
    · rw [pbd_some rfl] at hres
      subst hres
      refine ⟨(fun z => by cases z), fun y hy => ?_, kx4⟩
      cases hy
      obtain ⟨kk, n', r', z1, z2, z3, z4, z5, z6, z7, z8, z9, z10, z11⟩ := s2 x rfl
      have z3 : pos + 1 + 1 + 1 < e := z3
      have z6 : n' + (pos + 1 + 1 + 1) ≤ n + e := z6
      have z7 : r' + (pos + 1 + 1 + 1) ≤ r + e := z7
      refine ⟨n', r', z1, z2, (by show pos < e; omega), z4, z5, (by show n' + pos ≤ n + e; omega), (by show r' + pos ≤ r + e; omega), Kpt_trans (Kpt_adv kp3) z8 (Nat.le_refl _) (Nat.le_refl _) (Nat.le_refl _), z11, ⟨?_, ?_, ?_, by omega, fun i hi => by omega, kk, z9, z10⟩, trivial⟩
      · rw [(s3 97 f0 rfl (by omega)).2]; exact w97
      · rw [(s3 98 f0 rfl (by omega)).1]; unfold adv; rw [uI_at, if_neg (by decide)]; exact w98
      · rw [(s3 99 f0 rfl (by omega)).1]; unfold adv; rw [uI_at, if_neg (by decide)]; exact w99
  · rw [if_neg k41] at hres
    simp only [show ¬ K (pos + 1 + 1) = 41 from k41, ↓reduceIte, ne_eq, not_true_eq_false]
    obtain ⟨k, E, s0, s1, s2, s3⟩ := r_params hKm (c := c) hfu hq hf hF0 5 fu 0 D3 (pos + 1 + 1) n r (by omega) (by omega) (by omega) H3 (by unfold Bd at B ⊢; omega) w36 w99
    have kx4 : KX (fnX f0) D E := KX_trans (Y := fun _ _ => True) kx3 (KX_wk (fun i j z => by unfold fnX; omega) s3)
    refine ⟨k, E, s0, ?_⟩
    have ep : pL K q 5 0 (pos + 1 + 1) = pL K q 5 0 (pos + 2) := rfl
    rw [ep] at s1 s2
    generalize hrt : pL K q 5 0 (pos + 2) = rt at *
    obtain ⟨e, _ | y0⟩ := rt
    · rw [pbd_none rfl] at hres
      subst hres
      obtain ⟨u0, u1, u2, u3⟩ := s1 rfl
      exact ⟨fun _ => ⟨u0, u1, u2, u3⟩, (fun y hy => by cases hy), kx4⟩
    · rw [pbd_some rfl] at hres
      subst hres
      refine ⟨(fun z => by cases z), fun y hy => ?_, kx4⟩
      cases hy
      obtain ⟨np, x, rfl, y2, y3, y4, y5, kk, n', r', z1, z2, z3, z4, z5, z6, z7, z8, z9, z10, z11⟩ := s2 y0 rfl
      have z3 : pos + 1 + 1 < e := z3
      have z6 : n' + (pos + 1 + 1) ≤ n + e := z6
      have z7 : r' + (pos + 1 + 1) ≤ r + e := z7
      refine ⟨n', r', z1, z2, (by show pos < e; omega), z4, z5, (by show n' + pos ≤ n + e; omega), (by show r' + pos ≤ r + e; omega), Kpt_trans kp3 z8 (Nat.le_refl _) (Nat.le_refl _) (Nat.le_refl _), z11, ⟨?_, ?_, y4, y3, fun i hi => ?_, kk, z9, z10⟩, trivial⟩
      · rw [(s3 97 f0 rfl (by omega)).2]; exact w97
      · rw [(s3 98 f0 rfl (by omega)).1]; exact w98
      · have := y5 i (by omega) hi
        rw [Nat.sub_zero] at this
        exact this
theorem RpF_kp {D E : im_S} {lo hi rlo rhi lo2 hi2 rlo2 rhi2 h : Nat} (g : Kpt D E hi rhi h) (h1 : lo2 ≤ lo) (h2 : hi ≤ hi2) (h3 : rlo2 ≤ rlo) (h4 : rhi ≤ rhi2) : ∀ (t : TR) (f : Nat), (∀ i, f ≤ i → i < f + tln t → E.2.1 97 i = D.2.1 97 i ∧ E.1 98 i = D.1 98 i ∧ E.1 99 i = D.1 99 i ∧ E.1 102 i = D.1 102 i ∧ ∀ z, z < 4 → E.2.1 100 (4 * i + z) = D.2.1 100 (4 * i + z) ∧ E.1 101 (4 * i + z) = D.1 101 (4 * i + z)) → RpF K pl V D lo hi rlo rhi t f → RpF K pl V E lo2 hi2 rlo2 rhi2 t f := by
  intro t
  induction t with
  | append a b _ ih =>
    intro f hk q
    unfold RpF at q ⊢
    split at q
    · rename_i f' t1 f2 j np x r he
      cases he
      obtain ⟨⟨q1, q2, q3, q4, q5, k, q6, q7⟩, q8⟩ := q
      obtain ⟨u1, u2, u3, u4, u5⟩ := hk f' (Nat.le_refl _) (by show f' < f' + (tln b + 1); omega)
      refine ⟨⟨by rw [u1]; exact q1, by rw [u2]; exact q2, by rw [u3]; exact q3, q4, fun i hi => ?_, k, by rw [u4]; exact q6, RepD_mono (D := D) (Kpt_ag g) h1 h2 h3 h4 x 0 k ⟨fun z => by omega, fun z => by omega⟩ q7⟩, ih (f' + 1) (fun i i1 i2 => hk i (by omega) (by show i < f' + (tln b + 1); omega)) q8⟩
      rw [(u5 i (by omega)).1, (u5 i (by omega)).2]
      exact q5 i hi
    · rename_i he
      cases he
    · exact q.elim
  | nil => intro f _ _; trivial
  | line => intro f _ q; exact q.elim
  | align _ => intro f _ q; exact q.elim
  | text _ => intro f _ q; exact q.elim
  | nest _ _ _ => intro f _ q; exact q.elim
  | group _ _ _ => intro f _ q; exact q.elim
  | tag _ _ _ => intro f _ q; exact q.elim
/-- the places of functions from number f0 on -/
def fnY (f0 : Nat) (i j : Nat) : Prop := (i = 75 ∧ j = 36) ∨ ((i = 97 ∨ i = 98 ∨ i = 99 ∨ i = 102) ∧ f0 ≤ j) ∨ ((i = 100 ∨ i = 101) ∧ 4 * f0 ≤ j)
theorem r_funs (hKm : K m = 0 ∨ K m = 3) {fu q s : Nat} (hfu : 600 ≤ fu) (hq : 3 * m + 4 ≤ q) (hs : s ≤ 1) (hK0 : K 1000 = 600 * (1 - s)) : ∀ (t nf c : Nat) (D : im_S) (pos n r : Nat), c ≤ 8 → 8 < t + c → 8 < nf + c → Rd K pl V m D pos 0 n r 0 → Bd (K 1000) m pos n r 0 → D.1 75 36 = nI c → D.1 75 37 = nI s →
    ∃ (k : Int32) (E : im_S), f_X11_readProgram_L52 fu nf D = some (k, E) ∧ ((pP K q t c pos).2 = none → k = 0 ∧ (pP K q t c pos).1 ≤ m ∧ E.1 75 3 = 1 ∧ E.1 75 4 = nI (pl (pP K q t c pos).1) ∧ Ps K V E) ∧
    (∀ y, (pP K q t c pos).2 = some y → ∃ n' r' : Nat, k = 1 ∧ Rd K pl V m E (pP K q t c pos).1 0 n' r' 0 ∧ pos < (pP K q t c pos).1 ∧ n ≤ n' ∧ r ≤ r' ∧ n' + pos ≤ n + (pP K q t c pos).1 ∧ r' + pos ≤ r + (pP K q t c pos).1 ∧ Kpt D E n r 0 ∧ E.1 75 36 = nI (c + tln y) ∧ 1 ≤ tln y ∧ c + tln y ≤ 8 ∧ RpF K pl V E n n' r r' y (8 * (1 - s) + c)) ∧
    KX (fnY (8 * (1 - s) + c)) D E := by
  intro t
  induction t with
  | zero => intro nf c D pos n r h1 h2; omega
  | succ t ih =>
    intro nf c D pos n r hc ht hnf H B h36 h37
    have hm := H.2.1
    have hpm := H.2.2.1
    obtain ⟨nf, rfl⟩ : ∃ z, nf = z + 1 := ⟨nf - 1, by omega⟩
    generalize hres : pP K q (t + 1) c pos = res
    rw [pP] at hres
    rw [f_X11_readProgram_L52]
    by_cases c8 : c = 8
    · rw [if_pos c8] at hres
      subst hres
      rw [rf_fun]
      simp only [h36, if_neg (show ¬ nI c ≠ (8 : Int32) from fun z => z (by rw [c8]; rfl)), rd_refuse H, Option.bind_some, show z_b 0 = true from rfl, gd_t, ne_eq, not_true_eq_false, ↓reduceIte]
      exact ⟨_, _, rfl, fun _ => ⟨rfl, hpm, (rf_fl H).1, (rf_fl H).2⟩, (fun y hy => by cases hy), rf_kx (KX_refl _ D)⟩
    rw [if_neg c8] at hres
    obtain ⟨k, E, s0, s1, s2, s3⟩ := r_fun hKm hfu hq hs hK0 (show c < 8 by omega) H B h36 h37
    have kx1 : KX (fnY (8 * (1 - s) + c)) D E := KX_wk (fun i j z => by unfold fnX at z; unfold fnY; omega) s3
    rw [s0]
    simp only [Option.bind_some]
    generalize hrf : pF K q pos = rf at *
    obtain ⟨e, _ | y⟩ := rf
    · rw [pbd_none rfl] at hres
      subst hres
      obtain ⟨rfl, u1, u2, u3⟩ := s1 rfl
      simp only [ne_eq, not_true_eq_false, ↓reduceIte]
      exact ⟨_, _, rfl, fun _ => ⟨rfl, u1, u2, u3⟩, (fun y hy => by cases hy), kx1⟩
    rw [pbd_some rfl] at hres
    obtain ⟨n', r', rfl, z2, z3, z4, z5, z6, z7, z8, z9, z10⟩ := s2 y rfl
    have z2 : Rd K pl V m E e 0 n' r' 0 := z2
    have z3 : pos < e := z3
    have z6 : n' + pos ≤ n + e := z6
    have z7 : r' + pos ≤ r + e := z7
    have hem := z2.2.2.1
    have hin : in_b (nI e) 502 = true := mI_in (by omega) (by omega)
    have hce : (nI e).toNatClampNeg = e := nI_clamp (by omega)
    obtain ⟨t1, t2, t3, t4, t5⟩ := z2.1 e hem
    have k0 : (nI (tkK (K e)) = 0) ↔ K e = 0 := by
      constructor
      · intro w
        have := (nI_eq (a := tkK (K e)) (b := 0) (by have := tkK_lt (K e); omega) (by omega)).mp w
        unfold tkK at this
        repeat' split at this
        all_goals omega
      · intro w; rw [w]; rfl
    simp only [if_pos (show (1 : Int32) ≠ 0 by decide), z2.at_, hin, hce, gd_t, t2]
    by_cases ke : K e = 0
    · rw [if_pos ke] at hres
      subst hres
      rw [if_neg (fun w => w (k0.mpr ke))]
      refine ⟨_, _, rfl, (fun w => by cases w), fun f hf => ?_, kx1⟩
      cases hf
      exact ⟨n', r', rfl, z2, z3, z4, z5, z6, z7, z8, z9, by show 1 ≤ tln .nil + 1; omega, by show c + (tln .nil + 1) ≤ 8; show c + (0 + 1) ≤ 8; omega, z10⟩
    rw [if_neg ke] at hres
    rw [if_pos (fun w => ke (k0.mp w))]
    have h37E : E.1 75 37 = nI s := by rw [(s3 75 37 rfl (by unfold fnX; omega)).1]; exact h37
    obtain ⟨k2, G, g0, g1, g2, g3⟩ := ih nf (c + 1) E e n' r' (by omega) (by omega) (by omega) z2 (by unfold Bd at B ⊢; omega) z9 h37E
    have kx2 : KX (fnY (8 * (1 - s) + c)) D G := KX_trans (Y := fun _ _ => True) kx1 (KX_wk (fun i j z => by unfold fnY at z ⊢; omega) g3)
    refine ⟨k2, G, g0, ?_⟩
    generalize hrp : pP K q t (c + 1) e = rp at *
    obtain ⟨e2, _ | y2⟩ := rp
    · rw [pbd_none rfl] at hres
      subst hres
      obtain ⟨u0, u1, u2, u3⟩ := g1 rfl
      exact ⟨fun _ => ⟨u0, u1, u2, u3⟩, (fun y hy => by cases hy), kx2⟩
    rw [pbd_some rfl] at hres
    subst hres
    refine ⟨(fun w => by cases w), fun f hf => ?_, kx2⟩
    cases hf
    obtain ⟨n2, r2, a1, a2, a3, a4, a5, a6, a7, a8, a9, a10, a11, a12⟩ := g2 y2 rfl
    have a3 : e < e2 := a3
    have a6 : n2 + e ≤ n' + e2 := a6
    have a7 : r2 + e ≤ r' + e2 := a7
    refine ⟨n2, r2, a1, a2, (by show pos < e2; omega), by omega, by omega, (by show n2 + pos ≤ n + e2; omega), (by show r2 + pos ≤ r + e2; omega), Kpt_trans z8 a8 z4 z5 (Nat.le_refl _), ?_, by show 1 ≤ tln y2 + 1; omega, by show c + (tln y2 + 1) ≤ 8; omega, ?_⟩
    · rw [a9]; show nI (c + 1 + tln y2) = nI (c + (tln y2 + 1)); rw [show c + 1 + tln y2 = c + (tln y2 + 1) by omega]
    · have q1 := RpF_kp (lo2 := n) (hi2 := n2) (rlo2 := r) (rhi2 := r2) a8 (Nat.le_refl _) a4 (Nat.le_refl _) a5 (.append y .nil) (8 * (1 - s) + c) (fun i i1 i2 => ?_) z10
      · have q2 := RpF_kp (D := G) (E := G) (lo := n') (hi := n2) (rlo := r') (rhi := r2) (lo2 := n) (hi2 := n2) (rlo2 := r) (rhi2 := r2) (h := 0) (Kpt_refl _ _ _ _) z4 (Nat.le_refl _) z5 (Nat.le_refl _) y2 (8 * (1 - s) + (c + 1)) (fun i _ _ => ⟨rfl, rfl, rfl, rfl, fun _ _ => ⟨rfl, rfl⟩⟩) a12
        unfold RpF at q1
        split at q1
        · rename_i he
          cases he
          exact ⟨q1.1, q2⟩
        · rename_i he
          cases he
        · exact q1.elim
      · have i2 : i < 8 * (1 - s) + c + (0 + 1) := i2
        refine ⟨(g3 97 i rfl (by unfold fnY; omega)).2, (g3 98 i rfl (by unfold fnY; omega)).1, (g3 99 i rfl (by unfold fnY; omega)).1, (g3 102 i rfl (by unfold fnY; omega)).1, fun z hz => ⟨(g3 100 (4 * i + z) rfl (by unfold fnY; omega)).2, (g3 101 (4 * i + z) rfl (by unfold fnY; omega)).1⟩⟩
end RPG
