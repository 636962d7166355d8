/-! the reference reads let and tab -/
section RLT
variable {K pl : Nat → Nat} {V : Nat → Int64} {m : Nat}
theorem uJ_at1 (S : im_S) (i k : Nat) (v : Int64) : (uJ S i k v).1 = S.1 := rfl
theorem pg_letmk {D : im_S} {pos dep n r h : Nat} (H : Rd K pl V m D pos dep n r h) (B : Bd (K 1000) m pos n r h) (hp : pos + 1 < m) : Pg K pl V m D n r h 5 pos (uI (uJ (adv (adv (mkD D n r 5 (nI (pl pos)) (V pos)) (pos + 1)) (pos + 1 + 1)) 87 n (V (pos + 1))) 86 n (nI (pl (pos + 1)))) (pos + 1 + 1) dep (n + 1) r := by
  have hn0 := Bd_n B H.2.2.1
  have H2 := Rd_adv (Rd_mk H (by omega) hn0 5 (nI (pl pos)) (V pos)) hp
  have kp2 : Kpt D (adv (adv (mkD D n r 5 (nI (pl pos)) (V pos)) (pos + 1)) (pos + 1 + 1)) n r h := Kpt_adv (Kpt_adv (mk_kp n r h 5 (nI (pl pos)) (V pos)))
  obtain ⟨a1, a2, -, -, -⟩ := mk_f (D := D) n r 5 (nI (pl pos)) (V pos)
  refine ⟨Rd_put (Rd_putJ H2 (by decide) (Pr_n (by omega) hn0)) (by decide) (Pr_n (by omega) hn0), ⟨by unfold Bd at B ⊢; omega, hn0.1⟩, by omega, Nat.le_refl _, by omega, by omega, by omega, Kpt_uI (Kpt_uJ kp2 (Or.inl ⟨rfl, Nat.le_refl _⟩)) (Or.inr (Or.inl ⟨by decide, Nat.le_refl _⟩)), ?_⟩
  refine ⟨?_, fun _ _ => ?_, fun q => by omega, fun q => by omega, fun _ => ⟨?_, ?_⟩, fun q => by omega⟩
  · rw [uI_at, if_neg (by decide), uJ_at1]; unfold adv; rw [uI_at, if_neg (by decide), uI_at, if_neg (by decide)]; exact a1
  · rw [uI_at, if_neg (by decide), uJ_at1]; unfold adv; rw [uI_at, if_neg (by decide), uI_at, if_neg (by decide)]; exact a2
  · rw [uI_21, uJ_at, if_pos rfl, if_pos rfl]
  · rw [uI_at, if_pos rfl, if_pos rfl]
set_option maxHeartbeats 4000000 in
theorem r_let (hKm : K m = 0 ∨ K m = 3) {F : KT} {R : Nat → PR} {D : im_S} {pos dep n r h : Nat} (hX : HX K pl V m F 0 R dep (pos + 1)) (H : Rd K pl V m D pos dep n r h) (B : Bd (K 1000) m pos n r h) (hk : K pos = 4) (fu : Nat) : ∃ (k : Int32) (E : im_S), f_X11_readLet F fu D = some (k, E) ∧ Out K pl V m D pos dep n r h (pLet K R pos) k E := by
  have hp : pos < m := K_lt hKm H.2.2.1 hk (by decide) (by decide)
  have hm := H.2.1
  have hn : n < 1200 := by unfold Bd at B; omega
  have hb : in_b (nI n) 1200 = true := mI_in (by omega) hn
  have hcl : (nI n).toNatClampNeg = n := nI_clamp (by omega)
  have H1 := Rd_mk H hp (Bd_n B H.2.2.1) 5 (nI (pl pos)) (V pos)
  unfold f_X11_readLet
  rw [H.at_, rd_make H hn (by omega) 5]
  simp only [Option.bind_some, mk_adv H, rd_name H1]
  unfold pLet pw
  by_cases h1 : ¬ K (pos + 1) = 1
  · refine ⟨-1, rfD pl (adv (mkD D n r 5 (nI (pl pos)) (V pos)) (pos + 1)) (pos + 1), ?_, ?_⟩
    · simp only [if_neg h1]
      rfl
    · rw [if_neg h1]; exact Out_refuse H1
  have h1 : K (pos + 1) = 1 := Decidable.not_not.mp h1
  have hp1 : pos + 1 < m := K_lt hKm (by omega) h1 (by decide) (by decide)
  have H2 := Rd_adv H1 hp1
  obtain ⟨-, -, -, t79, t80⟩ := H2.1 (pos + 1) (by omega)
  have P2 := pg_letmk H B hp1
  rw [if_pos h1]
  have hin : in_b (nI (pos + 1)) 502 = true := mI_in (by omega) (by omega)
  have hcp : (nI (pos + 1)).toNatClampNeg = pos + 1 := nI_clamp (by omega)
  have hat : (adv (adv (mkD D n r 5 (nI (pl pos)) (V pos)) (pos + 1)) (pos + 1 + 1)).1 75 10 - 1 = nI (pos + 1) := by
    rw [H2.at_]; exact mI_pred (pos + 1)
  simp only [if_pos h1, if_pos (show (1 : Int32) ≠ 0 by decide), hat, hin, hcp, gd_t, hb, hcl, t79, t80, show (61 : Int32) = nI 61 from rfl, rd_sign P2.1 61 (by decide) (by decide), Option.bind_some, rd_wantP P2.1]
  generalize uI (uJ (adv (adv (mkD D n r 5 (nI (pl pos)) (V pos)) (pos + 1)) (pos + 1 + 1)) 87 n (V (pos + 1))) 86 n (nI (pl (pos + 1))) = D2 at *
  by_cases h2 : ¬ K (pos + 1 + 1) = 61
  · refine ⟨-1, rfD pl D2 (pos + 1 + 1), ?_, ?_⟩
    · simp only [if_neg h2]
      rfl
    · rw [if_neg h2]; exact Out_refuse P2.1
  have h2 : K (pos + 1 + 1) = 61 := Decidable.not_not.mp h2
  obtain ⟨P3, T3⟩ := pg_want hKm P2 (by decide) (by decide) h2
  rw [if_pos (show K (pos + 2) = 61 from h2)]
  simp only [if_pos h2]
  generalize adv D2 (pos + 1 + 1 + 1) = D3 at *
  rcases pg_x (a := 83) hX (by omega) P3 (by omega) with ⟨b, E, q1, q2, q3, q4, q5⟩ | ⟨b, x, k1, n1, r1, E, q1, q2, q3, P4, T4, f1, g1⟩
  · rw [pbd_none (show R (pos + 3) = (b, none) from q1)]
    refine ⟨-1, uI E 83 n (-1), ?_, Out_err q3 q4 q5⟩
    simp only [q2, Option.bind_some, hb, hcl, gd_t, pk_us, if_pos]
    rfl
  rw [pbd_some (show R (pos + 3) = (b, some x) from q1)]
  simp only [q2, Option.bind_some, hb, hcl, gd_t, pk_us, if_neg (nI_m1 (show k1 < 2 ^ 31 by omega)), rd_word P4.1 2 (by decide) (by decide), show (2 : Int32) = nI 2 from rfl, rd_wantP P4.1]
  generalize uI E 83 n (nI k1) = D4 at *
  by_cases h5 : ¬ K b = 3 + 2
  · refine ⟨-1, rfD pl D4 b, ?_, ?_⟩
    · simp only [if_neg h5]
      rfl
    · rw [if_neg (by omega)]; exact Out_refuse P4.1
  have h5 : K b = 3 + 2 := Decidable.not_not.mp h5
  obtain ⟨P5, T5⟩ := pg_want hKm P4 (by decide) (by decide) h5
  rw [if_pos (show K b = 5 by omega)]
  simp only [if_pos h5]
  generalize adv D4 (b + 1) = D5 at *
  rcases pg_x (a := 84) hX (by have := P4.2.2.2.2.1; omega) P5 (by omega) with ⟨b2, E2, q1, q2, q3, q4, q5⟩ | ⟨b2, y, k2, n2, r2, E2, q1, q2, q3, P6, T6, f2, g2⟩
  · rw [pbd_none q1]
    refine ⟨-1, uI E2 84 n (-1), ?_, Out_err q3 q4 q5⟩
    simp only [q2, Option.bind_some, hb, hcl, gd_t, pk_us]
    rfl
  rw [pbd_some q1]
  refine ⟨nI n, uI E2 84 n (nI k2), ?_, pg_out P6 hn ?_⟩
  · simp only [q2, Option.bind_some, hb, hcl, gd_t, pk_us, if_pos (nI_m1 (show k2 < 2 ^ 31 by omega))]
    rfl
  · refine RepD_let (Nat.le_refl _) P6.2.2.1 P6.2.2.2.2.2.2.2.2 (k1 := k1) (k2 := k2) ?_ f2 (RepD_up (.inl rfl) (T6.rep x 0 k1 (.inl rfl) (T5.rep x 0 k1 (.inl rfl) g1))) (RepD_up (.inl rfl) g2)
    rw [T6.fld 83 (by decide) (by decide) (by decide) (by decide), T5.fld 83 (by decide) (by decide) (by decide) (by decide)]
    exact f1
/-! rows -/
def arD (D : im_S) (r : Nat) (v : Int64) (p x : Int32) : im_S := uI (uI (uI (uJ D 93 r v) 94 r p) 95 r x) 75 27 (nI (r + 1))
theorem rd_addRow {D : im_S} {pos dep n r h : Nat} (H : Rd K pl V m D pos dep n r h) (hr : r < 1200) {j : Nat} (hj : j ≤ m) (x : Int32) : f_X11_addRow (nI j) x D = some ((), arD D r (V j) (nI (pl j)) x) := by
  obtain ⟨-, -, -, a4, a5⟩ := H.1 j hj
  have hm := H.2.1
  unfold f_X11_addRow
  rw [H.row, mI_in (a := r) (n := 1200) (by omega) hr, mI_in (a := j) (n := 502) (by omega) (by omega), nI_clamp (show r < 2 ^ 31 by omega), nI_clamp (show j < 2 ^ 31 by omega), a4, a5, show nI r + 1 = nI (r + 1) from nI_add r 1]
  rfl
theorem ar_75 (D : im_S) (r : Nat) (v : Int64) (p x : Int32) (k : Nat) : (arD D r v p x).1 75 k = if k = 27 then nI (r + 1) else D.1 75 k := by
  unfold arD
  simp [uI_at, uJ_1]
theorem Rd_ar {D : im_S} {pos dep n r h : Nat} (H : Rd K pl V m D pos dep n r h) (hr0 : K 1000 ≤ r ∧ r < K 1000 + 600) (v : Int64) (p x : Int32) : Rd K pl V m (arD D r v p x) pos dep n (r + 1) h := by
  refine Rd_of H ?_ H.2.2.1 ?_ ?_ ?_ ?_ ?_ ?_ (by unfold arD; exact Ps_uI (Ps_uI (Ps_uI (Ps_uJ H.ps (Pr_n (by omega) hr0)) (Pr_n (by omega) hr0)) (Pr_n (by omega) hr0)) (Pr_o (by omega)))
  · unfold arD
    exact TkE_uI (TkE_uI (TkE_uI (TkE_uJ (TkE_refl D) (by decide)) (by omega)) (by omega)) (by omega)
  · rw [ar_75, if_neg (by decide)]; exact H.at_
  · rw [ar_75, if_neg (by decide)]; exact H.dep_
  · rw [ar_75, if_neg (by decide)]; exact H.nod
  · rw [ar_75, if_pos rfl]
  · rw [ar_75, if_neg (by decide)]; exact H.hld
  · rw [ar_75, if_neg (by decide)]; exact H.flt
theorem ar_kp (D : im_S) (n r h : Nat) (v : Int64) (p x : Int32) : Kpt D (arD D r v p x) n r h := by
  unfold arD
  exact Kpt_uI (Kpt_uI (Kpt_uI (Kpt_uJ (Kpt_refl D n r h) (Or.inr (Or.inl ⟨rfl, Nat.le_refl _⟩))) (Or.inr (Or.inr (Or.inl ⟨Or.inl rfl, Nat.le_refl _⟩)))) (Or.inr (Or.inr (Or.inl ⟨Or.inr rfl, Nat.le_refl _⟩)))) (Or.inl (Or.inl (by decide)))
theorem ar_f (D : im_S) (r : Nat) (v : Int64) (p x : Int32) : (arD D r v p x).2.1 93 r = v ∧ (arD D r v p x).1 94 r = p ∧ (arD D r v p x).1 95 r = x := by
  unfold arD
  simp [uI_at, uI_21, uJ_at]
theorem RepD_tab {D : im_S} {lo hi rlo rhi j k k1 k2 i : Nat} {x y : TR} (h1 : lo ≤ k) (h2 : k < hi) (nd : ndD K pl V D 11 j k) (e1 : D.1 83 k = nI k1) (e2 : D.1 84 k = nI k2) (e3 : D.1 89 k = nI i) (i1 : rlo ≤ i) (i2 : i + 1 < rhi) (a1 : D.2.1 93 i = V (j + 1)) (a2 : D.1 94 i = nI (pl (j + 1))) (a3 : D.2.1 93 (i + 1) = V (j + 3)) (a4 : D.1 94 (i + 1) = nI (pl (j + 3))) (r1 : RepD K pl V D lo hi rlo rhi x 0 k1) (r2 : RepD K pl V D lo hi rlo rhi y 0 k2) : RepD K pl V D lo hi rlo rhi (aTab j x y) 0 k := by
  unfold aTab
  simp only [RepD]
  simp
  exact ⟨h1, h2, nd, ⟨i, e3, i1, i2, a1, a2, a3, a4⟩, k1, e1, k2, e2, r1, r2⟩
theorem pg_put {D0 D : im_S} {n0 r0 h c j pos dep n r a : Nat} {v : Int32} (P : Pg K pl V m D0 n0 r0 h c j D pos dep n r) (ha : 83 ≤ a) (ha2 : a ≤ 92) (h6 : a ≠ 86) : Pg K pl V m D0 n0 r0 h c j (uI D a n0 v) pos dep n r ∧ Tr K pl V n0 r0 D n r (uI D a n0 v) n r a := by
  obtain ⟨H, ⟨B, hl⟩, a1, a2, a3, a4, a5, kp, nd⟩ := P
  refine ⟨⟨Rd_put H (by omega) (Pr_n (by omega) ⟨hl, by have := Bd_n B H.2.2.1; omega⟩), ⟨B, hl⟩, a1, a2, a3, a4, a5, Kpt_uI kp (Or.inr (Or.inl ⟨ha2, Nat.le_refl _⟩)), ndD_uI ⟨by omega, by omega, h6⟩ nd⟩, fun c c1 c2 _ c3 => ?_, fun i _ => ?_, Nat.le_refl _, Nat.le_refl _, fun f md k hmd rep => ?_⟩
  · rw [uI_at, if_neg c3]
  · rw [uI_at, uI_at, if_neg (by omega), if_neg (by omega)]; exact ⟨rfl, rfl, rfl⟩
  · refine RepD_mono (D := D) (E := uI D a n0 v) ⟨fun b i q1 q2 q3 q4 => ?_, fun i _ _ => rfl, fun i _ _ => ?_⟩ (Nat.le_refl _) (Nat.le_refl _) (Nat.le_refl _) (Nat.le_refl _) f md k ⟨fun q q2 => by omega, fun q => by omega⟩ rep
    · rw [uI_at]
      by_cases e : b = a
      · rw [if_pos e, if_neg (by omega)]
      · rw [if_neg e]
    · rw [uI_at, uI_at, if_neg (by omega), if_neg (by omega)]; exact ⟨rfl, rfl, rfl⟩
theorem pg_ar {D0 D : im_S} {n0 r0 h c j pos dep n r : Nat} {v : Int64} {p x : Int32} (P : Pg K pl V m D0 n0 r0 h c j D pos dep n r) (hr : r + 1 + j + 1 ≤ r0 + pos) (hB : Bd (K 1000) m pos n (r + 1) h) : Pg K pl V m D0 n0 r0 h c j (arD D r v p x) pos dep n (r + 1) ∧ Tr K pl V n0 r0 D n r (arD D r v p x) n (r + 1) 0 := by
  obtain ⟨H, ⟨B, hl⟩, a1, a2, a3, a4, a5, kp, nd⟩ := P
  have k2 := ar_kp D n r h v p x
  refine ⟨⟨Rd_ar H (Bd_r B H.2.2.1) v p x, ⟨hB, hl⟩, a1, by omega, a3, a4, hr, Kpt_trans kp k2 (by omega) (by omega) (Nat.le_refl _), ndD_kp k2 a1 nd⟩, fun c c1 c2 _ _ => k2.1 c n0 (by omega) c2 a1, fun i hi => k2.2.2.1 i hi, Nat.le_refl _, Nat.le_succ _, fun f md k hmd rep => ?_⟩
  exact RepD_mono (D := D) (Kpt_ag k2) (Nat.le_refl _) (Nat.le_refl _) (Nat.le_refl _) (by omega) f md k ⟨fun q q2 => by omega, fun q => by omega⟩ rep
set_option maxHeartbeats 4000000 in
theorem r_tab (hKm : K m = 0 ∨ K m = 3) {F : KT} {R R1 : Nat → PR} {D : im_S} {pos dep n r h : Nat} (hX : HX K pl V m F 0 R dep (pos + 3)) (hW : HX K pl V m F 1 R1 dep (pos + 1)) (H : Rd K pl V m D pos dep n r h) (B : Bd (K 1000) m pos n r h) (hk : K pos = 13) (fu : Nat) : ∃ (k : Int32) (E : im_S), f_X11_readTable F fu D = some (k, E) ∧ Out K pl V m D pos dep n r h (pTab K R R1 pos) k E := by
  have hp : pos < m := K_lt hKm H.2.2.1 hk (by decide) (by decide)
  have hm := H.2.1
  have hn : n < 1200 := by unfold Bd at B; omega
  have hb : in_b (nI n) 1200 = true := mI_in (by omega) hn
  have hcl : (nI n).toNatClampNeg = n := nI_clamp (by omega)
  have P1 := pg_new H B hp 11 (by decide) (by decide) (by decide) (by decide)
  have hm1 : (mkD D n r 11 (nI (pl pos)) (V pos)).1 75 10 + 1 = nI (pos + 1) := by
    rw [mk_75, if_neg (by decide), H.at_]; exact nI_add pos 1
  unfold f_X11_readTable
  rw [H.at_, rd_make H hn (by omega) 11]
  simp only [Option.bind_some, mk_adv H]
  simp only [hm1]
  change Pg K pl V m D n r h 11 pos (adv (mkD D n r 11 (nI (pl pos)) (V pos)) (pos + 1)) (pos + 1) dep (n + 1) r at P1
  generalize adv (mkD D n r 11 (nI (pl pos)) (V pos)) (pos + 1) = D1 at *
  unfold pTab pw
  by_cases h1 : ¬ K (pos + 1) = 1
  · refine ⟨-1, rfD pl D1 (pos + 1), ?_, ?_⟩
    · simp only [rd_name P1.1, Option.bind_some, if_neg h1]
      rfl
    · rw [if_neg h1]; exact Out_refuse P1.1
  have h1 : K (pos + 1) = 1 := Decidable.not_not.mp h1
  obtain ⟨P2, T2⟩ := pg_want hKm P1 (by decide) (by decide) h1
  rw [if_pos h1]
  simp only [rd_name P1.1, Option.bind_some, if_pos h1, if_neg (show ¬ (1 : Int32) = 0 by decide), show (91 : Int32) = nI 91 from rfl, rd_sign P2.1 91 (by decide) (by decide), rd_wantP P2.1]
  generalize adv D1 (pos + 1 + 1) = D2 at *
  by_cases h2 : ¬ K (pos + 1 + 1) = 91
  · refine ⟨-1, rfD pl D2 (pos + 1 + 1), ?_, ?_⟩
    · simp only [if_neg h2]
      rfl
    · rw [if_neg h2]; exact Out_refuse P2.1
  have h2 : K (pos + 1 + 1) = 91 := Decidable.not_not.mp h2
  obtain ⟨P3, T3⟩ := pg_want hKm P2 (by decide) (by decide) h2
  rw [if_pos (show K (pos + 2) = 91 from h2)]
  have a3 : (adv D2 (pos + 1 + 1 + 1)).1 75 10 = nI (pos + 3) := P3.1.at_
  simp only [if_pos h2, if_pos (show (1 : Int32) ≠ 0 by decide), a3, rd_name P3.1, Option.bind_some]
  generalize adv D2 (pos + 1 + 1 + 1) = D3 at *
  by_cases h3 : ¬ K (pos + 1 + 1 + 1) = 1
  · refine ⟨-1, rfD pl D3 (pos + 1 + 1 + 1), ?_, ?_⟩
    · simp only [if_neg h3]
      rfl
    · rw [if_neg h3]; exact Out_refuse P3.1
  have h3 : K (pos + 1 + 1 + 1) = 1 := Decidable.not_not.mp h3
  obtain ⟨P4, T4⟩ := pg_want hKm P3 (by decide) (by decide) h3
  rw [if_pos (show K (pos + 3) = 1 from h3)]
  simp only [if_pos h3, if_neg (show ¬ (1 : Int32) = 0 by decide), show (60 : Int32) = nI 60 from rfl, rd_sign P4.1 60 (by decide) (by decide), Option.bind_some, rd_wantP P4.1]
  generalize adv D3 (pos + 1 + 1 + 1 + 1) = D4 at *
  by_cases h4 : ¬ K (pos + 1 + 1 + 1 + 1) = 60
  · refine ⟨-1, rfD pl D4 (pos + 1 + 1 + 1 + 1), ?_, ?_⟩
    · simp only [if_neg h4]
      rfl
    · rw [if_neg h4]; exact Out_refuse P4.1
  have h4 : K (pos + 1 + 1 + 1 + 1) = 60 := Decidable.not_not.mp h4
  obtain ⟨P5, T5⟩ := pg_want hKm P4 (by decide) (by decide) h4
  rw [if_pos (show K (pos + 4) = 60 from h4)]
  have a5 : (adv D4 (pos + 1 + 1 + 1 + 1 + 1)).1 75 27 = nI r := P5.1.row
  simp only [if_pos h4, if_pos (show (1 : Int32) ≠ 0 by decide), a5, hb, hcl, gd_t]
  generalize adv D4 (pos + 1 + 1 + 1 + 1 + 1) = D5 at *
  obtain ⟨P6, T6⟩ := pg_put (a := 89) (v := nI r) P5 (by decide) (by decide) (by decide)
  have f89 : (uI D5 89 n (nI r)).1 89 n = nI r := by rw [uI_at, if_pos rfl, if_pos rfl]
  generalize uI D5 89 n (nI r) = D6 at *
  obtain ⟨P7, T7⟩ := pg_put (a := 90) (v := 2) P6 (by decide) (by decide) (by decide)
  generalize uI D6 90 n 2 = D7 at *
  have hr1 : r < 1200 := by unfold Bd at B; omega
  have hp5 : pos + 5 ≤ m := P5.1.2.2.1
  obtain ⟨P8, T8⟩ := pg_ar (v := V (pos + 1)) (p := nI (pl (pos + 1))) (x := -1) P7 (by omega) (by unfold Bd at B ⊢; omega)
  obtain ⟨u1, u2, -⟩ := ar_f D7 r (V (pos + 1)) (nI (pl (pos + 1))) (-1)
  rw [rd_addRow P7.1 hr1 (show pos + 1 ≤ m by omega)]
  simp only [Option.bind_some]
  generalize arD D7 r (V (pos + 1)) (nI (pl (pos + 1))) (-1) = D8 at *
  obtain ⟨P9, T9⟩ := pg_ar (v := V (pos + 3)) (p := nI (pl (pos + 3))) (x := -1) P8 (by omega) (by unfold Bd at B ⊢; omega)
  obtain ⟨u3, u4, -⟩ := ar_f D8 (r + 1) (V (pos + 3)) (nI (pl (pos + 3))) (-1)
  have hr2 : r + 1 < 1200 := by unfold Bd at B; omega
  rw [rd_addRow P8.1 hr2 (show pos + 3 ≤ m by omega)]
  simp only [Option.bind_some]
  generalize arD D8 (r + 1) (V (pos + 3)) (nI (pl (pos + 3))) (-1) = D9 at *
  rcases pg_x (a := 83) hW (by omega) P9 (by omega) with ⟨b, E, q1, q2, q3, q4, q5⟩ | ⟨b, x, k1, n1, r1, E, q1, q2, q3, P10, T10, f1, g1⟩
  · rw [pbd_none (show R1 (pos + 5) = (b, none) from q1)]
    refine ⟨-1, uI E 83 n (-1), ?_, Out_err q3 q4 q5⟩
    simp only [q2, Option.bind_some, hb, hcl, gd_t, pk_us, if_pos]
  rw [pbd_some (show R1 (pos + 5) = (b, some x) from q1)]
  simp only [q2, Option.bind_some, hb, hcl, gd_t, pk_us, if_neg (nI_m1 (show k1 < 2 ^ 31 by omega)), show (93 : Int32) = nI 93 from rfl, rd_sign P10.1 93 (by decide) (by decide), rd_wantP P10.1]
  generalize uI E 83 n (nI k1) = D10 at *
  by_cases h5 : ¬ K b = 93
  · refine ⟨-1, rfD pl D10 b, ?_, ?_⟩
    · simp only [if_neg h5]
      rfl
    · rw [if_neg h5]; exact Out_refuse P10.1
  have h5 : K b = 93 := Decidable.not_not.mp h5
  obtain ⟨P11, T11⟩ := pg_want hKm P10 (by decide) (by decide) h5
  rw [if_pos h5]
  simp only [if_pos h5, if_neg (show ¬ (1 : Int32) = 0 by decide), show (11 : Int32) = nI 11 from rfl, rd_word P11.1 11 (by decide) (by decide), Option.bind_some, rd_wantP P11.1]
  generalize adv D10 (b + 1) = D11 at *
  by_cases h6 : ¬ K (b + 1) = 3 + 11
  · refine ⟨-1, rfD pl D11 (b + 1), ?_, ?_⟩
    · simp only [if_neg h6]
      rfl
    · rw [if_neg (by omega)]; exact Out_refuse P11.1
  have h6 : K (b + 1) = 3 + 11 := Decidable.not_not.mp h6
  obtain ⟨P12, T12⟩ := pg_want hKm P11 (by decide) (by decide) h6
  rw [if_pos (show K (b + 1) = 14 by omega)]
  simp only [if_pos h6, if_pos (show (1 : Int32) ≠ 0 by decide)]
  generalize adv D11 (b + 1 + 1) = D12 at *
  rcases pg_x (a := 84) hX (by have := P10.2.2.2.2.1; omega) P12 (by omega) with ⟨b2, E2, q1, q2, q3, q4, q5⟩ | ⟨b2, y, k2, n2, r2, E2, q1, q2, q3, P13, T13, f2, g2⟩
  · rw [pbd_none (show R (b + 2) = (b2, none) from q1)]
    refine ⟨-1, uI E2 84 n (-1), ?_, Out_err q3 q4 q5⟩
    simp only [q2, Option.bind_some, hb, hcl, gd_t, pk_us]
    rfl
  rw [pbd_some (show R (b + 2) = (b2, some y) from q1)]
  refine ⟨nI n, uI E2 84 n (nI k2), ?_, pg_out P13 hn ?_⟩
  · simp only [q2, Option.bind_some, hb, hcl, gd_t, pk_us, if_pos (nI_m1 (show k2 < 2 ^ 31 by omega))]
  · have e10 := T10.rr
    have e13 := T13.rr
    have e11 := T11.rr
    have e12 := T12.rr
    refine RepD_tab (Nat.le_refl _) P13.2.2.1 P13.2.2.2.2.2.2.2.2 (k1 := k1) (k2 := k2) (i := r) ?_ f2 ?_ (Nat.le_refl _) (by omega) ?_ ?_ ?_ ?_ (RepD_up (.inl rfl) (T13.rep x 0 k1 (.inl rfl) (T12.rep x 0 k1 (.inl rfl) (T11.rep x 0 k1 (.inl rfl) g1)))) (RepD_up (.inl rfl) g2)
    · rw [T13.fld 83 (by decide) (by decide) (by decide) (by decide), T12.fld 83 (by decide) (by decide) (by decide) (by decide), T11.fld 83 (by decide) (by decide) (by decide) (by decide)]
      exact f1
    · rw [T13.fld 89 (by decide) (by decide) (by decide) (by decide), T12.fld 89 (by decide) (by decide) (by decide) (by decide), T11.fld 89 (by decide) (by decide) (by decide) (by decide), T10.fld 89 (by decide) (by decide) (by decide) (by decide), T9.fld 89 (by decide) (by decide) (by decide) (by decide), T8.fld 89 (by decide) (by decide) (by decide) (by decide), T7.fld 89 (by decide) (by decide) (by decide) (by decide)]
      exact f89
    · rw [(T13.rws r (by omega)).2.2, (T12.rws r (by omega)).2.2, (T11.rws r (by omega)).2.2, (T10.rws r (by omega)).2.2, (T9.rws r (by omega)).2.2]
      exact u1
    · rw [(T13.rws r (by omega)).1, (T12.rws r (by omega)).1, (T11.rws r (by omega)).1, (T10.rws r (by omega)).1, (T9.rws r (by omega)).1]
      exact u2
    · rw [(T13.rws (r + 1) (by omega)).2.2, (T12.rws (r + 1) (by omega)).2.2, (T11.rws (r + 1) (by omega)).2.2, (T10.rws (r + 1) (by omega)).2.2]
      exact u3
    · rw [(T13.rws (r + 1) (by omega)).1, (T12.rws (r + 1) (by omega)).1, (T11.rws (r + 1) (by omega)).1, (T10.rws (r + 1) (by omega)).1]
      exact u4
end RLT
