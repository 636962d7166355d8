/-! the reference reads a loop -/
section RLP
variable {K pl : Nat → Nat} {V : Nat → Int64} {m : Nat}
def HB (K pl : Nat → Nat) (V : Nat → Int64) (m : Nat) (F : KT) (R : Nat → PR) (q dep p0 most : Nat) : Prop := ∀ (D : im_S) (pos n r h : Nat), p0 ≤ pos → Rd K pl V m D pos dep n r h → Bd (K 1000) m pos n r h → ∃ (k : Int32) (E : im_S), F 4 (nI most) 0 D = some (k, E) ∧ ((pB K R q most 0 pos).2 = none → k = -1 ∧ (pB K R q most 0 pos).1 ≤ m ∧ E.1 75 3 = 1 ∧ E.1 75 4 = nI (pl (pB K R q most 0 pos).1) ∧ Ps K V E) ∧ (∀ f, (pB K R q most 0 pos).2 = some f → k = nI (tln f)) ∧ OutB K pl V m true D pos dep n r h (pB K R q most 0 pos) E
theorem RepD_loop {D : im_S} {lo hi rlo rhi j k k1 k2 i1 i2 : Nat} {fs c ns g : TR} (h1 : lo ≤ k) (h2 : k < hi) (nd : ndD K pl V D 7 j k) (e1 : D.1 89 k = nI i1) (e2 : D.1 90 k = nI (tln fs)) (e3 : D.1 83 k = nI k1) (e4 : D.1 91 k = nI i2) (e5 : D.1 92 k = nI (tln ns)) (e6 : D.1 84 k = nI k2) (r1 : RepD K pl V D lo hi rlo rhi fs 102 i1) (r2 : RepD K pl V D lo hi rlo rhi c 0 k1) (r3 : RepD K pl V D lo hi rlo rhi ns 102 i2) (r4 : RepD K pl V D lo hi rlo rhi g 0 k2) : RepD K pl V D lo hi rlo rhi (aLoop j fs c ns g) 0 k := by
  exact ⟨h1, h2, by decide, by decide, nd, ⟨i1, e1, e2, r1⟩, ⟨k1, e3, r2⟩, ⟨i2, e4, e5, r3⟩, k2, e6, r4⟩
set_option maxHeartbeats 4000000 in
theorem r_loop (hKm : K m = 0 ∨ K m = 3) {F : KT} {R : Nat → PR} {D : im_S} {q pos dep n r h : Nat} (hX : HX K pl V m F 0 R dep (pos + 1)) (hB4 : HB K pl V m F R q dep (pos + 1) 4) (hB1 : HB K pl V m F R q dep (pos + 1) 1000) (H : Rd K pl V m D pos dep n r h) (B : Bd (K 1000) m pos n r h) (hk : K pos = 9) (fu : Nat) (hfu : 600 ≤ fu) : ∃ (k : Int32) (E : im_S), f_X11_readLoop F fu D = some (k, E) ∧ Out K pl V m D pos dep n r h (pLoop K R q pos) k E := by
  have hp : pos < m := K_lt hKm H.2.2.1 hk (by decide) (by decide)
  have hm := H.2.1
  have hn : n < 1200 := by unfold Bd at B; omega
  have hb : in_b (nI n) 1200 = true := mI_in (by omega) hn
  have hcl : (nI n).toNatClampNeg = n := nI_clamp (by omega)
  have P1 := pg_new H B hp 7 (by decide) (by decide) (by decide) (by decide)
  generalize hres : pLoop K R q pos = res
  unfold pLoop at hres
  unfold f_X11_readLoop
  rw [H.at_, rd_make H hn (by omega) 7]
  simp only [Option.bind_some, mk_adv H]
  change Pg K pl V m D n r h 7 pos (adv (mkD D n r 7 (nI (pl pos)) (V pos)) (pos + 1)) (pos + 1) dep (n + 1) r at P1
  generalize adv (mkD D n r 7 (nI (pl pos)) (V pos)) (pos + 1) = D1 at *
  obtain ⟨kb, Eb, fb, ob1, ob2, ob3⟩ := hB4 D1 (pos + 1) (n + 1) r h (Nat.le_refl _) P1.1 P1.2.1.1
  generalize hpb : pB K R q 4 0 (pos + 1) = rb at *
  obtain ⟨b, _ | fs⟩ := rb
  · obtain ⟨rfl, q1, q2, q3⟩ := ob1 rfl
    rw [pbd_none rfl] at hres
    subst hres
    refine ⟨-1, Eb, ?_, Out_err q1 q2 q3⟩
    simp only [show (4 : Int32) = nI 4 from rfl, fb, Option.bind_some]
    rfl
  rw [pbd_some rfl] at hres
  have ob2' := ob2 fs rfl
  subst ob2'
  obtain ⟨E2, n2, r2, l1, P2, T2, rep2⟩ := pg_lay fu hfu rfl P1 ob3
  have hfs : tln fs < 2 ^ 31 := by
    obtain ⟨_, _, _, _, _, _, _, _, z, _, _⟩ := ob3 fs rfl
    have z : tln fs + (pos + 1) ≤ b := z
    have := P2.1.2.2.1
    omega
  simp only [show (4 : Int32) = nI 4 from rfl, fb, Option.bind_some, if_pos (nI_m1 hfs), l1, hb, hcl, gd_t]
  obtain ⟨P3, T3⟩ := pg_put (a := 89) (v := nI r2) P2 (by decide) (by decide) (by decide)
  have f89 : (uI E2 89 n (nI r2)).1 89 n = nI r2 := by rw [uI_at, if_pos rfl, if_pos rfl]
  generalize uI E2 89 n (nI r2) = D3 at *
  obtain ⟨P4, T4⟩ := pg_put (a := 90) (v := nI (tln fs)) P3 (by decide) (by decide) (by decide)
  have f90 : (uI D3 90 n (nI (tln fs))).1 90 n = nI (tln fs) := by rw [uI_at, if_pos rfl, if_pos rfl]
  generalize uI D3 90 n (nI (tln fs)) = D4 at *
  simp only [show (7 : Int32) = nI 7 from rfl, rd_word P4.1 7 (by decide) (by decide), Option.bind_some, rd_wantP P4.1]
  unfold pw at hres
  by_cases h1 : ¬ K b = 3 + 7
  · rw [if_neg (show ¬ K b = 10 by omega)] at hres
    subst hres
    refine ⟨-1, rfD pl D4 b, ?_, Out_refuse P4.1⟩
    simp only [if_neg h1]
    rfl
  have h1 : K b = 3 + 7 := Decidable.not_not.mp h1
  obtain ⟨P5, T5⟩ := pg_want hKm P4 (by decide) (by decide) h1
  rw [if_pos (show K b = 10 by omega)] at hres
  simp only [if_pos h1, if_pos (show (1 : Int32) ≠ 0 by decide)]
  generalize adv D4 (b + 1) = D5 at *
  have hbp : pos + 1 < b := P4.2.2.2.2.1 |> fun _ => by
    obtain ⟨_, _, z1, _, _, _, _, _, z, _, _⟩ := ob3 fs rfl
    have z : tln fs + (pos + 1) ≤ b := z
    omega
  rcases pg_x (a := 83) hX (by omega) P5 (by omega) with ⟨b2, E, q1, q2, q3, q4, q5⟩ | ⟨b2, x, k1, n1, r1, E, q1, q2, q3, P6, T6, f1, g1⟩
  · rw [pbd_none q1] at hres
    subst hres
    refine ⟨-1, uI E 83 n (-1), ?_, Out_err q3 q4 q5⟩
    simp only [q2, Option.bind_some, hb, hcl, gd_t, pk_us, if_pos]
  rw [pbd_some q1] at hres
  simp only [q2, Option.bind_some, hb, hcl, gd_t, pk_us, if_neg (nI_m1 (show k1 < 2 ^ 31 by omega)), rd_word P6.1 8 (by decide) (by decide), show (8 : Int32) = nI 8 from rfl, rd_wantP P6.1]
  generalize uI E 83 n (nI k1) = D6 at *
  by_cases h2 : ¬ K b2 = 3 + 8
  · rw [if_neg (show ¬ K b2 = 11 by omega)] at hres
    subst hres
    refine ⟨-1, rfD pl D6 b2, ?_, Out_refuse P6.1⟩
    simp only [if_neg h2]
    rfl
  have h2 : K b2 = 3 + 8 := Decidable.not_not.mp h2
  obtain ⟨P7, T7⟩ := pg_want hKm P6 (by decide) (by decide) h2
  rw [if_pos (show K b2 = 11 by omega)] at hres
  simp only [if_pos h2, if_pos (show (1 : Int32) ≠ 0 by decide)]
  generalize adv D6 (b2 + 1) = D7 at *
  have hb2p : pos < b2 := P6.2.2.2.2.1
  obtain ⟨kc, Ec, fc, oc1, oc2, oc3⟩ := hB1 D7 (b2 + 1) n1 r1 h (by omega) P7.1 P7.2.1.1
  generalize hpc : pB K R q 1000 0 (b2 + 1) = rc at *
  obtain ⟨b3, _ | ns⟩ := rc
  · obtain ⟨rfl, q1, q2, q3⟩ := oc1 rfl
    rw [pbd_none rfl] at hres
    subst hres
    refine ⟨-1, Ec, ?_, Out_err q1 q2 q3⟩
    simp only [show (1000 : Int32) = nI 1000 from rfl, fc, Option.bind_some]
    rfl
  rw [pbd_some rfl] at hres
  have oc2' := oc2 ns rfl
  subst oc2'
  obtain ⟨E8, n8, r8, l8, P8, T8, rep8⟩ := pg_lay fu hfu rfl P7 oc3
  have hns : tln ns < 2 ^ 31 := by
    obtain ⟨_, _, _, _, _, _, _, _, z, _, _⟩ := oc3 ns rfl
    have z : tln ns + (b2 + 1) ≤ b3 := z
    have := P8.1.2.2.1
    omega
  simp only [show (1000 : Int32) = nI 1000 from rfl, fc, Option.bind_some, if_pos (nI_m1 hns), l8, hb, hcl, gd_t]
  obtain ⟨P9, T9⟩ := pg_put (a := 91) (v := nI r8) P8 (by decide) (by decide) (by decide)
  have f91 : (uI E8 91 n (nI r8)).1 91 n = nI r8 := by rw [uI_at, if_pos rfl, if_pos rfl]
  generalize uI E8 91 n (nI r8) = D9 at *
  obtain ⟨P10, T10⟩ := pg_put (a := 92) (v := nI (tln ns)) P9 (by decide) (by decide) (by decide)
  have f92 : (uI D9 92 n (nI (tln ns))).1 92 n = nI (tln ns) := by rw [uI_at, if_pos rfl, if_pos rfl]
  generalize uI D9 92 n (nI (tln ns)) = D10 at *
  simp only [show (9 : Int32) = nI 9 from rfl, rd_word P10.1 9 (by decide) (by decide), Option.bind_some, rd_wantP P10.1]
  by_cases h3 : ¬ K b3 = 3 + 9
  · rw [if_neg (show ¬ K b3 = 12 by omega)] at hres
    subst hres
    refine ⟨-1, rfD pl D10 b3, ?_, Out_refuse P10.1⟩
    simp only [if_neg h3]
    rfl
  have h3 : K b3 = 3 + 9 := Decidable.not_not.mp h3
  obtain ⟨P11, T11⟩ := pg_want hKm P10 (by decide) (by decide) h3
  rw [if_pos (show K b3 = 12 by omega)] at hres
  simp only [if_pos h3, if_pos (show (1 : Int32) ≠ 0 by decide)]
  generalize adv D10 (b3 + 1) = D11 at *
  have hb3p : pos < b3 := P10.2.2.2.2.1
  rcases pg_x (a := 84) hX (by omega) P11 (by omega) with ⟨b4, E4, q1, q2, q3, q4, q5⟩ | ⟨b4, g, k2, n4, r4, E4, q1, q2, q3, P12, T12, f2, g2⟩
  · rw [pbd_none q1] at hres
    subst hres
    refine ⟨-1, uI E4 84 n (-1), ?_, Out_err q3 q4 q5⟩
    simp only [q2, Option.bind_some, hb, hcl, gd_t, pk_us]
    rfl
  rw [pbd_some q1] at hres
  subst hres
  refine ⟨nI n, uI E4 84 n (nI k2), ?_, pg_out P12 hn ?_⟩
  · simp only [q2, Option.bind_some, hb, hcl, gd_t, pk_us, if_pos (nI_m1 (show k2 < 2 ^ 31 by omega))]
  · have rp : ∀ f md k, (md = 0 ∨ md = 101 ∨ md = 102) → RepD K pl V D6 (n + 1) n1 r r1 f md k → RepD K pl V (uI E4 84 n (nI k2)) (n + 1) n4 r r4 f md k := fun f md k hmd z => T12.rep f md k hmd (T11.rep f md k hmd (T10.rep f md k hmd (T9.rep f md k hmd (T8.rep f md k hmd (T7.rep f md k hmd z)))))
    refine RepD_loop (Nat.le_refl _) P12.2.2.1 P12.2.2.2.2.2.2.2.2 (k1 := k1) (k2 := k2) (i1 := r2) (i2 := r8) ?_ ?_ ?_ ?_ ?_ f2 (RepD_up (.inr (.inr rfl)) (rp fs 102 r2 (.inr (.inr rfl)) (T6.rep fs 102 r2 (.inr (.inr rfl)) (T5.rep fs 102 r2 (.inr (.inr rfl)) (T4.rep fs 102 r2 (.inr (.inr rfl)) (T3.rep fs 102 r2 (.inr (.inr rfl)) rep2)))))) (RepD_up (.inl rfl) (rp x 0 k1 (.inl rfl) g1)) (RepD_up (.inr (.inr rfl)) (T12.rep ns 102 r8 (.inr (.inr rfl)) (T11.rep ns 102 r8 (.inr (.inr rfl)) (T10.rep ns 102 r8 (.inr (.inr rfl)) (T9.rep ns 102 r8 (.inr (.inr rfl)) rep8))))) (RepD_up (.inl rfl) g2)
    · rw [T12.fld 89 (by decide) (by decide) (by decide) (by decide), T11.fld 89 (by decide) (by decide) (by decide) (by decide), T10.fld 89 (by decide) (by decide) (by decide) (by decide), T9.fld 89 (by decide) (by decide) (by decide) (by decide), T8.fld 89 (by decide) (by decide) (by decide) (by decide), T7.fld 89 (by decide) (by decide) (by decide) (by decide), T6.fld 89 (by decide) (by decide) (by decide) (by decide), T5.fld 89 (by decide) (by decide) (by decide) (by decide), T4.fld 89 (by decide) (by decide) (by decide) (by decide)]
      exact f89
    · rw [T12.fld 90 (by decide) (by decide) (by decide) (by decide), T11.fld 90 (by decide) (by decide) (by decide) (by decide), T10.fld 90 (by decide) (by decide) (by decide) (by decide), T9.fld 90 (by decide) (by decide) (by decide) (by decide), T8.fld 90 (by decide) (by decide) (by decide) (by decide), T7.fld 90 (by decide) (by decide) (by decide) (by decide), T6.fld 90 (by decide) (by decide) (by decide) (by decide), T5.fld 90 (by decide) (by decide) (by decide) (by decide)]
      exact f90
    · rw [T12.fld 83 (by decide) (by decide) (by decide) (by decide), T11.fld 83 (by decide) (by decide) (by decide) (by decide), T10.fld 83 (by decide) (by decide) (by decide) (by decide), T9.fld 83 (by decide) (by decide) (by decide) (by decide), T8.fld 83 (by decide) (by decide) (by decide) (by decide), T7.fld 83 (by decide) (by decide) (by decide) (by decide)]
      exact f1
    · rw [T12.fld 91 (by decide) (by decide) (by decide) (by decide), T11.fld 91 (by decide) (by decide) (by decide) (by decide), T10.fld 91 (by decide) (by decide) (by decide) (by decide)]
      exact f91
    · rw [T12.fld 92 (by decide) (by decide) (by decide) (by decide), T11.fld 92 (by decide) (by decide) (by decide) (by decide)]
      exact f92
end RLP
