/-! the law's steps: start -/
section STT
variable {fu : Nat} {c : Nat → Int32} {S S' : im_S}
theorem bl_qve (fu : Nat) : ∀ (nf : Nat) (y0 : Int32) (y1 : Int32) (y2 : Int32) (y3 : Int32) (y4 : Int32) (S : im_S), Veh (f_X5_begin_L90 fu nf y0 y1 y2 y3 y4 S) S := by
  intro nf
  induction nf with
  | zero => intro y0 y1 y2 y3 y4 S; exact Veh_none _
  | succ nf ih =>
    intro y0 y1 y2 y3 y4 S
    unfold f_X5_begin_L90
    repeat' first | with_reducible exact Veh_none _ | with_reducible refine Veh_gd ?_ | with_reducible refine Veh_ite ?_ ?_ | with_reducible refine Veh_bind ?_ (fun q => ?_) | with_reducible refine Veh_some ?_ | with_reducible exact Veq_refl _ | with_reducible refine Veh_of (f_X5_enter_qve _ _ _ _) ?_ | with_reducible refine Veh_of (f_X5_flow_qve _ _) ?_ | with_reducible refine Veh_of (f_X5_slotOf_qve _ _ _) ?_ | with_reducible refine Veh_of (f_X8_put_qve _ _ _ _) ?_ | with_reducible refine Veh_of (ih _ _ _ _ _ _) ?_
theorem bg_38 {x1 : Int32} {r : Unit} (h : f_X5_begin fu x1 S = some (r, S')) : S'.1 38 2 = 0 ∧ S'.1 38 9 = 1 := by
  obtain ⟨S0, hS0⟩ : ∃ S0, S0 = uI (uI (uI (uI (uI (uI (uI (uI (uI (uI S 38 9 1) 38 2 0) 38 3 0) 38 8 0) 38 10 0) 38 11 0) 64 2 0) 67 4 0) 72 2 1) 72 3 0 := ⟨_, rfl⟩
  have e1 : f_X5_begin fu x1 S = gd (in_b x1 8) ((f_X5_openFrame fu ((S0.1 58) x1.toNatClampNeg) (-1) (-1) S0).bind (fun qS10 => gd (in_b x1 8) (f_X5_begin_L90 fu fu x1 ((S0.1 58) x1.toNatClampNeg) qS10.1 ((qS10.2.1 59) x1.toNatClampNeg) 0 qS10.2))) := by
    rw [hS0]
    rfl
  rw [e1] at h
  obtain ⟨q, hq, hb⟩ := bd_some (gd_some h).2
  have k1 := f_X5_openFrame_qve fu _ _ _ S0 q.1 q.2 hq
  have k2 := bl_qve fu fu _ _ _ _ _ q.2 r S' (gd_some hb).2
  have k3 := Veq_trans k1 k2
  refine ⟨k3.1.trans ?_, k3.2.trans ?_⟩
  · rw [hS0, uI_ne (by omega), uI_ne (by omega), uI_ne (by omega), uI_ne (by omega), uI_ne (by omega), uI_ne (by omega), uI_ne (by omega), uI_ne (by omega), uI_eq]
  · rw [hS0, uI_ne (by omega), uI_ne (by omega), uI_ne (by omega), uI_ne (by omega), uI_ne (by omega), uI_ne (by omega), uI_ne (by omega), uI_ne (by omega), uI_ne (by omega), uI_eq]
theorem kM_in {a : Nat} (h : a ≤ 37 ∨ (40 ≤ a ∧ a ≤ 63) ∨ 75 ≤ a) : kM a = true := by
  unfold kM
  rcases h with h | h | h
  · rw [Nat.ble_eq_true_of_le h, Bool.true_or]
  · rw [Nat.ble_eq_true_of_le h.1, Nat.ble_eq_true_of_le h.2, Bool.true_and, Bool.true_or, Bool.or_true]
  · rw [Nat.ble_eq_true_of_le h, Bool.or_true, Bool.or_true]
set_option maxHeartbeats 4000000 in
theorem start_gd (hfu : 1569793 ≤ fu) (h : LwI S) (x1 : Int32) (v0 v1 v2 v3 : Int64) : ∃ (r : Int32) (S1 S2 : im_S), f_X10_start fu x1 v0 v1 v2 v3 S = some (r, S1) ∧ f_X11_start fu x1 v0 v1 v2 v3 S1 = some (r, S2) ∧ gP S1 = gP S2 ∧ LwI S2 := by
  have hth := lwi_th h 0
  obtain ⟨⟨hT, ⟨s, s1, s2⟩, e1, e2⟩, ⟨e3, e4, e5, e6, t, t1, t2⟩, hl, hp, hr⟩ := id h
  by_cases b0 : x1 < 0
  · exact ⟨0, S, uI S 75 0 0, by rw [f_X10_start, if_pos b0], by rw [f_X11_start, if_pos b0], rfl, hth⟩
  rcases hp with hp | hp
  · obtain ⟨K, pl, V, m, y, e, N, M, L, n, ρ, τ, fr, n', r', ν, ρ', W, G, T, C, hA, Rd, hP, hn1, hn2⟩ := hp
    have hft := Rd.2.2.2.2.2.2.2.1
    have hf8 := fu_8 Rd
    have hlen : (ftP y).length = (fuP y).length := by
      have h1 := congrArg List.length (ft_fu Rd.1).1
      rw [List.length_map, List.length_map] at h1
      exact h1
    obtain ⟨i, hi⟩ : ∃ i : Nat, x1 = nI i ∧ i < 2 ^ 31 := by
      refine ⟨x1.toInt.toNat, ?_, ?_⟩
      · apply Int32.toInt_inj.mp
        have hx : 0 ≤ x1.toInt := by
          rw [Int32.lt_iff_toInt_lt] at b0
          have : (0 : Int32).toInt = 0 := rfl
          omega
        have hx2 : x1.toInt < 2 ^ 31 := Int32.toInt_lt x1
        rw [nI_toInt (by omega)]
        omega
      · have hx2 : x1.toInt < 2 ^ 31 := Int32.toInt_lt x1
        omega
    obtain ⟨hi, hi31⟩ := hi
    by_cases cl : i < (fuP y).length
    · obtain ⟨⟨q0, cnt, xf⟩, hf⟩ : ∃ q, (fuP y)[i]? = some q := ⟨_, List.getElem?_eq_getElem cl⟩
      have hq := List.mem_of_getElem? hf
      have hq0 : q0 ∈ (ftP y).map Prod.fst := fu_ft C.1 hq
      obtain ⟨sl, tO, sO, kO, crt, X⟩ := xb_ex T C Rd hP
      have hg := gd_P (ft := ftP y) T C.1 [] Rd.2.1 hP
      have hLB : LB V y := LB_P Rd.1 hn1
      obtain ⟨tk1, tk2⟩ := tkn (fu := fu) C hA (by omega) hf (by omega)
      have n56 : ¬ S.1 56 3 ≤ nI i := fun q => by
        rw [e3, hft] at q
        have := (mI_le (a := (ftP y).length) (b := i) (by omega) hi31).mp q
        omega
      rw [hi] at b0 ⊢
      by_cases ct : ∀ z, z < cnt → tvV (V (q0 + 2 + 2 * z)) = 1
      · obtain ⟨Sg, hSg⟩ : ∃ Sg, Sg = uJ (uJ (uJ (uJ S 2 0 v0) 2 1 v1) 2 2 v2) 2 3 v3 := ⟨_, rfl⟩
        have hg1 : Sg.1 = S.1 := by rw [hSg]; rfl
        have hg3 : Sg.2.2 = S.2.2 := by rw [hSg]; rfl
        have hg2 : ∀ a j : Nat, a ≠ 2 → Sg.2.1 a j = S.2.1 a j := fun a j q => by rw [hSg, uJ_ne (.inl q), uJ_ne (.inl q), uJ_ne (.inl q), uJ_ne (.inl q)]
        have har : ∀ z, z < 4 → Sg.2.1 2 z = arF v0 v1 v2 v3 z := fun z hz => by
          unfold arF
          by_cases z0 : z = 0
          · rw [if_pos z0, z0, hSg, uJ_ne (.inr (by omega)), uJ_ne (.inr (by omega)), uJ_ne (.inr (by omega)), uJ_eq]
          · by_cases z1 : z = 1
            · rw [if_neg z0, if_pos z1, z1, hSg, uJ_ne (.inr (by omega)), uJ_ne (.inr (by omega)), uJ_eq]
            · by_cases z2 : z = 2
              · rw [if_neg z0, if_neg z1, if_pos z2, z2, hSg, uJ_ne (.inr (by omega)), uJ_eq]
              · rw [if_neg z0, if_neg z1, if_neg z2, show z = 3 by omega, hSg, uJ_eq]
        have hAg : CAg G Sg := cag_k hA (fun a j q1 q2 => by rw [hg1]) (fun a j q1 q2 => hg2 a j (by omega))
        have hlg : LnG Sg := lng_cg hl (fun j => by rw [hg1]) (fun a _ _ => by rw [hg3])
        have hfl := F_begin (fu := fu) (ar := arF v0 v1 v2 v3) hfu X hn2 (lp_4 C.1 hn1) hf (by omega) ct hAg hlg har
        obtain ⟨S', En, cv, vr, Aw, WV, WC, R, nS, nF, fb, fp, fi, tf, ow, si, fo, lw, a1, a2, a3, a4, a5, a6, -⟩ := hfl
        obtain ⟨w2, w9⟩ := bg_38 a1
        have kb := f_X5_begin_k fu (nI i) Sg () S' a1
        have kb1 : ∀ a j : Nat, a ≤ 37 ∨ (40 ≤ a ∧ a ≤ 63) ∨ 75 ≤ a → S'.1 a j = S.1 a j := fun a j q => by rw [(kb.1 a (kM_in q)).1, hg1]
        have kb2 : ∀ a j : Nat, (a ≤ 37 ∨ (40 ≤ a ∧ a ≤ 63) ∨ 75 ≤ a) → a ≠ 2 → S'.2.1 a j = S.2.1 a j := fun a j q q2 => by rw [(kb.1 a (kM_in q)).2]; exact hg2 a j q2
        obtain ⟨S1, hS1⟩ : ∃ S1, S1 = uI S' 0 6 ((S'.1 0 6) + 1) := ⟨_, rfl⟩
        have hc1 : f_X10_start fu (nI i) v0 v1 v2 v3 S = some (1, S1) := by
          rw [f_X10_start, if_neg b0, if_neg n56, tk1 ct]
          simp only [Option.bind_some]
          rw [if_pos (show (1 : Int32) ≠ 0 by decide), show in_b 0 4 = true by decide, show in_b 1 4 = true by decide, show in_b 2 4 = true by decide, show in_b 3 4 = true by decide]
          simp only [gd_t]
          rw [show uJ (uJ (uJ (uJ S 2 ((0 : Int32).toNatClampNeg) v0) 2 ((1 : Int32).toNatClampNeg) v1) 2 ((2 : Int32).toNatClampNeg) v2) 2 ((3 : Int32).toNatClampNeg) v3 = Sg by rw [hSg]; rfl, a1]
          simp only [Option.bind_some]
          rw [hS1]
        have j1 : ∀ a j : Nat, a ≤ 37 ∨ (40 ≤ a ∧ a ≤ 63) ∨ 75 ≤ a → (a = 0 → j ≠ 6) → S1.1 a j = S.1 a j := fun a j q q2 => by rw [hS1, uI_ne (by omega)]; exact kb1 a j q
        have j2 : ∀ a j : Nat, 75 ≤ a → S1.2.1 a j = S.2.1 a j := fun a j q => by rw [hS1]; exact kb2 a j (by omega) (by omega)
        have Rd1 : RHd K pl V m fr y e n' r' ν ρ' W S1 := RHd_ag Rd (fun a j q1 q2 => ⟨j1 a j (by omega) (by omega), j2 a j (by omega)⟩) (fun a j q => ⟨j1 a j (by omega) (by omega), j2 a j (by omega)⟩) (fun a j q => j1 a j (by omega) (by omega)) (fun j q => j1 75 j (by omega) (by omega))
        obtain ⟨rs1, -⟩ := r_start (fu := fu) (v0 := v0) (v1 := v1) (v2 := v2) (v3 := v3) T (by omega) Rd1 hg.1 hg.2 hLB hf
        obtain ⟨S2, c1, rf, rx, nA, nB, nT, A, b, vals, lk, Mt, Lv, f1, f2, I, I2, I3⟩ := rs1 ct
        have kk := f_X11_start_k fu (nI i) v0 v1 v2 v3 S1 1 S2 c1
        have cA : ∀ a j : Nat, a ≤ 74 → S2.1 a j = S1.1 a j ∧ S2.2.1 a j = S1.2.1 a j := fun a j q => by
          rw [(kk.1 a (kR_le q)).1, (kk.1 a (kR_le q)).2]
          exact ⟨rfl, rfl⟩
        have hlen2 : S2.2.2 = S1.2.2 := funext (fun j => kk.2 j rfl)
        have st : ∀ a j : Nat, (a = 75 → j ≠ 57 ∧ j ≠ 64 ∧ j ≠ 68 ∧ j ≠ 72 ∧ j ≠ 74 ∧ j ≠ 73 ∧ j ≠ 76 ∧ j ≠ 0) → (stS (uI S1 75 0 0) v0 v1 v2 v3).1 a j = S1.1 a j := fun a j q => by
          unfold stS
          rw [uI_ne (by omega), uI_ne (by omega), uI_ne (by omega), uI_ne (by omega), uI_ne (by omega), uI_ne (by omega), uI_ne (by omega)]
          exact uI_ne (by omega)
        have st76 : (stS (uI S1 75 0 0) v0 v1 v2 v3).1 75 76 = S1.1 75 76 + 1 := by
          unfold stS
          rw [uI_eq, uI_ne (by omega)]
        have st73 : (stS (uI S1 75 0 0) v0 v1 v2 v3).1 75 73 = 1 := by
          unfold stS
          rw [uI_ne (by omega), uI_eq]
        have st74 : (stS (uI S1 75 0 0) v0 v1 v2 v3).1 75 74 = 0 := by
          unfold stS
          rw [uI_ne (by omega), uI_ne (by omega), uI_eq]
        have zz : ∀ j : Nat, j ≠ 57 → j ≠ 64 → j ≠ 68 → j ≠ 72 → j ≠ 74 → j ≠ 73 → j ≠ 76 → j ≠ 0 → j ≠ 81 → j ≠ 82 → S2.1 75 j = S.1 75 j := fun j q1 q2 q3 q4 q5 q6 q7 q8 q9 q10 => ((rf.1 75 j (by omega) (by omega)).trans (st 75 j (by omega))).trans (j1 75 j (by omega) (by omega))
        have z73 : S2.1 75 73 = 1 := (rf.1 75 73 (by omega) (by omega)).trans st73
        have z74 : S2.1 75 74 = 0 := (rf.1 75 74 (by omega) (by omega)).trans st74
        have z76 : S2.1 75 76 = S.1 75 76 + 1 := by rw [rf.1 75 76 (by omega) (by omega), st76, j1 75 76 (by omega) (by omega)]
        have cls : ∀ a j : Nat, 38 ≤ a → a ≤ 74 → S2.1 a j = S'.1 a j ∧ S2.2.1 a j = S'.2.1 a j := fun a j q1 q2 => by
          rw [(cA a j q2).1, (cA a j q2).2, hS1, uI_ne (by omega)]
          exact ⟨rfl, rfl⟩
        have hl2 : ∀ a, S2.2.2 a = S'.2.2 a := fun a => by rw [hlen2, hS1]; rfl
        have hca : CAg G S2 := cag_k hA (fun a j q1 q2 => (cA a j (by omega)).1.trans (j1 a j (by omega) (by omega))) (fun a j q1 q2 => (cls a j (by omega) (by omega)).2.trans (kb2 a j (by omega) (by omega)))
        have hq2 : S1.1 0 6 = S.1 0 6 + 1 := by rw [hS1, uI_eq, kb1 0 6 (by omega)]
        refine ⟨1, S1, S2, hc1, c1, (gP_eq hlen2).symm, ⟨?_, ⟨s, s1, (zz 37 (by omega) (by omega) (by omega) (by omega) (by omega) (by omega) (by omega) (by omega) (by omega) (by omega)).trans s2⟩, ?_, ?_⟩, ⟨?_, ?_, ?_, ?_, t, t1, (zz 75 (by omega) (by omega) (by omega) (by omega) (by omega) (by omega) (by omega) (by omega) (by omega) (by omega)).trans t2⟩, lng_cg (mx_ln a2.2.1) (fun j => (cls 65 j (by omega) (by omega)).1) (fun a _ _ => hl2 a), .inl ⟨K, pl, V, m, y, e, N, M, L, n, ρ, τ, fr, n', r', ν, ρ', W, G, T, C, hca, rx.2.1, hP, hn1, hn2⟩, .inr ⟨K, pl, V, m, y, e, N, M, L, n, ρ, τ, fr, n', r', ν, ρ', W, G, sl, tO, sO, kO, crt, q0, cnt, xf, arF v0 v1 v2 v3, 0, nA, nB, nT, A, b, vals, lk, Mt, Lv, f1, f2, ⟨T, X, hca, rx.2.1, hn1, hn2⟩, ⟨hq, rni_cg (S := S') ⟨En, cv, vr, Aw, WV, WC, R, [], nS, nF, fb, fp, fi, tf, fun _ _ => none, ow, si, fo, lw, ⟨a2, a3, a4, a5, a6⟩, w9, w2, Nat.zero_le _, .inl rfl, Nat.zero_le _⟩ cls (fun a _ _ => hl2 a), z73, z74⟩, I, I2, I3⟩⟩
        · obtain ⟨t0, h1, h2, h3, h4⟩ := hT
          refine ⟨t0, h1, ?_, ?_, fun k hk => ?_⟩
          · rw [(cA 0 4 (by omega)).1, j1 0 4 (by omega) (by omega)]
            exact h2
          · rw [zz 2 (by omega) (by omega) (by omega) (by omega) (by omega) (by omega) (by omega) (by omega) (by omega) (by omega)]
            exact h3
          · rw [(cA 1 k (by omega)).1, j1 1 k (by omega) (by omega), rf.1 76 k (by omega) (by omega), st 76 k (by omega), j1 76 k (by omega) (by omega)]
            exact h4 k hk
        · rw [(cA 5 0 (by omega)).1, j1 5 0 (by omega) (by omega), zz 3 (by omega) (by omega) (by omega) (by omega) (by omega) (by omega) (by omega) (by omega) (by omega) (by omega)]
          exact e1
        · rw [(cA 5 1 (by omega)).1, j1 5 1 (by omega) (by omega), zz 4 (by omega) (by omega) (by omega) (by omega) (by omega) (by omega) (by omega) (by omega) (by omega) (by omega)]
          exact e2
        · rw [(cA 56 3 (by omega)).1, j1 56 3 (by omega) (by omega), zz 35 (by omega) (by omega) (by omega) (by omega) (by omega) (by omega) (by omega) (by omega) (by omega) (by omega)]
          exact e3
        · rw [(cls 38 2 (by omega) (by omega)).1, w2, z74]
        · rw [(cA 0 5 (by omega)).1, j1 0 5 (by omega) (by omega), zz 75 (by omega) (by omega) (by omega) (by omega) (by omega) (by omega) (by omega) (by omega) (by omega) (by omega)]
          exact e5
        · rw [(cA 0 6 (by omega)).1, hq2, z76, e6]
      · refine ⟨0, S, uI S 75 0 0, ?_, ?_, rfl, hth⟩
        · rw [f_X10_start, if_neg b0, if_neg n56, tk2 ct]
          simp only [Option.bind_some]
          rw [if_neg (show ¬ (0 : Int32) ≠ 0 from fun q => q rfl)]
        · exact (r_start (fu := fu) (v0 := v0) (v1 := v1) (v2 := v2) (v3 := v3) T (by omega) Rd hg.1 hg.2 hLB hf).2 ct
    · rw [hi] at b0 ⊢
      have hge : (ftP y).length ≤ i := by omega
      refine ⟨0, S, uI S 75 0 0, ?_, ?_, rfl, hth⟩
      · rw [f_X10_start, if_neg b0, e3, hft, if_pos ((mI_le (by omega) hi31).mpr hge)]
      · rw [f_X11_start, if_neg b0, hft, if_neg (fun q => by
          have := (mI_lt hi31 (by omega)).mp q
          omega)]
  · have b' : (0 : Int32) ≤ x1 := by
      rw [Int32.le_iff_toInt_le]
      rw [Int32.lt_iff_toInt_lt] at b0
      omega
    refine ⟨0, S, uI S 75 0 0, ?_, ?_, rfl, hth⟩
    · rw [f_X10_start, if_neg b0, e3, hp, if_pos b']
    · rw [f_X11_start, if_neg b0, hp, if_neg b0]
theorem law_s3 (hfu : 1569793 ≤ fu) (hc : (c 0 &&& 15) = (3 : Int32)) (h : LwI S) : ∃ S', lw_step fu c S S' ∧ gP S ≤ gP S' ∧ gP S' ≤ lw_B ∧ LwI S' := by
  obtain ⟨r, S1, S2, h1, h2, h3, h4⟩ := start_gd hfu h (c 1) ((((c 2).toInt64) <<< ((32 : Int32).toInt64 &&& 63)) ||| (((c 3).toInt64) &&& 4294967295)) ((((c 4).toInt64) <<< ((32 : Int32).toInt64 &&& 63)) ||| (((c 5).toInt64) &&& 4294967295)) ((((c 6).toInt64) <<< ((32 : Int32).toInt64 &&& 63)) ||| (((c 7).toInt64) &&& 4294967295)) ((((c 8).toInt64) <<< ((32 : Int32).toInt64 &&& 63)) ||| (((c 9).toInt64) &&& 4294967295))
  have m1 := f_X10_start_m fu _ _ _ _ _ S r S1 h1
  refine ⟨S2, ?_, by rw [← h3]; exact m1, ln_gP h4.2.2.1, h4⟩
  unfold lw_step
  rw [if_neg (show ¬ (c 0 &&& 15) = (0 : Int32) by rw [hc]; decide), if_neg (show ¬ (c 0 &&& 15) = (1 : Int32) by rw [hc]; decide), if_neg (show ¬ (c 0 &&& 15) = (2 : Int32) by rw [hc]; decide), if_pos hc]
  exact ⟨r, S1, r, S2, h1, h2, rfl, m1, Nat.le_of_eq h3, rfl⟩
end STT
