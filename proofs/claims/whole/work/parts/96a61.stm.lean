/-! steps of the reference: loop, 2 -/
section STM
variable {K pl : Nat → Nat} {V : Nat → Int64} {m fr e n' r' fu : Nat} {y : TR} {q0 : Nat} {ar : Nat → Int64} {ν ρ : Nat → Nat} {W : Nat → Int32 × Int32 × Int32} {S S1 : im_S} {nA nS nT : Nat} {A : Nat → TPth} {b : Nat → Nat} {vals : TPth → Nat → Option TVal} {lk : TPth → Nat → Option TPth} {M : Nat → TPth × Nat} {Lv evs : List TEv} {f1 f2 : Nat → Nat} {x0 k0 j r : Nat} {γ : List Nat}
/-- a round is decided: it was the last one -/
theorem st_7c (T : TH K pl V m) (hfu : 30000 ≤ fu) (R : RHd K pl V m fr y e n' r' ν ρ W S) (I : RI K V y q0 ar ν ρ S nA nS nT A b vals lk M Lv f1 f2) (h : Lv.length ≤ 1000) (hLB : LB V y) (hx0 : x0 < nA) {fs c ns g : TR} (hz : (.tag 7 (.tag j (.append fs (.append c (.append ns g)))), γ, r) ∈ scP y) (hr : r = hdR (A x0)) (hk0 : (rgL y (hdR (A x0)))[k0]? = some j) (hv0 : vals (A x0) j = none) {x1 mm : Nat} (hx1 : x1 < nA) (hA1 : A x1 = (4 * j, mm) :: A x0)
    (hrd : ∀ i, i < mm → EnA nA A ((4 * j, i) :: A x0) ∧ EnA nA A ((4 * j + 1, 0) :: (4 * j, i) :: A x0) ∧ (A x0, j, i) ∈ Lv ∧ ∃ a, vals ((4 * j, i) :: A x0) (otk c) = some a ∧ a.1 ≠ 4 ∧ a.2.1 ≠ 0) (hUB : UB y (EnA nA A) (A x0) j (rdC j mm (A x0))) (hEB : EB (fun e => e ∈ Lv) (A x0) j (fun i => i < mm)) {a : TVal} (ha : vals ((4 * j, mm) :: A x0) (otk c) = some a) (ha4 : a.1 ≠ 4) (ha0 : a.2.1 = 0) :
    ∃ S3, f_X11_enter fu (nI (ρ (4 * j + 2))) (nI x1) (-1) (-1) (uI S 75 72 (S.1 75 72 + 1)) = some (nI nA, S3) ∧ SO K V y q0 ar ν ρ S nA nS nT A b vals lk M Lv f1 f2 x0 k0 (.tag 7 (.tag j (.append fs (.append c (.append ns g)))), γ, r) 1 (uI S3 128 (b x0 + k0) (nI nA)) := by
  have hb := RI_b I h
  have w := R.1
  have hP := (I.2.2.1 x0 hx0).1
  have hPr := (I.2.2.1 x1 hx1).1
  rw [hA1] at hPr
  have hown : own y ((4 * j + 2, 0) :: (4 * j, mm) :: A x0) = (A x0, j) := own_lp w hz (k := 2) (i := 0) (by omega) (by omega) rfl (A x0)
  have hnE : ¬ EnA nA A ((4 * j + 2, 0) :: (4 * j, mm) :: A x0) := fun q => by
    rcases hUB _ q hown with ⟨i, c1, c2⟩ | ⟨i, c1, c2⟩
    · have : 4 * j + 2 = 4 * j := congrArg hdR c2
      omega
    · have : 4 * j + 2 = 4 * j + 1 := congrArg hdR c2
      omega
  have hP' : POk V y ((4 * j + 2, 0) :: (4 * j, mm) :: A x0) := POk_in hz hPr (.inr ⟨.inr rfl, rfl⟩)
  have hc1 := cwR_le w (by have := T.m_; have := R.2.1; omega) hP'
  have hc2 := hLB.1 _ hP'
  have i10 := I.2.2.2.2.2.2.2.2.2
  have hNI4 : ∀ A'' : Nat → TPth, A'' nA = (4 * j + 2, 0) :: (4 * j, mm) :: A x0 → (∀ x, x < nA → A'' x = A x) → NI K V y ar (EnA (nA + 1) A'') vals (fun e => e ∈ [(A x0, j, mm)] ++ Lv) (A x0) (some ((4 * j + 2, 0) :: (4 * j, mm) :: A x0)) (.tag 7 (.tag j (.append fs (.append c (.append ns g)))), γ, r) := by
    intro A'' a1 a2
    have hen : ∀ P', EnA nA A P' → EnA (nA + 1) A'' P' := fun P' ⟨x, c1, c2⟩ => ⟨x, by omega, (a2 x c1).trans c2⟩
    refine ⟨fun q => ?_, fun P' q => ?_⟩
    · cases q
    · cases q
      refine ⟨mm, hen _ ⟨x1, hx1, hA1⟩, fun i hi => ?_, .inr (.inr ⟨rfl, ⟨nA, by omega, a1⟩, fun P2 c1 c2 => ?_, List.mem_cons_self, ⟨a, ha, ha4, ha0⟩, fun a' qa => ?_⟩)⟩
      · obtain ⟨r1, r2, r3, r4⟩ := hrd i hi
        exact ⟨hen _ r1, hen _ r2, List.mem_cons_of_mem _ r3, r4⟩
      · obtain ⟨x', c3, c4⟩ := c1
        by_cases hx' : x' = nA
        · rw [hx', a1] at c4
          exact .inr c4.symm
        · rw [a2 x' (by omega)] at c4
          exact .inl (hUB P2 ⟨x', by omega, c4⟩ c2)
      · rw [hv0] at qa
        cases qa
  exact so_e1 (fu := fu) (S1 := uI S 75 72 (S.1 75 72 + 1)) (evs := [(A x0, j, mm)]) (g1 := f1) (g2 := f2) (P' := (4 * j + 2, 0) :: (4 * j, mm) :: A x0) (o := nI x1) (x3 := -1) (x4 := -1) T hfu R I h hx0 hz hr hk0 hv0 RF_72 (fun a i q => uI_ne (by omega)) rfl (by
    rw [uI_eq, I.1.2.2.2]
    show nI Lv.length + nI 1 = nI (1 + Lv.length)
    rw [nI_add, Nat.add_comm]) (fun s _ _ => ⟨rfl, rfl⟩) hP' hown hnE (by
    show _ ≤ 496 * (1 + Lv.length + 1) ∧ _ ≤ 21 * (1 + Lv.length + 1)
    omega) (Nat.le_refl _) (fun S'' A'' a1 a2 a3 a4 a5 => AL_pl w hz (k := 2) (i := 0) (x1 := x1) (Q := (4 * j, mm) :: A x0) (by omega) hx1 (fun z' hz' q1 q2 => absurd q2 (by omega)) a1 ((a2 x1 hx1).trans hA1) a3) (fun e he => ⟨mm, List.mem_singleton.mp he⟩) (List.nodup_cons.mpr ⟨fun q => absurd (hEB mm q) (by omega), I.2.2.2.2.2.2.2.1⟩) hNI4 (fun En' Va' De' hcl s1 s2 => by
    have hcl2 := (clo_at hcl (s1 x0 hx0) hP hz hr).2 mm a (by rw [← hA1]; exact s1 x1 hx1) (s2 _ _ _ ha)
    exact ⟨(hcl2.2.2.2 ha4 ha0).1, fun e he => by rw [List.mem_singleton.mp he]; exact hcl2.1⟩)
set_option maxHeartbeats 4000000 in
theorem st_7 (T : TH K pl V m) (hfu : 30000 ≤ fu) (R : RHd K pl V m fr y e n' r' ν ρ W S) (I : RI K V y q0 ar ν ρ S nA nS nT A b vals lk M Lv f1 f2) (h : Lv.length ≤ 1000) (hG : ∀ z, z ∈ scP y → GdN K V (ftP y) z) (hLB : LB V y) (hx0 : x0 < nA) {fs c ns g : TR} (hz : (.tag 7 (.tag j (.append fs (.append c (.append ns g)))), γ, r) ∈ scP y) (hr : r = hdR (A x0)) (hk0 : (rgL y (hdR (A x0)))[k0]? = some j) (hv0 : vals (A x0) j = none) : ∃ ans S', f_X11_step fu (nI x0) (nI (ν j)) S = some (ans, S') ∧ SO K V y q0 ar ν ρ S nA nS nT A b vals lk M Lv f1 f2 x0 k0 (.tag 7 (.tag j (.append fs (.append c (.append ns g)))), γ, r) ans S' := by
  have hb := RI_b I h
  have w := R.1
  obtain ⟨u1, u2, u3, u4, u5⟩ := sl_at T R I h hx0 hk0
  obtain ⟨⟨⟨h81, -⟩, -⟩, -, hIN, -⟩ := rs_P T R _ hz
  have h110 : S.1 110 (ν j) = nI (ρ (4 * j)) := hIN.1
  have h111 : S.1 111 (ν j) = nI (ρ (4 * j + 1)) := hIN.2.1
  have h112 : S.1 112 (ν j) = nI (ρ (4 * j + 2)) := hIN.2.2
  have hP := (I.2.2.1 x0 hx0).1
  have hin := in_P w _ hz
  obtain ⟨⟨p', e', wz⟩, -, htr⟩ := (tl_P w) _ hz
  obtain ⟨-, b1, d1, g1, n1, n2, w1, w2, w3, w4⟩ := wz
  have hzc : (c, bnd fs γ, 4 * j) ∈ scP y := htr _ (mc _ (mr _ (ml _ (hd_in w2 _ _))))
  have hzg : (g, bnd fs γ, 4 * j + 2) ∈ scP y := htr _ (mc _ (mr _ (mr _ (mr _ (hd_in w4 _ _)))))
  obtain ⟨gt, -⟩ := hG _ hz
  have hn := (I.2.2.2.2.2.2.1 x0 hx0 _ hz hr).1
  have hun : f_X11_step fu (nI x0) (nI (ν j)) S = (f_X11_round fu (nI x0) (nI (ν j)) (nI (b x0 + k0)) S).bind (fun q => gd (z_b q.1) (some (q.1, q.2))) := by
    unfold f_X11_step
    rw [u1]
    simp only [Option.bind_some]
    rw [mI_in (a := ν j) (n := 1200) (by omega) u3, nI_clamp (show ν j < 2 ^ 31 by omega), h81]
    simp only [gd_t]
    rw [if_neg (by decide), if_neg (by decide), if_neg (by decide), if_neg (by decide), if_neg (by decide), if_neg (by decide), if_pos (by decide)]
  rw [hun]
  have gs : in_b (nI (b x0 + k0)) 520000 = true := mI_in (a := b x0 + k0) (n := 520000) (by omega) (by omega)
  have gc : (nI (b x0 + k0)).toNatClampNeg = b x0 + k0 := nI_clamp (by omega)
  have gn : in_b (nI (ν j)) 1200 = true := mI_in (a := ν j) (n := 1200) (by omega) u3
  have gnc : (nI (ν j)).toNatClampNeg = ν j := nI_clamp (by omega)
  cases hlk : lk (A x0) j with
  | none =>
    rw [hlk] at u5
    have u5 : S.1 128 (b x0 + k0) = -1 := u5
    obtain ⟨S3, v1, v2⟩ := st_7a (fu := fu) T hfu R I h hx0 hz hr hk0 hv0 hlk
    refine ⟨1, _, ?_, v2⟩
    unfold f_X11_round
    rw [gs, gc, gn, gnc, h110]
    simp only [gd_t]
    rw [if_neg (fun q => q u5), v1]
    rfl
  | some P' =>
    rw [hlk] at u5
    obtain ⟨x1, t1, t2, t3⟩ := u5
    obtain ⟨mm, e1, e2, e3⟩ := hn.2 P' hlk
    obtain ⟨-, a2, -⟩ := I.2.2.1 x1 t1
    rw [t2] at a2
    have gx : in_b (nI x1) 24000 = true := mI_in (a := x1) (n := 24000) (by omega) (by omega)
    have gxc : (nI x1).toNatClampNeg = x1 := nI_clamp (by omega)
    rcases e3 with ⟨k1, k2, k3, k4⟩ | ⟨k1, k2, k3, a, k4, -⟩ | ⟨k1, k2, k3, k4, ⟨a, k5, k6, k7⟩, k8⟩
    · have hA1 : A x1 = (4 * j, mm) :: A x0 := t2.trans k1
      have hlk' : lk (A x0) j = some ((4 * j, mm) :: A x0) := by rw [hlk, k1]
      rw [k1] at a2
      have a2 : S.1 120 x1 = nI (ρ (4 * j)) := a2
      have hne : S.1 120 x1 ≠ S.1 112 (ν j) := fun q => by
        rw [a2, h112] at q
        have := (rho_eq R T hin.1 hin.2.2).mp q
        omega
      obtain ⟨s1, z1, z2, z3, z4⟩ := rt_at T R I h t1 hzc (by rw [hA1]; rfl) hin.1
      rw [hA1] at z3 z4
      have hrn : f_X11_round fu (nI x0) (nI (ν j)) (nI (b x0 + k0)) S = (if S.1 126 s1 ≠ 0 then (if S.1 126 s1 ≠ 4 then (if (lg_cmp (S.2.1 127 s1) 0 : Int32) ≠ 0 then ((f_X11_enter fu (nI (ρ (4 * j + 1))) (nI x1) (-1) (-1) (uI S 75 72 (S.1 75 72 + 1))).bind (fun qS9 => gd (in_b (nI (ν j)) 1200) ((f_X11_enter fu ((qS9.2.1 110) (nI (ν j)).toNatClampNeg) (nI x0) (nI x1) qS9.1 qS9.2).bind (fun qS12 => some (1, (uI qS12.2 128 (b x0 + k0) qS12.1)))))) else ((f_X11_enter fu (nI (ρ (4 * j + 2))) (nI x1) (-1) (-1) (uI S 75 72 (S.1 75 72 + 1))).bind (fun qS15 => some (1, (uI qS15.2 128 (b x0 + k0) qS15.1))))) else ((f_X11_event (nI (b x0 + k0)) 4 (S.2.1 127 s1) S).bind (fun qS18 => gd (z_b qS18.1) (some (qS18.1, qS18.2))))) else (some (0, S))) := by
        unfold f_X11_round
        rw [gs, gc, t3, gx, gxc, gn, gnc]
        simp only [gd_t]
        rw [if_pos (nI_m1 (show x1 < 2 ^ 31 by omega)), if_pos hne, z1]
        simp only [Option.bind_some]
        rw [mI_in (a := s1) (n := 520000) (by omega) (by omega), nI_clamp (show s1 < 2 ^ 31 by omega), h111, h112]
        simp only [gd_t]
      rw [hrn]
      cases hv : vals ((4 * j, mm) :: A x0) (otk c) with
      | none =>
        rw [if_neg (fun q => q ((sl_0 z3).mpr hv))]
        refine ⟨0, S, rfl, so_zero w I hx0 hz hr hk0 (rgL_nd R) hv0 (fun _ _ _ => rfl) (fun _ _ _ => rfl) ⟨_, hlk', fun m' q => hv, fun m' q => ?_⟩⟩
        have : 4 * j = 4 * j + 2 := congrArg hdR q
        omega
      | some a =>
        have ty := z4 a hv
        rw [if_pos (fun q => by have := (sl_0 z3).mp q; rw [hv] at this; cases this)]
        rw [hv] at z3
        by_cases c4 : a.1 = 4
        · rw [if_neg (fun q => q ((sl_4 z3).mpr c4))]
          have hNI : NI K V y ar (EnA nA A) (upV vals (A x0) j (some a)) (fun e => e ∈ (A x0, j, mm) :: Lv) (A x0) (lk (A x0) j) (.tag 7 (.tag j (.append fs (.append c (.append ns g)))), γ, r) := by
            rw [hlk']
            refine ⟨fun q => ?_, fun P2 q => ?_⟩
            · cases q
            · cases q
              refine ⟨mm, ⟨x1, t1, hA1⟩, fun i hi => ?_, .inr (.inl ⟨rfl, k3, List.mem_cons_self, a, upV_eq, c4, upV_mono hv0 hv⟩)⟩
              obtain ⟨r1, r2, r3, a', r4, r5⟩ := e2 i hi
              exact ⟨r1, r2, List.mem_cons_of_mem _ r3, a', upV_mono hv0 r4, r5⟩
          obtain ⟨S', p1, p2⟩ := so_ev (i := mm) (k := 4) w T R I h hx0 hz hr hk0 hv0 (by rw [c4]; rfl) (Ec_Sl z3) (fun q => absurd (k4 mm q) (Nat.lt_irrefl _)) hNI ⟨ty.1, fun q => absurd c4 q⟩ (fun En' Va' De' hcl s1 s2 => by
            have hcl2 := (clo_at hcl (s1 x0 hx0) hP hz hr).2 mm a (by rw [← hA1]; exact s1 x1 t1) (s2 _ _ _ hv)
            exact ⟨hcl2.2.1 c4, hcl2.1⟩)
          rw [p1]
          exact ⟨1, S', rfl, p2⟩
        · rw [if_pos (fun q => c4 ((sl_4 z3).mp q))]
          have k22 : a.1 = 2 := by rw [ty.2 c4]; exact gt
          have ev : S.2.1 127 s1 = a.2.1 := (z3.2.2.2.1 (by omega)).1
          rw [ev]
          by_cases c0 : a.2.1 = 0
          · rw [if_neg (fun q => q ((lg_cmp_eq _ _).mpr c0))]
            obtain ⟨S3, v1, v2⟩ := st_7c (fu := fu) T hfu R I h hLB hx0 hz hr hk0 hv0 t1 hA1 e2 k3 k4 hv c4 c0
            rw [v1]
            exact ⟨1, _, rfl, v2⟩
          · rw [if_pos (fun q => c0 ((lg_cmp_eq _ _).mp q))]
            obtain ⟨S3, S4, v1, v2, v110, v3⟩ := st_7b (fu := fu) T hfu R I h hLB hx0 hz hr hk0 hv0 t1 hA1 hlk' e2 k3 k4 hv c4 c0
            rw [v1]
            simp only [Option.bind_some]
            have h110' : S3.1 110 (ν j) = nI (ρ (4 * j)) := (v110 _).trans h110
            rw [gn, gnc, h110', v2]
            exact ⟨1, _, rfl, v3⟩
    · rw [hv0] at k4
      cases k4
    · have hA1 : A x1 = (4 * j + 2, 0) :: (4 * j, mm) :: A x0 := t2.trans k1
      rw [k1] at a2
      have a2 : S.1 120 x1 = nI (ρ (4 * j + 2)) := a2
      have heq : ¬ S.1 120 x1 ≠ S.1 112 (ν j) := fun q => q (by rw [a2, h112])
      obtain ⟨s1, z1, z2, z3, z4⟩ := rt_at T R I h t1 hzg (by rw [hA1]; rfl) hin.2.2
      rw [hA1, ← k1] at z3 z4
      have hNI5 : ∀ a', vals P' (otk g) = some a' → NI K V y ar (EnA nA A) (upV vals (A x0) j (some a')) (fun e => e ∈ Lv) (A x0) (lk (A x0) j) (.tag 7 (.tag j (.append fs (.append c (.append ns g)))), γ, r) := by
        intro a' qa
        rw [hlk]
        refine ⟨fun q => ?_, fun P2 q => ?_⟩
        · cases q
        · cases q
          refine ⟨mm, e1, fun i hi => ?_, .inr (.inr ⟨k1, k2, k3, k4, ⟨a, upV_mono hv0 k5, k6, k7⟩, fun a2 qa2 => ?_⟩)⟩
          · obtain ⟨r1, r2, r3, a', r4, r5⟩ := e2 i hi
            exact ⟨r1, r2, r3, a', upV_mono hv0 r4, r5⟩
          · rw [upV_eq] at qa2
            rw [← Option.some.inj qa2]
            exact upV_mono hv0 qa
      obtain ⟨ans, S', p1, p2, p3⟩ := so_pass w T R I h hx0 hz hr hk0 hv0 z2 z3 (fun a' qa => z4 a' qa) (fun qn => ⟨P', hlk, fun m' q => by
        rw [k1] at q
        have : 4 * j + 2 = 4 * j := congrArg hdR q
        omega, fun m' q => qn⟩) hNI5 (fun a' qa En' Va' De' hcl s1 s2 => by
        obtain ⟨xm, hm1, hm2⟩ := e1
        have hcl2 := (clo_at hcl (s1 x0 hx0) hP hz hr).2 mm a (by rw [← hm2]; exact s1 xm hm1) (s2 _ _ _ k5)
        exact (hcl2.2.2.2 k6 k7).2 a' (by rw [← k1]; exact s2 _ _ _ qa))
      refine ⟨ans, S', ?_, p3⟩
      unfold f_X11_round
      rw [gs, gc, t3, gx, gxc, gn, gnc]
      simp only [gd_t]
      rw [if_pos (nI_m1 (show x1 < 2 ^ 31 by omega)), if_neg heq, z1]
      simp only [Option.bind_some]
      rw [p1]
      simp only [Option.bind_some]
      rw [p2]
      simp only [gd_t, Option.bind_some]
      rw [p2]
      rfl
end STM
