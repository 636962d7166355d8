/-! steps of the reference: if -/
section STI
variable {K pl : Nat → Nat} {V : Nat → Int64} {m fr e n' r' fu : Nat} {y : TR} {q0 : Nat} {ar : Nat → Int64} {ν ρ : Nat → Nat} {W : Nat → Int32 × Int32 × Int32} {S S1 : im_S} {nA nS nT : Nat} {A : Nat → TPth} {b : Nat → Nat} {vals : TPth → Nat → Option TVal} {lk : TPth → Nat → Option TPth} {M : Nat → TPth × Nat} {Lv evs : List TEv} {f1 f2 : Nat → Nat} {x0 k0 j r : Nat} {γ : List Nat}
/-- a region of a node that is no round and no cell -/
theorem AL_pl (w : PW K y 0 e) {z : TR × List Nat × Nat} (hz : z ∈ scP y) {k i x1 x : Nat} {Q : TPth} (hk : k < 4) (hx1 : x1 < x) (hno : ∀ z', z' ∈ scP y → otk z'.1 = otk z.1 → k = 0 → lpK z'.1 = false ∧ ∀ a b, z'.1 ≠ .tag 11 (.tag (otk z.1) (.append a b))) (hA : A x = (4 * otk z.1 + k, i) :: Q) (hA1 : A x1 = Q) (h121 : S.1 121 x = nI x1) : AL y ν S A x := by
  intro c Q' hc
  rw [hA] at hc
  cases hc
  have hn : ¬ (4 * otk z.1 + k) / 4 ∈ (ftP y).map Prod.fst := by
    rw [show (4 * otk z.1 + k) / 4 = otk z.1 by omega]
    exact fun q => (ft_fu w).2.2 _ q z hz rfl
  refine ⟨fun q => absurd q hn, fun _ => ⟨x1, hx1, hA1, h121⟩, fun z' hz' q1 q2 => ?_, fun j2 a b γ2 r2 hz2 q2 => ?_⟩
  · have q2 : 4 * otk z.1 + k = 4 * otk z'.1 := q2
    have := (hno z' hz' (by omega) (by omega)).1
    rw [q1] at this
    cases this
  · have q2 : 4 * otk z.1 + k = 4 * j2 := q2
    have hj : j2 = otk z.1 := by omega
    subst hj
    exact absurd rfl ((hno _ hz2 rfl (by omega)).2 a b)
theorem POk_in {z : TR × List Nat × Nat} (hz : z ∈ scP y) {P : TPth} {c : Nat × Nat} (hP : POk V y P) (hp : ParN c.1 (hdR P) z) : POk V y (c :: P) := by
  cases P with
  | nil => exact absurd hP id
  | cons c' Q => exact ⟨.inr ⟨z, hz, hp⟩, hP⟩
set_option maxHeartbeats 4000000 in
theorem st_6 (T : TH K pl V m) (hfu : 30000 ≤ fu) (R : RHd K pl V m fr y e n' r' ν ρ W S) (I : RI K V y q0 ar ν ρ S nA nS nT A b vals lk M Lv f1 f2) (h : Lv.length ≤ 1000) (hG : ∀ z, z ∈ scP y → GdN K V (ftP y) z) (hLB : LB V y) (hx0 : x0 < nA) {x y1 y2 : TR} (hz : (.tag 6 (.tag j (.append x (.append y1 y2))), γ, r) ∈ scP y) (hr : r = hdR (A x0)) (hk0 : (rgL y (hdR (A x0)))[k0]? = some j) (hv0 : vals (A x0) j = none) : ∃ ans S', f_X11_step fu (nI x0) (nI (ν j)) S = some (ans, S') ∧ SO K V y q0 ar ν ρ S nA nS nT A b vals lk M Lv f1 f2 x0 k0 (.tag 6 (.tag j (.append x (.append y1 y2))), γ, r) ans S' := by
  have hb := RI_b I h
  have w := R.1
  obtain ⟨u1, u2, u3, u4, u5⟩ := sl_at T R I h hx0 hk0
  obtain ⟨⟨⟨h81, -⟩, h83, h84, h85⟩, -, hIN, -⟩ := rs_P T R _ hz
  have h110 : S.1 110 (ν j) = nI (ρ (4 * j)) := hIN.1
  have h111 : S.1 111 (ν j) = nI (ρ (4 * j + 1)) := hIN.2
  have hP := (I.2.2.1 x0 hx0).1
  have hin := in_P w _ hz
  obtain ⟨⟨p', e', wz⟩, -, htr⟩ := (tl_P w) _ hz
  obtain ⟨-, bb, cc, w1, w2, w3⟩ := wz
  have hzx : (x, γ, r) ∈ scP y := htr _ (mc _ (ml _ (hd_in w1 _ _)))
  have hz1 : (y1, γ, 4 * j) ∈ scP y := htr _ (mc _ (mr _ (ml _ (hd_in w2 _ _))))
  have hz2 : (y2, γ, 4 * j + 1) ∈ scP y := htr _ (mc _ (mr _ (mr _ (hd_in w3 _ _))))
  obtain ⟨gt, gt'⟩ := hG _ hz
  have hn := (I.2.2.2.2.2.2.1 x0 hx0 _ hz hr).1
  have hun : f_X11_step fu (nI x0) (nI (ν j)) S = (f_X11_branch fu (nI x0) (nI (ν j)) (nI (b x0 + k0)) S).bind (fun q => gd (z_b q.1) (some (q.1, q.2))) := by
    unfold f_X11_step
    rw [u1]
    simp only [Option.bind_some]
    rw [mI_in (a := ν j) (n := 1200) (by omega) u3, nI_clamp (show ν j < 2 ^ 31 by omega), h81]
    simp only [gd_t]
    rw [if_neg (by decide), if_neg (by decide), if_neg (by decide), if_neg (by decide), if_neg (by decide), if_pos (by decide)]
  rw [hun]
  have gs : in_b (nI (b x0 + k0)) 520000 = true := mI_in (a := b x0 + k0) (n := 520000) (by omega) (by omega)
  have gc : (nI (b x0 + k0)).toNatClampNeg = b x0 + k0 := nI_clamp (by omega)
  have gn : in_b (nI (ν j)) 1200 = true := mI_in (a := ν j) (n := 1200) (by omega) u3
  have gnc : (nI (ν j)).toNatClampNeg = ν j := nI_clamp (by omega)
  cases hlk : lk (A x0) j with
  | none =>
    rw [hlk] at u5
    have u5 : S.1 128 (b x0 + k0) = -1 := u5
    obtain ⟨n1, n2, n3⟩ := hn.1 hlk
    have n2 := n2 hv0
    obtain ⟨s1, v1, v2, v3, v4⟩ := op_at T R I h hx0 hzx hr
    have hbr : f_X11_branch fu (nI x0) (nI (ν j)) (nI (b x0 + k0)) S = (if S.1 126 s1 ≠ 0 then (if S.1 126 s1 ≠ 4 then (if (lg_cmp (S.2.1 127 s1) 1 : Int32) ≠ 0 then ((f_X11_enter fu (nI (ρ (4 * j + 1))) (nI x0) (-1) (-1) (uI S 75 72 (S.1 75 72 + 1))).bind (fun qS8 => some (1, (uI qS8.2 128 (b x0 + k0) qS8.1)))) else ((f_X11_enter fu (nI (ρ (4 * j))) (nI x0) (-1) (-1) (uI S 75 72 (S.1 75 72 + 1))).bind (fun qS11 => some (1, (uI qS11.2 128 (b x0 + k0) qS11.1))))) else ((f_X11_event (nI (b x0 + k0)) 4 (S.2.1 127 s1) S).bind (fun qS14 => gd (z_b qS14.1) (some (qS14.1, qS14.2))))) else (some (0, S))) := by
      unfold f_X11_branch
      rw [gs, gc, gn, gnc, h83, v1]
      simp only [gd_t, Option.bind_some]
      rw [if_pos u5, mI_in (a := s1) (n := 520000) (by omega) (by omega), nI_clamp (show s1 < 2 ^ 31 by omega), h110, h111]
      simp only [gd_t]
    rw [hbr]
    cases hv : vals (A x0) (otk x) with
    | none =>
      rw [if_neg (fun q => q ((sl_0 v3).mpr hv))]
      exact ⟨0, S, rfl, so_zero w I hx0 hz hr hk0 (rgL_nd R) hv0 (fun _ _ _ => rfl) (fun _ _ _ => rfl) (.inl ⟨hlk, hv⟩)⟩
    | some a =>
      have t1 := v4 a hv
      rw [if_pos (fun q => by have := (sl_0 v3).mp q; rw [hv] at this; cases this)]
      rw [hv] at v3
      by_cases c4 : a.1 = 4
      · rw [if_neg (fun q => q ((sl_4 v3).mpr c4))]
        have hNI : NI K V y ar (EnA nA A) (upV vals (A x0) j (some a)) (fun e => e ∈ (A x0, j, 0) :: Lv) (A x0) (lk (A x0) j) (.tag 6 (.tag j (.append x (.append y1 y2))), γ, r) := by
          rw [hlk]
          refine ⟨fun _ => ⟨n1, fun q => ?_, fun a' q => ?_⟩, fun P' q => ?_⟩
          · rw [upV_eq] at q
            cases q
          · rw [upV_eq] at q
            have q := Option.some.inj q
            subst q
            exact ⟨List.mem_cons_self, c4, upV_mono hv0 hv⟩
          · cases q
        obtain ⟨S', p1, p2⟩ := so_ev (i := 0) (k := 4) w T R I h hx0 hz hr hk0 hv0 (by rw [c4]; rfl) (Ec_Sl v3) (fun q => n2 0 q) hNI ⟨t1.1, fun q => absurd c4 q⟩ (fun En' Va' De' hcl s1 s2 => by
          have := clo_at hcl (s1 x0 hx0) hP hz hr a (s2 _ _ _ hv)
          exact ⟨this.2.1 c4, this.1⟩)
        rw [p1]
        exact ⟨1, S', rfl, p2⟩
      · rw [if_pos (fun q => c4 ((sl_4 v3).mp q))]
        have k2 : a.1 = 2 := by rw [t1.2 c4]; exact gt
        have e1 : S.2.1 127 s1 = a.2.1 := (v3.2.2.2.1 (by omega)).1
        rw [e1]
        have i10 := I.2.2.2.2.2.2.2.2.2
        have go : ∀ (k : Nat) (yk : TR), k < 2 → (k = 0 → a.2.1 = 1 ∧ yk = y1) → (k = 1 → a.2.1 ≠ 1 ∧ yk = y2) → ∃ S3, f_X11_enter fu (nI (ρ (4 * j + k))) (nI x0) (-1) (-1) (uI S 75 72 (S.1 75 72 + 1)) = some (nI nA, S3) ∧ SO K V y q0 ar ν ρ S nA nS nT A b vals lk M Lv f1 f2 x0 k0 (.tag 6 (.tag j (.append x (.append y1 y2))), γ, r) 1 (uI S3 128 (b x0 + k0) (nI nA)) := by
          intro k yk hk hk0' hk1'
          have hown : own y ((4 * j + k, 0) :: A x0) = (A x0, j) := own_nd w hz (k := k) (i := 0) (by omega) (.inl rfl) (A x0)
          have hnE : ¬ EnA nA A ((4 * j + k, 0) :: A x0) := fun c => n1 _ c hown
          have hP' : POk V y ((4 * j + k, 0) :: A x0) := by
            refine POk_in hz hP ⟨?_, hr.symm⟩
            show 4 * j + k = 4 * j ∨ 4 * j + k = 4 * j + 1
            omega
          have hc1 := cwR_le w (by have := T.m_; have := R.2.1; omega) hP'
          have hc2 := hLB.1 _ hP'
          have hNI4 : ∀ A'' : Nat → TPth, A'' nA = (4 * j + k, 0) :: A x0 → (∀ x, x < nA → A'' x = A x) → NI K V y ar (EnA (nA + 1) A'') vals (fun e => e ∈ [(A x0, j, 0)] ++ Lv) (A x0) (some ((4 * j + k, 0) :: A x0)) (.tag 6 (.tag j (.append x (.append y1 y2))), γ, r) := by
            intro A'' a1 a2
            refine ⟨fun q => ?_, fun P' q => ?_⟩
            · cases q
            · cases q
              refine ⟨List.mem_cons_self, ⟨nA, by omega, a1⟩, a, hv, c4, ?_⟩
              have hkk : k = 0 ∨ k = 1 := by omega
              rcases hkk with hkk | hkk
              · subst hkk
                refine .inl ⟨(hk0' rfl).1, rfl, fun a' qa => ?_⟩
                rw [hv0] at qa
                cases qa
              · subst hkk
                refine .inr ⟨(hk1' rfl).1, rfl, fun a' qa => ?_⟩
                rw [hv0] at qa
                cases qa
          exact so_e1 (fu := fu) (S1 := uI S 75 72 (S.1 75 72 + 1)) (evs := [(A x0, j, 0)]) (g1 := f1) (g2 := f2) (P' := (4 * j + k, 0) :: A x0) (o := nI x0) (x3 := -1) (x4 := -1) T hfu R I h hx0 hz hr hk0 hv0 RF_72 (fun a i q => uI_ne (by omega)) rfl (by
            rw [uI_eq, I.1.2.2.2]
            show nI Lv.length + nI 1 = nI (1 + Lv.length)
            rw [nI_add, Nat.add_comm]) (fun s _ _ => ⟨rfl, rfl⟩) hP' hown hnE (by
            show _ ≤ 496 * (1 + Lv.length + 1) ∧ _ ≤ 21 * (1 + Lv.length + 1)
            omega) (Nat.le_refl _) (fun S'' A'' a1 a2 a3 a4 a5 => by
            refine AL_pl w hz (k := k) (i := 0) (x1 := x0) (Q := A x0) (by omega) hx0 (fun z' hz' q1 q2 => ?_) a1 (a2 x0 hx0) a3
            have := (ou_P w).2 z' hz' _ hz q1
            subst this
            exact ⟨rfl, fun a b q => by cases q⟩) (fun e he => ⟨0, List.mem_singleton.mp he⟩) (List.nodup_cons.mpr ⟨fun q => n2 0 q, I.2.2.2.2.2.2.2.1⟩) hNI4 (fun En' Va' De' hcl s1 s2 => by
            have := clo_at hcl (s1 x0 hx0) hP hz hr a (s2 _ _ _ hv)
            refine ⟨?_, fun e he => by rw [List.mem_singleton.mp he]; exact this.1⟩
            have hkk : k = 0 ∨ k = 1 := by omega
            rcases hkk with hkk | hkk
            · subst hkk
              exact (this.2.2.1 c4 (hk0' rfl).1).1
            · subst hkk
              exact (this.2.2.2 c4 (hk1' rfl).1).1)
        by_cases c1 : a.2.1 = 1
        · rw [if_neg (fun q => q ((lg_cmp_eq _ _).mpr c1))]
          obtain ⟨S3, v5, v6⟩ := go 0 y1 (by omega) (fun _ => ⟨c1, rfl⟩) (fun q => absurd q (by omega))
          have v5 : f_X11_enter fu (nI (ρ (4 * j))) (nI x0) (-1) (-1) (uI S 75 72 (S.1 75 72 + 1)) = some (nI nA, S3) := v5
          rw [v5]
          exact ⟨1, _, rfl, v6⟩
        · rw [if_pos (fun q => c1 ((lg_cmp_eq _ _).mp q))]
          obtain ⟨S3, v5, v6⟩ := go 1 y2 (by omega) (fun q => absurd q (by omega)) (fun _ => ⟨c1, rfl⟩)
          rw [v5]
          exact ⟨1, _, rfl, v6⟩
  | some P' =>
    rw [hlk] at u5
    obtain ⟨x1, t1, t2, t3⟩ := u5
    obtain ⟨d1, d2, a, d3, d4, d5⟩ := hn.2 P' hlk
    have go : ∀ (k : Nat) (yk : TR), k < 2 → P' = (4 * j + k, 0) :: A x0 → (yk, γ, 4 * j + k) ∈ scP y → (4 * j + k, nds yk, some (otk yk)) ∈ rgP y → tyV K V yk = tyV K V y1 → (k = 0 → a.2.1 = 1 ∧ yk = y1) → (k = 1 → a.2.1 ≠ 1 ∧ yk = y2) → ∃ ans S', (f_X11_branch fu (nI x0) (nI (ν j)) (nI (b x0 + k0)) S).bind (fun q => gd (z_b q.1) (some (q.1, q.2))) = some (ans, S') ∧ SO K V y q0 ar ν ρ S nA nS nT A b vals lk M Lv f1 f2 x0 k0 (.tag 6 (.tag j (.append x (.append y1 y2))), γ, r) ans S' := by
      intro k yk hk hP2 hzk hgk htk hk0' hk1'
      obtain ⟨s', z1, z2, z3, z4⟩ := rt_at T R I h t1 hzk (by rw [t2, hP2]; rfl) hgk
      rw [t2] at z3 z4
      have hNI5 : ∀ a', vals P' (otk yk) = some a' → NI K V y ar (EnA nA A) (upV vals (A x0) j (some a')) (fun e => e ∈ Lv) (A x0) (lk (A x0) j) (.tag 6 (.tag j (.append x (.append y1 y2))), γ, r) := by
        intro a' qa
        rw [hlk]
        refine ⟨fun q => ?_, fun P2 q => ?_⟩
        · cases q
        · cases q
          refine ⟨d1, d2, a, upV_mono hv0 d3, d4, ?_⟩
          have hkk : k = 0 ∨ k = 1 := by omega
          rcases hkk with hkk | hkk
          · subst hkk
            refine .inl ⟨(hk0' rfl).1, hP2, fun a2 qa2 => ?_⟩
            rw [upV_eq] at qa2
            rw [← Option.some.inj qa2, ← (hk0' rfl).2]
            exact upV_mono hv0 qa
          · subst hkk
            refine .inr ⟨(hk1' rfl).1, hP2, fun a2 qa2 => ?_⟩
            rw [upV_eq] at qa2
            rw [← Option.some.inj qa2, ← (hk1' rfl).2]
            exact upV_mono hv0 qa
      obtain ⟨ans, S', p1, p2, p3⟩ := so_pass w T R I h hx0 hz hr hk0 hv0 z2 z3 (fun a' qa => by
        have := z4 a' qa
        rw [htk] at this
        exact this) (fun qn => .inr ⟨P', hlk, fun q => by
        have hkk : k = 0 := by
          rw [hP2] at q
          have : 4 * j + k = 4 * j := congrArg hdR q
          omega
        rw [← (hk0' hkk).2]
        exact qn, fun q => by
        have hkk : k = 1 := by
          rw [hP2] at q
          have : 4 * j + k = 4 * j + 1 := congrArg hdR q
          omega
        rw [← (hk1' hkk).2]
        exact qn⟩) hNI5 (fun a' qa En' Va' De' hcl s1 s2 => by
        have := clo_at hcl (s1 x0 hx0) hP hz hr a (s2 _ _ _ d3)
        have q2 := s2 _ _ _ qa
        have hkk : k = 0 ∨ k = 1 := by omega
        rcases hkk with hkk | hkk
        · subst hkk
          refine (this.2.2.1 d4 (hk0' rfl).1).2 a' ?_
          rw [hP2, (hk0' rfl).2] at q2
          exact q2
        · subst hkk
          refine (this.2.2.2 d4 (hk1' rfl).1).2 a' ?_
          rw [hP2, (hk1' rfl).2] at q2
          exact q2)
      refine ⟨ans, S', ?_, p3⟩
      unfold f_X11_branch
      rw [gs, gc, t3]
      simp only [gd_t]
      rw [if_neg (nI_m1 (show x1 < 2 ^ 31 by omega)), z1]
      simp only [Option.bind_some]
      rw [p1]
      simp only [Option.bind_some]
      rw [p2]
      simp only [gd_t, Option.bind_some]
      rw [p2]
      rfl
    rcases d5 with ⟨e1, e2, -⟩ | ⟨e1, e2, -⟩
    · exact go 0 y1 (by omega) e2 hz1 hin.1 rfl (fun _ => ⟨e1, rfl⟩) (fun q => absurd q (by omega))
    · exact go 1 y2 (by omega) e2 hz2 hin.2 gt' (fun q => absurd q (by omega)) (fun _ => ⟨e1, rfl⟩)
end STI
