/-! steps of the reference: loop -/
section STL
variable {K pl : Nat → Nat} {V : Nat → Int64} {m fr e n' r' fu : Nat} {y : TR} {q0 : Nat} {ar : Nat → Int64} {ν ρ : Nat → Nat} {W : Nat → Int32 × Int32 × Int32} {S S1 : im_S} {nA nS nT : Nat} {A : Nat → TPth} {b : Nat → Nat} {vals : TPth → Nat → Option TVal} {lk : TPth → Nat → Option TPth} {M : Nat → TPth × Nat} {Lv evs : List TEv} {f1 f2 : Nat → Nat} {x0 k0 j r : Nat} {γ : List Nat}
theorem lp_tab (w : PW K y 0 e) {z : TR × List Nat × Nat} (hz : z ∈ scP y) (hl : lpK z.1 = true) {z' : TR × List Nat × Nat} (hz' : z' ∈ scP y) (q : otk z'.1 = otk z.1) (a b : TR) : z'.1 ≠ .tag 11 (.tag (otk z.1) (.append a b)) := fun c => by
  have := (ou_P w).2 z' hz' z hz q
  rw [← this, c] at hl
  cases hl
/-- a round's path -/
theorem AL_rd (w : PW K y 0 e) {z : TR × List Nat × Nat} (hz : z ∈ scP y) (hl : lpK z.1 = true) {i x1 x : Nat} {Q : TPth} (hx1 : x1 < x) (hA : A x = (4 * otk z.1, i) :: Q) (hA1 : A x1 = Q) (h121 : S.1 121 x = nI x1) (h0 : i = 0 → S.1 124 x = -1) (h1 : ∀ i', i = i' + 1 → ∃ xp xn, xp < x ∧ xn < x ∧ A xp = (4 * otk z.1, i') :: Q ∧ A xn = (4 * otk z.1 + 1, 0) :: (4 * otk z.1, i') :: Q ∧ S.1 124 x = nI xp ∧ S.1 125 x = nI xn) : AL y ν S A x := by
  intro c Q' hc
  rw [hA] at hc
  cases hc
  have hn : ¬ (4 * otk z.1) / 4 ∈ (ftP y).map Prod.fst := by
    rw [show (4 * otk z.1) / 4 = otk z.1 by omega]
    exact fun q => (ft_fu w).2.2 _ q z hz rfl
  refine ⟨fun q => absurd q hn, fun _ => ⟨x1, hx1, hA1, h121⟩, fun z' hz' q1 q2 => ⟨h0, h1⟩, fun j2 a b γ2 r2 hz2 q2 => ?_⟩
  have q2 : 4 * otk z.1 = 4 * j2 := q2
  have hj : j2 = otk z.1 := by omega
  subst hj
  exact absurd rfl (lp_tab w hz hl hz2 rfl a b)
/-- the first round -/
theorem st_7a (T : TH K pl V m) (hfu : 30000 ≤ fu) (R : RHd K pl V m fr y e n' r' ν ρ W S) (I : RI K V y q0 ar ν ρ S nA nS nT A b vals lk M Lv f1 f2) (h : Lv.length ≤ 1000) (hx0 : x0 < nA) {fs c ns g : TR} (hz : (.tag 7 (.tag j (.append fs (.append c (.append ns g)))), γ, r) ∈ scP y) (hr : r = hdR (A x0)) (hk0 : (rgL y (hdR (A x0)))[k0]? = some j) (hv0 : vals (A x0) j = none) (hlk : lk (A x0) j = none) : ∃ S3, f_X11_enter fu (nI (ρ (4 * j))) (nI x0) (-1) (-1) S = some (nI nA, S3) ∧ SO K V y q0 ar ν ρ S nA nS nT A b vals lk M Lv f1 f2 x0 k0 (.tag 7 (.tag j (.append fs (.append c (.append ns g)))), γ, r) 1 (uI S3 128 (b x0 + k0) (nI nA)) := by
  have hb := RI_b I h
  have w := R.1
  have hP := (I.2.2.1 x0 hx0).1
  have hsl := (I.2.2.1 x0 hx0).2.2.2.1
  have hl := (List.getElem?_eq_some_iff.mp hk0).1
  have hnn := I.2.2.2.2.2.2.1 x0 hx0 _ hz hr
  obtain ⟨n1, n2, n3⟩ := hnn.1.1 hlk
  obtain ⟨m1, m2⟩ := hnn.2.2 hlk k0 hk0
  have m1 : 0 + cw 1 0 c ≤ f1 (b x0 + k0) := m1
  have m2 : 1 + cw 0 1 c ≤ f2 (b x0 + k0) := m2
  have hw1 : cwR 1 0 y (4 * j) = cw 1 0 c := (cwR_n (u := 1) (v := 0) w hz).1
  have hw2 : cwR 0 1 y (4 * j) = cw 0 1 c := (cwR_n (u := 0) (v := 1) w hz).1
  have hown : own y ((4 * j, 0) :: A x0) = (A x0, j) := own_nd w hz (k := 0) (i := 0) (by omega) (.inr rfl) (A x0)
  have hnE : ¬ EnA nA A ((4 * j, 0) :: A x0) := fun q => n2 _ q hown
  have hP' : POk V y ((4 * j, 0) :: A x0) := POk_in hz hP (.inl ⟨rfl, hr.symm⟩)
  have i10 := I.2.2.2.2.2.2.2.2.2
  have p1 := tot_up (f := f1) (g := upN f1 (b x0 + k0) 0) (s := b x0 + k0) nS (by omega) (fun i _ q => upN_ne q)
  have p2 := tot_up (f := f2) (g := upN f2 (b x0 + k0) 0) (s := b x0 + k0) nS (by omega) (fun i _ q => upN_ne q)
  rw [upN_eq] at p1 p2
  have hNI4 : ∀ A'' : Nat → TPth, A'' nA = (4 * j, 0) :: A x0 → (∀ x, x < nA → A'' x = A x) → NI K V y ar (EnA (nA + 1) A'') vals (fun e => e ∈ [] ++ Lv) (A x0) (some ((4 * j, 0) :: A x0)) (.tag 7 (.tag j (.append fs (.append c (.append ns g)))), γ, r) := by
    intro A'' a1 a2
    refine ⟨fun q => ?_, fun P' q => ?_⟩
    · cases q
    · cases q
      refine ⟨0, ⟨nA, by omega, a1⟩, fun i hi => absurd hi (by omega), .inl ⟨rfl, hv0, fun P2 q1 q2 => ?_, fun i q => absurd (n3 i q) id⟩⟩
      obtain ⟨x', q3, q4⟩ := q1
      by_cases hx' : x' = nA
      · rw [hx', a1] at q4
        exact .inl ⟨0, Nat.le_refl _, q4.symm⟩
      · rw [a2 x' (by omega)] at q4
        exact absurd (n2 P2 ⟨x', by omega, q4⟩ q2) id
  exact so_e1 (fu := fu) (S1 := S) (evs := []) (g1 := upN f1 (b x0 + k0) 0) (g2 := upN f2 (b x0 + k0) 0) (P' := (4 * j, 0) :: A x0) (o := nI x0) (x3 := -1) (x4 := -1) T hfu R I h hx0 hz hr hk0 hv0 RF.rfl' (fun a i q => rfl) rfl (by
    rw [I.1.2.2.2]
    show nI Lv.length = nI (0 + Lv.length)
    rw [Nat.zero_add]) (fun s _ q => ⟨upN_ne q, upN_ne q⟩) hP' hown hnE (by
    show nS + tot (upN f1 (b x0 + k0) 0) nS + cwR 1 0 y (4 * j) ≤ 496 * (0 + Lv.length + 1) ∧ nA + 1 + tot (upN f2 (b x0 + k0) 0) nS + cwR 0 1 y (4 * j) ≤ 21 * (0 + Lv.length + 1)
    omega) (Nat.zero_le _) (fun S'' A'' a1 a2 a3 a4 a5 => AL_rd w hz rfl hx0 a1 (a2 x0 hx0) a3 (fun _ => a4) (fun i' q => absurd q (by omega))) (fun e he => absurd he List.not_mem_nil) I.2.2.2.2.2.2.2.1 hNI4 (fun En' Va' De' hcl s1 s2 => ⟨(clo_at hcl (s1 x0 hx0) hP hz hr).1, fun e he => absurd he List.not_mem_nil⟩)
/-- a round is decided, and the next one is entered -/
theorem st_7b (T : TH K pl V m) (hfu : 30000 ≤ fu) (R : RHd K pl V m fr y e n' r' ν ρ W S) (I : RI K V y q0 ar ν ρ S nA nS nT A b vals lk M Lv f1 f2) (h : Lv.length ≤ 1000) (hLB : LB V y) (hx0 : x0 < nA) {fs c ns g : TR} (hz : (.tag 7 (.tag j (.append fs (.append c (.append ns g)))), γ, r) ∈ scP y) (hr : r = hdR (A x0)) (hk0 : (rgL y (hdR (A x0)))[k0]? = some j) (hv0 : vals (A x0) j = none) {x1 mm : Nat} (hx1 : x1 < nA) (hA1 : A x1 = (4 * j, mm) :: A x0) (hlk : lk (A x0) j = some ((4 * j, mm) :: A x0))
    (hrd : ∀ i, i < mm → EnA nA A ((4 * j, i) :: A x0) ∧ EnA nA A ((4 * j + 1, 0) :: (4 * j, i) :: A x0) ∧ (A x0, j, i) ∈ Lv ∧ ∃ a, vals ((4 * j, i) :: A x0) (otk c) = some a ∧ a.1 ≠ 4 ∧ a.2.1 ≠ 0) (hUB : UB y (EnA nA A) (A x0) j (rdC j mm (A x0))) (hEB : EB (fun e => e ∈ Lv) (A x0) j (fun i => i < mm)) {a : TVal} (ha : vals ((4 * j, mm) :: A x0) (otk c) = some a) (ha4 : a.1 ≠ 4) (ha0 : a.2.1 ≠ 0) :
    ∃ S3 S4, f_X11_enter fu (nI (ρ (4 * j + 1))) (nI x1) (-1) (-1) (uI S 75 72 (S.1 75 72 + 1)) = some (nI nA, S3) ∧ f_X11_enter fu (nI (ρ (4 * j))) (nI x0) (nI x1) (nI nA) S3 = some (nI (nA + 1), S4) ∧ (∀ i : Nat, S3.1 110 i = S.1 110 i) ∧ SO K V y q0 ar ν ρ S nA nS nT A b vals lk M Lv f1 f2 x0 k0 (.tag 7 (.tag j (.append fs (.append c (.append ns g)))), γ, r) 1 (uI S4 128 (b x0 + k0) (nI (nA + 1))) := by
  have hb := RI_b I h
  have w := R.1
  have hP := (I.2.2.1 x0 hx0).1
  have hPr := (I.2.2.1 x1 hx1).1
  rw [hA1] at hPr
  obtain ⟨N, hN⟩ : ∃ N : TPth, N = (4 * j + 1, 0) :: (4 * j, mm) :: A x0 := ⟨_, rfl⟩
  obtain ⟨Q, hQ⟩ : ∃ Q : TPth, Q = (4 * j, mm + 1) :: A x0 := ⟨_, rfl⟩
  have ownN : own y N = (A x0, j) := by rw [hN]; exact own_lp w hz (k := 1) (i := 0) (by omega) (by omega) rfl (A x0)
  have ownQ : own y Q = (A x0, j) := by rw [hQ]; exact own_nd w hz (k := 0) (i := mm + 1) (by omega) (.inr rfl) (A x0)
  have nN : ¬ EnA nA A N := fun q => by
    rcases hUB N q ownN with ⟨i, c1, c2⟩ | ⟨i, c1, c2⟩
    · rw [hN] at c2
      have : 4 * j + 1 = 4 * j := congrArg hdR c2
      omega
    · rw [hN] at c2
      have c3 : (4 * j, mm) :: A x0 = (4 * j, i) :: A x0 := congrArg List.tail c2
      have : mm = i := congrArg (fun l : TPth => (l.headD (0, 0)).2) c3
      omega
  have nQ : ¬ EnA nA A Q := fun q => by
    rcases hUB Q q ownQ with ⟨i, c1, c2⟩ | ⟨i, c1, c2⟩
    · rw [hQ] at c2
      have : mm + 1 = i := congrArg (fun l : TPth => (l.headD (0, 0)).2) c2
      omega
    · rw [hQ] at c2
      have : 4 * j = 4 * j + 1 := congrArg hdR c2
      omega
  have PN : POk V y N := by
    rw [hN]
    exact POk_in hz hPr (.inr ⟨.inl rfl, rfl⟩)
  have PQ : POk V y Q := by
    rw [hQ]
    exact POk_in hz hP (.inl ⟨rfl, hr.symm⟩)
  have hNQ : N ≠ Q := fun q => by
    rw [hN, hQ] at q
    have : 4 * j + 1 = 4 * j := congrArg hdR q
    omega
  have hdN : hdR N = 4 * j + 1 := by rw [hN]; rfl
  have hdQ : hdR Q = 4 * j := by rw [hQ]; rfl
  have hlN := rgL_le w (by have := T.m_; have := R.2.1; omega) PN
  have hlQ := rgL_le w (by have := T.m_; have := R.2.1; omega) PQ
  obtain ⟨p', e', wz, z3, z4⟩ := wb_z w hz
  obtain ⟨-, b1, d1, g1, n1, n2, w1, w2, w3, w4⟩ := wz
  have hm := T.m_
  have he := R.2.1
  have hcs : cwR 1 0 y (4 * j + 1) + cwR 1 0 y (4 * j) ≤ 496 := by
    have hc := cwR_n (u := 1) (v := 0) w hz
    have k1 := cw_le w2
    have k2 := cw_le w3
    have := Wt_lt w1; have := Wt_lt w2; have := Wt_lt w3; have := Wt_lt w4
    rw [hc.1, hc.2.1]
    omega
  have hca : 2 + cwR 0 1 y (4 * j + 1) + cwR 0 1 y (4 * j) ≤ 21 := hLB.2 _ hz rfl
  have i10 := I.2.2.2.2.2.2.2.2.2
  have R1 : RHd K pl V m fr y e n' r' ν ρ W (uI S 75 72 (S.1 75 72 + 1)) := RHd_rf R RF_72
  obtain ⟨S1, hS1⟩ : ∃ S1, S1 = uI S 75 72 (S.1 75 72 + 1) := ⟨_, rfl⟩
  rw [← hS1] at R1 ⊢
  have hf1 : ∀ a i : Nat, (a = 75 → i ≠ 72) → S1.1 a i = S.1 a i := fun a i q => by rw [hS1, uI_ne (by omega)]
  have hE0 : EnL y ρ S1 S1 nA nS 0 nS A b (fun _ => 0) (fun _ => 0) (fun _ => 0) f1 f2 0 0 := EnL_nil ((hf1 75 57 (by omega)).trans I.1.1) ((hf1 75 64 (by omega)).trans I.1.2.1)
  obtain ⟨S3, v1, v2⟩ := EnL_sn (fu := fu) T (by omega) R1 hE0 PN (o := nI x1) (x3 := -1) (x4 := -1) (by omega) (by omega)
  obtain ⟨S4, v3, v4⟩ := EnL_sn (fu := fu) T (by omega) R1 v2 PQ (o := nI x0) (x3 := nI x1) (x4 := nI nA) (by omega) (by omega)
  refine ⟨S3, S4, by rw [← hdN]; exact v1, by rw [← hdQ]; exact v3, fun i => (v2.2.2.2.2.2.2.1 110 i (by omega) (by omega) (by omega)).trans (hf1 110 i (by omega)), ?_⟩
  have v4' := v4
  obtain ⟨-, -, -, -, -, -, -, -, q1, q2⟩ := v4'
  obtain ⟨A'', hA''⟩ : ∃ A'' : Nat → TPth, A'' = upN (upN A (nA + 0) N) (nA + (0 + 1)) Q := ⟨_, rfl⟩
  have aN : A'' nA = N := by
    rw [hA'', upN_ne (by omega)]
    exact if_pos (by omega)
  have aQ : A'' (nA + 1) = Q := by
    rw [hA'']
    exact if_pos (by omega)
  have aO : ∀ x, x < nA → A'' x = A x := fun x hx => by rw [hA'', upN_ne (by omega), upN_ne (by omega)]
  rw [← hA''] at v4
  have eo1 : ∀ s, s < nS → exF 1 0 y (exF 1 0 y f1 nS (hdR N)) (nS + (rgL y (hdR N)).length) (hdR Q) s = f1 s := fun s hs => by rw [exF_lo (by omega), exF_lo hs]
  have eo2 : ∀ s, s < nS → exF 0 1 y (exF 0 1 y f2 nS (hdR N)) (nS + (rgL y (hdR N)).length) (hdR Q) s = f2 s := fun s hs => by rw [exF_lo (by omega), exF_lo hs]
  rw [tot_cg nS eo1] at q1
  rw [tot_cg nS eo2] at q2
  rw [hdN, hdQ] at q1 q2
  refine so_ent (n := 0 + 1 + 1) (evs := [(A x0, j, mm)]) w I hx0 hz hr hk0 (rgL_nd R) hv0 hf1 (by rw [hS1]; rfl) (by
    rw [hS1, uI_eq, I.1.2.2.2]
    show nI Lv.length + nI 1 = nI (1 + Lv.length)
    rw [nI_add, Nat.add_comm]) v4 (by omega) (fun x hx => ⟨aO x hx, by rw [upN_ne (by omega), upN_ne (by omega)]⟩) (fun s hs _ => ⟨eo1 s hs, eo2 s hs⟩) (fun x c1 c2 => ?_) (fun x x' c1 c2 c3 => ?_) (fun S'' hS'' x c1 c2 => ?_) (fun e he => ⟨mm, List.mem_singleton.mp he⟩) (List.nodup_cons.mpr ⟨fun q => absurd (hEB mm q) (by omega), I.2.2.2.2.2.2.2.1⟩) ?_ (fun En' Va' De' hcl s1 s2 => ⟨fun x c1 c2 => ?_, fun e he => ?_⟩) ⟨?_, ?_⟩ (by show 1 ≤ 21; omega)
  · by_cases hx : x = nA
    · rw [hx, aN]
      exact ⟨ownN, nN, PN⟩
    · rw [show x = nA + 1 by omega, aQ]
      exact ⟨ownQ, nQ, PQ⟩
  · rw [show x = nA by omega, show x' = nA + 1 by omega, aN, aQ]
    exact hNQ
  · by_cases hx : x = nA
    · obtain ⟨t1, t2, t3⟩ := hS'' x c1 c2
      rw [hx] at t1 ⊢
      rw [upN_ne (by omega), show upN (fun _ => (0 : Int32)) (nA + 0) (nI x1) nA = nI x1 from if_pos (by omega)] at t1
      refine AL_pl w hz (k := 1) (i := 0) (x1 := x1) (Q := (4 * j, mm) :: A x0) (by omega) hx1 (fun z' hz' q1 q2 => absurd q2 (by omega)) ?_ ((aO x1 hx1).trans hA1) t1
      rw [aN, hN]
      rfl
    · have hx2 : x = nA + 1 := by omega
      obtain ⟨t1, t2, t3⟩ := hS'' x c1 c2
      rw [hx2] at t1 t2 t3 ⊢
      rw [show upN (upN (fun _ => (0 : Int32)) (nA + 0) (nI x1)) (nA + (0 + 1)) (nI x0) (nA + 1) = nI x0 from if_pos (by omega)] at t1
      rw [show upN (upN (fun _ => (0 : Int32)) (nA + 0) (-1)) (nA + (0 + 1)) (nI x1) (nA + 1) = nI x1 from if_pos (by omega)] at t2
      rw [show upN (upN (fun _ => (0 : Int32)) (nA + 0) (-1)) (nA + (0 + 1)) (nI nA) (nA + 1) = nI nA from if_pos (by omega)] at t3
      refine AL_rd w hz rfl (i := mm + 1) (x1 := x0) (Q := A x0) (by omega) ?_ (aO x0 hx0) t1 (fun q => absurd q (by omega)) (fun i' hi' => ?_)
      · rw [aQ, hQ]
        rfl
      · have : i' = mm := by omega
        subst this
        refine ⟨x1, nA, by omega, by omega, (aO x1 hx1).trans hA1, ?_, t2, t3⟩
        rw [aN, hN]
        rfl
  · show NI K V y ar (EnA (nA + (0 + 1 + 1)) A'') vals (fun e => e ∈ [(A x0, j, mm)] ++ Lv) (A x0) (some (A'' (nA + 1))) _
    rw [aQ, hQ]
    refine ⟨fun q => ?_, fun P' q => ?_⟩
    · cases q
    · cases q
      have hen : ∀ P', EnA nA A P' → EnA (nA + (0 + 1 + 1)) A'' P' := fun P' ⟨x, c1, c2⟩ => ⟨x, by omega, (aO x c1).trans c2⟩
      refine ⟨mm + 1, ⟨nA + 1, by omega, by rw [aQ, hQ]⟩, fun i hi => ?_, .inl ⟨rfl, hv0, fun P2 c1 c2 => ?_, fun i c1 => ?_⟩⟩
      · by_cases him : i = mm
        · rw [him]
          exact ⟨⟨x1, by omega, (aO x1 hx1).trans hA1⟩, ⟨nA, by omega, by rw [aN, hN]⟩, List.mem_cons_self, a, ha, ha4, ha0⟩
        · obtain ⟨r1, r2, r3, r4⟩ := hrd i (by omega)
          exact ⟨hen _ r1, hen _ r2, List.mem_cons_of_mem _ r3, r4⟩
      · obtain ⟨x', c3, c4⟩ := c1
        by_cases hx' : x' < nA
        · rw [aO x' hx'] at c4
          rcases hUB P2 ⟨x', hx', c4⟩ c2 with ⟨i, d1, d2⟩ | ⟨i, d1, d2⟩
          · exact .inl ⟨i, by omega, d2⟩
          · exact .inr ⟨i, by omega, d2⟩
        · by_cases hx2 : x' = nA
          · rw [hx2, aN, hN] at c4
            exact .inr ⟨mm, by omega, c4.symm⟩
          · rw [show x' = nA + 1 by omega, aQ, hQ] at c4
            exact .inl ⟨mm + 1, Nat.le_refl _, c4.symm⟩
      · show i < mm + 1
        rcases List.mem_append.mp c1 with c1 | c1
        · have := congrArg (fun u => u.2.2) (List.mem_singleton.mp c1)
          have : i = mm := this
          omega
        · have := hEB i c1
          omega
  · have hcl2 := (clo_at hcl (s1 x0 hx0) hP hz hr).2 mm a (by rw [← hA1]; exact s1 x1 hx1) (s2 _ _ _ ha)
    have hcl3 := hcl2.2.2.1 ha4 ha0
    by_cases hx : x = nA
    · rw [hx, aN, hN]
      exact hcl3.1
    · rw [show x = nA + 1 by omega, aQ, hQ]
      exact hcl3.2
  · have hcl2 := (clo_at hcl (s1 x0 hx0) hP hz hr).2 mm a (by rw [← hA1]; exact s1 x1 hx1) (s2 _ _ _ ha)
    rw [List.mem_singleton.mp he]
    exact hcl2.1
  · show _ ≤ 496 * (1 + Lv.length + 1)
    rw [hdN, hdQ]
    omega
  · show _ ≤ 21 * (1 + Lv.length + 1)
    rw [hdN, hdQ]
    omega
end STL
