/-! steps of the reference: a table is made, 2 -/
section STU
variable {K pl : Nat → Nat} {V : Nat → Int64} {m fr e n' r' fu : Nat} {y : TR} {q0 : Nat} {ar : Nat → Int64} {ν ρ : Nat → Nat} {W : Nat → Int32 × Int32 × Int32} {S S1 : im_S} {nA nS nT : Nat} {A : Nat → TPth} {b : Nat → Nat} {vals : TPth → Nat → Option TVal} {lk : TPth → Nat → Option TPth} {M : Nat → TPth × Nat} {Lv evs : List TEv} {f1 f2 : Nat → Nat} {x0 k0 j r : Nat} {γ : List Nat}
theorem AL_ce (w : PW K y 0 e) {a c : TR} (hz : (.tag 11 (.tag j (.append a c)), γ, r) ∈ scP y) {i x1 x : Nat} {Q : TPth} (hx1 : x1 < x) (hA : A x = (4 * j, i) :: Q) (hA1 : A x1 = Q) (h121 : S.1 121 x = nI x1) (h125 : S.1 125 x = nI i) (hi : i < 20) : AL y ν S A x := by
  intro d Q' hc
  rw [hA] at hc
  cases hc
  have hn : ¬ (4 * j) / 4 ∈ (ftP y).map Prod.fst := by
    rw [show (4 * j) / 4 = j by omega]
    exact fun q => (ft_fu w).2.2 _ q _ hz rfl
  refine ⟨fun q => absurd q hn, fun _ => ⟨x1, hx1, hA1, h121⟩, fun z' hz' q1 q2 => ?_, fun j2 a2 b2 γ2 r2 hz2 q2 => ⟨h125, hi⟩⟩
  have q2 : 4 * j = 4 * otk z'.1 := q2
  have := (ou_P w).2 z' hz' _ hz (by show otk z'.1 = j; omega)
  rw [this] at q1
  cases q1
/-- the table itself -/
theorem st_11a (T : TH K pl V m) (hfu : 30000 ≤ fu) (R : RHd K pl V m fr y e n' r' ν ρ W S) (I : RI K V y q0 ar ν ρ S nA nS nT A b vals lk M Lv f1 f2) (h : Lv.length ≤ 1000) (hLB : LB V y) (hx0 : x0 < nA) {x x' : TR} (hz : (.tag 11 (.tag j (.append x x')), γ, r) ∈ scP y) (hr : r = hdR (A x0)) (hk0 : (rgL y (hdR (A x0)))[k0]? = some j) (hv0 : vals (A x0) j = none) {a : TVal} {n : Nat} {z4 : Int32} (ha : vals (A x0) (otk x) = some a) (ha4 : a.1 ≠ 4) (hab : ¬ bad20 a.2.1) (hn : n ≤ 20) (han : a.2.1 = Int64.ofNat n) (hi64 : i64N a.2.1 = n) (h110 : S.1 110 (ν j) = nI (ρ (4 * j))) (hν : ν j < 1200) :
    ∃ S', f_X11_table_L110 fu fu (nI x0) (nI (ν j)) (nI (b x0 + k0)) z4 (nI n) 0 (uI (uI S 129 nT (nI nA)) 130 nT (nI n)) = some (1, S') ∧ SO K V y q0 ar ν ρ S nA nS nT A b vals lk M Lv f1 f2 x0 k0 (.tag 11 (.tag j (.append x x')), γ, r) 1 S' := by
  have hb := RI_b I h
  have w := R.1
  have hP := (I.2.2.1 x0 hx0).1
  have hm := T.m_
  have hem := R.2.1
  have hn1 := (I.2.2.2.2.2.2.1 x0 hx0 _ hz hr).1.1 hv0
  obtain ⟨nU, nE⟩ := hn1
  have hPk : ∀ i, POk V y ((4 * j, i) :: A x0) := fun i => POk_in hz hP ⟨rfl, hr.symm⟩
  have hown : ∀ i, own y ((4 * j, i) :: A x0) = (A x0, j) := fun i => own_nd w hz (k := 0) (i := i) (by omega) (.inl rfl) (A x0)
  have hlen : (rgL y (4 * j)).length ≤ 496 := rgL_le w (by omega) (hPk 0)
  have ht1 : cwR 1 0 y (4 * j) ≤ 496 := cwR_le w (by omega) (hPk 0)
  have ht2 : 1 + cwR 0 1 y (4 * j) ≤ 21 := hLB.1 _ (hPk 0)
  obtain ⟨Sa, hSa⟩ : ∃ Sa, Sa = uI (uI S 129 nT (nI nA)) 130 nT (nI n) := ⟨_, rfl⟩
  rw [← hSa]
  have fa : ∀ a i : Nat, (a = 129 ∨ a = 130 → i ≠ nT) → Sa.1 a i = S.1 a i := fun a i q => by
    rw [hSa, uI_ne (by omega), uI_ne (by omega)]
  have Ra : RHd K pl V m fr y e n' r' ν ρ W Sa := RHd_rf R ⟨fun a i q1 q2 => fa a i (by omega), fun a i q1 q2 => by rw [hSa]; rfl⟩
  have hE0 : EnL y ρ Sa Sa nA nS 0 (nS + 0 * (rgL y (4 * j)).length) A b (fun _ => 0) (fun _ => 0) (fun _ => 0) f1 f2 (0 * cwR 1 0 y (4 * j)) (0 * cwR 0 1 y (4 * j)) := by
    rw [Nat.zero_mul, Nat.zero_mul, Nat.zero_mul]
    exact EnL_nil ((fa 75 57 (by omega)).trans I.1.1) ((fa 75 64 (by omega)).trans I.1.2.1)
  obtain ⟨S3, A', b', c1, c2, c3, g1, g2, hE, hH, hL⟩ := tb_L (fu := fu) (A := A) (b := b) (f1 := f1) (f2 := f2) (x0 := x0) (s0 := b x0 + k0) (z4 := z4) (P := A x0) T (by omega) Ra hn hν ((fa 110 _ (by omega)).trans h110) hPk rfl hlen ⟨hb.1, hb.2.1⟩ rfl rfl n 0 fu Sa A b (fun _ => 0) (fun _ => 0) (fun _ => 0) f1 f2 (by omega) (by omega) hE0 ⟨fun x _ => ⟨rfl, rfl⟩, fun i' q => absurd q (by omega), fun s _ => ⟨rfl, rfl⟩⟩
  have hL : f_X11_table_L110 fu fu (nI x0) (nI (ν j)) (nI (b x0 + k0)) z4 (nI n) 0 Sa = _ := hL
  rw [hL]
  obtain ⟨H1, H2, H3⟩ := hH
  have hE' := hE
  obtain ⟨i1, i2, i3, i4, i5, i6, i7, i8, i9, i10⟩ := hE'
  have hsl := (I.2.2.1 x0 hx0).2.2.2.1
  have hl := (List.getElem?_eq_some_iff.mp hk0).1
  have e68 : S3.1 75 68 = nI nT := by
    rw [i7 75 68 (by omega) (by omega) (by omega), fa 75 68 (by omega)]
    exact I.1.2.2.1
  have e72 : S3.1 75 72 = nI Lv.length := by
    rw [i7 75 72 (by omega) (by omega) (by omega), fa 75 72 (by omega)]
    exact I.1.2.2.2
  have ew : (nI nT + 1 - 1).toInt64 = (nI nT).toInt64 := by
    have e2 : nI (nT + 1) - 1 = nI (nT + 1 - 1) := nI_sub (a := nT + 1) (b := 1) (by omega)
    rw [show nI nT + 1 = nI (nT + 1) from nI_add nT 1, e2]
    rfl
  rw [e68, e72, ew, r_event (by omega)]
  obtain ⟨S', hS'⟩ : ∃ S', S' = uJ (uI (uI (uI (uI S3 75 72 (nI Lv.length + nI n)) 75 68 (nI nT + 1)) 75 72 ((uI (uI S3 75 72 (nI Lv.length + nI n)) 75 68 (nI nT + 1)).1 75 72 + 1)) 126 (b x0 + k0) 3) 127 (b x0 + k0) (nI nT).toInt64 := ⟨_, rfl⟩
  rw [← hS']
  refine ⟨S', rfl, ?_⟩
  have j3 : ∀ a i : Nat, (a = 75 → i ≠ 68 ∧ i ≠ 72) → (a = 126 → i ≠ b x0 + k0) → S'.1 a i = S3.1 a i := fun a' i q1 q2 => by
    rw [hS']
    show (uI (uI (uI (uI S3 75 72 (nI Lv.length + nI n)) 75 68 (nI nT + 1)) 75 72 ((uI (uI S3 75 72 (nI Lv.length + nI n)) 75 68 (nI nT + 1)).1 75 72 + 1)) 126 (b x0 + k0) 3).1 a' i = _
    rw [uI_ne (by omega), uI_ne (by omega), uI_ne (by omega), uI_ne (by omega)]
  have j72 : S'.1 75 72 = nI (Lv.length + n + 1) := by
    rw [hS']
    show (uI (uI (uI (uI S3 75 72 (nI Lv.length + nI n)) 75 68 (nI nT + 1)) 75 72 ((uI (uI S3 75 72 (nI Lv.length + nI n)) 75 68 (nI nT + 1)).1 75 72 + 1)) 126 (b x0 + k0) 3).1 75 72 = _
    rw [uI_ne (by omega), uI_eq, uI_ne (by omega), uI_eq, nI_add]
    exact nI_add _ 1
  have j68 : S'.1 75 68 = nI (nT + 1) := by
    rw [hS']
    show (uI (uI (uI (uI S3 75 72 (nI Lv.length + nI n)) 75 68 (nI nT + 1)) 75 72 ((uI (uI S3 75 72 (nI Lv.length + nI n)) 75 68 (nI nT + 1)).1 75 72 + 1)) 126 (b x0 + k0) 3).1 75 68 = _
    rw [uI_ne (by omega), uI_ne (by omega), uI_eq]
    exact nI_add nT 1
  have j126 : S'.1 126 (b x0 + k0) = nI 3 := by
    rw [hS']
    show (uI (uI (uI (uI S3 75 72 (nI Lv.length + nI n)) 75 68 (nI nT + 1)) 75 72 ((uI (uI S3 75 72 (nI Lv.length + nI n)) 75 68 (nI nT + 1)).1 75 72 + 1)) 126 (b x0 + k0) 3).1 126 (b x0 + k0) = _
    rw [uI_eq]
    rfl
  have j127 : S'.2.1 127 (b x0 + k0) = (nI nT).toInt64 := by rw [hS', uJ_eq]
  have k3 : ∀ a i : Nat, (a = 127 → i ≠ b x0 + k0) → S'.2.1 a i = S.2.1 a i := fun a' i q => by
    rw [hS', uJ_ne (by omega)]
    show S3.2.1 a' i = _
    rw [i8, hSa]
    rfl
  have g3 : ∀ a i : Nat, (a = 75 → i ≠ 57 ∧ i ≠ 64 ∧ i ≠ 68 ∧ i ≠ 72) → (120 ≤ a → a ≤ 125 → i < nA) → (a = 126 ∨ a = 128 → i < nS) → (a = 126 → i ≠ b x0 + k0) → (a = 129 ∨ a = 130 → i ≠ nT) → S'.1 a i = S.1 a i := fun a' i q1 q2 q3 q4 q5 => by
    rw [j3 a' i (by omega) q4, i7 a' i (by omega) q2 q3, fa a' i q5]
  have hevl : ((List.range (n + 1)).map (fun i => ((A x0, j, i) : TEv))).length = n + 1 := by rw [List.length_map, List.length_range]
  have hevm : ∀ i, i < n + 1 → ((A x0, j, i) : TEv) ∈ (List.range (n + 1)).map (fun i => ((A x0, j, i) : TEv)) := fun i hi => List.mem_map.mpr ⟨i, List.mem_range.mpr hi, rfl⟩
  have hEn : ∀ i, i < n → EnA (nA + n) A' ((4 * j, i) :: A x0) := fun i hi => ⟨nA + i, by omega, (H2 i hi).1⟩
  refine ⟨⟨fun a i q1 q2 => g3 a i (by omega) (by omega) (by omega) (by omega) (by omega), fun a i q1 q2 => k3 a i (by omega)⟩, fun x hx => g3 123 x (by omega) (by omega) (by omega) (by omega) (by omega), fun s q1 q2 => g3 126 s (by omega) (by omega) (by omega) (fun _ => q2) (by omega), .inr ⟨rfl, nA + n, nS + n * (rgL y (4 * j)).length, nT + 1, A', b', upV vals (A x0) j (some (3, a.2.1, A x0, j)), lk, upN M nT (A x0, j), (List.range (n + 1)).map (fun i => ((A x0, j, i) : TEv)) ++ Lv, g1, g2, ?_, by omega, i3, H1, fun x q1 q2 => ⟨by rw [j3 123 x (by omega) (by omega)]; exact (i4 x q1 q2).2.2.2.1, (i4 x q1 q2).2.2.2.2.2.2.1⟩, fun s q1 q2 => by rw [j3 126 s (by omega) (by omega)]; exact i6 s q1 q2, (by rw [List.length_append, hevl]; omega), .inl ?_⟩⟩
  · have I' := I
    obtain ⟨⟨d1, d2, d3, d4⟩, r2, r3, r4, r5, r6, r7, r8, r9, r10⟩ := I'
    have eA := (H1 x0 hx0).1
    have eb := (H1 x0 hx0).2
    refine RI_ext w I hx0 hz hr hk0 (rgL_nd R) ⟨by omega, i3, by omega⟩ H1 (fun T hT => ⟨upN_ne (by omega), g3 129 T (by omega) (by omega) (by omega) (by omega) (by omega), g3 130 T (by omega) (by omega) (by omega) (by omega) (by omega)⟩) ⟨by rw [j3 75 57 (by omega) (by omega)]; exact i1, by rw [j3 75 64 (by omega) (by omega)]; exact i2, j68, ?_⟩ (fun a x q1 q2 q3 hx => g3 a x (by omega) (by omega) (by omega) (by omega) (by omega)) (fun s q1 q2 => ⟨g3 126 s (by omega) (by omega) (by omega) (fun _ => q2) (by omega), k3 127 s (fun _ => q2), g3 128 s (by omega) (by omega) (by omega) (by omega) (by omega), (H3 s q1).1, (H3 s q1).2⟩) (fun P t q => ⟨upV_ne q, rfl⟩) hv0 ⟨?_, ?_⟩ (fun e he => ?_) ?_ (fun x q1 q2 => ?_) (fun x x' q1 q2 q3 => ?_) (fun T q1 q2 => ?_) ⟨?_, fun a' q => ?_, fun q k hk => ⟨Nat.zero_le _, Nat.zero_le _⟩⟩ (fun En' Va' De' hcl s1 s2 => ?_) ?_
    · rw [j72, List.length_append, hevl]
      congr 1
      omega
    · show Sl S' (upN M nT (A x0, j)) (nT + 1) (b x0 + k0) (upV vals (A x0) j (some (3, a.2.1, A x0, j)) (A x0) j)
      rw [upV_eq]
      refine ⟨j126, by show 1 ≤ 3; omega, by show 3 ≤ 4; omega, fun q => absurd rfl q, fun _ => ⟨nT, by omega, j127, upN_eq, ?_⟩⟩
      have e130 : S'.1 130 nT = nI n := by
        rw [j3 130 nT (by omega) (by omega), i7 130 nT (by omega) (by omega) (by omega), hSa, uI_eq]
      rw [e130, nI64 (by omega)]
      exact han
    · have := ((r3 x0 hx0).2.2.2.2.2.2 k0 _ hk0).2
      show LnkS S' (nA + n) A' (b x0 + k0) (lk (A x0) j)
      have this : LnkS S nA A (b x0 + k0) (lk (A x0) j) := this
      cases hlk : lk (A x0) j with
      | none =>
        rw [hlk] at this
        exact (g3 128 _ (by omega) (by omega) (by omega) (by omega) (by omega)).trans this
      | some P' =>
        rw [hlk] at this
        obtain ⟨xq, u1, u2, u3⟩ := this
        exact ⟨xq, by omega, (H1 xq u1).1.trans u2, (g3 128 _ (by omega) (by omega) (by omega) (by omega) (by omega)).trans u3⟩
    · obtain ⟨i, -, hi⟩ := List.mem_map.mp he
      exact ⟨i, hi.symm⟩
    · refine List.nodup_append.mpr ⟨?_, r8, fun a1 h1 b1 h2 q => ?_⟩
      · refine List.Pairwise.map _ (fun a1 b1 hab q => hab ?_) (List.nodup_range (n := n + 1))
        exact congrArg (fun u : TEv => u.2.2) q
      · obtain ⟨i, -, hi⟩ := List.mem_map.mp h1
        have hi : ((A x0, j, i) : TEv) = a1 := hi
        refine nE i ?_
        show ((A x0, j, i) : TEv) ∈ Lv
        rw [hi, q]
        exact h2
    · obtain ⟨i, hi⟩ : ∃ i, x = nA + i := ⟨x - nA, by omega⟩
      obtain ⟨y1, y2, y3⟩ := H2 i (by omega)
      rw [hi] at q1 q2 ⊢
      obtain ⟨v1, v2, v3, v4, v5, v6, v7, v8, v9⟩ := i4 (nA + i) q1 q2
      refine ⟨by rw [y1]; exact hown i, fun q => nU _ q (by rw [y1]; exact hown i), by rw [y1]; exact hPk i, by rw [j3 120 _ (by omega) (by omega)]; exact v1, by rw [j3 122 _ (by omega) (by omega)]; exact v3, v8, ?_, fun k t hk => ?_⟩
      · exact AL_ce w hz (x1 := x0) (Q := A x0) (by omega) y1 eA (by rw [j3 121 _ (by omega) (by omega), v2]; exact y2) (by rw [j3 125 _ (by omega) (by omega), v6]; exact y3) (by omega)
      · obtain ⟨k1, k2, k3, k4⟩ := v9 k t hk
        exact ⟨by rw [j3 126 _ (by omega) (by omega)]; exact k1, by rw [j3 128 _ (by omega) (by omega)]; exact k2, by omega, by omega⟩
    · rcases Nat.lt_or_ge x nA with c | c
      · have u := (r3 x c).2.2.2.1
        rw [(H1 x c).1, (H1 x c).2]
        refine ⟨by have := (i4 x' q3 q2).2.2.2.2.2.2.1; omega, fun q => ?_⟩
        obtain ⟨y1, -, -⟩ := H2 (x' - nA) (by omega)
        rw [show nA + (x' - nA) = x' by omega] at y1
        exact nU _ ⟨x, c, q⟩ (by rw [y1]; exact hown _)
      · refine ⟨i5 x x' c q1 q2, fun q => ?_⟩
        obtain ⟨y1, -, -⟩ := H2 (x - nA) (by omega)
        obtain ⟨y1', -, -⟩ := H2 (x' - nA) (by omega)
        rw [show nA + (x - nA) = x by omega] at y1
        rw [show nA + (x' - nA) = x' by omega] at y1'
        rw [y1, y1'] at q
        have : x - nA = x' - nA := congrArg (fun l : TPth => (l.headD (0, 0)).2) q
        omega
    · have hTT : T = nT := by omega
      subst hTT
      refine ⟨nA, n, ?_, ?_, hn, fun i hi => ?_, ?_⟩
      · rw [j3 129 T (by omega) (by omega), i7 129 T (by omega) (by omega) (by omega), hSa, uI_ne (by omega), uI_eq]
      · rw [j3 130 T (by omega) (by omega), i7 130 T (by omega) (by omega) (by omega), hSa, uI_eq]
      · rw [upN_eq]
        exact ⟨by omega, (H2 i hi).1⟩
      · rw [upN_eq]
        exact ⟨x, x', γ, r, hz⟩
    · rw [eA]
      show NI K V y ar (EnA (nA + n) A') (upV vals (A x0) j (some (3, a.2.1, A x0, j))) (fun e => e ∈ (List.range (n + 1)).map (fun i => ((A x0, j, i) : TEv)) ++ Lv) (A x0) (lk (A x0) j) (.tag 11 (.tag j (.append x x')), γ, r)
      refine ⟨fun q => ?_, fun a' q => ?_⟩
      · rw [upV_eq] at q
        cases q
      · rw [upV_eq] at q
        have q := Option.some.inj q
        refine ⟨List.mem_append_left _ (hevm 0 (by omega)), a, upV_mono hv0 ha, fun q4 => absurd q4 ha4, fun _ q5 => absurd q5 hab, fun _ _ => ⟨q.symm, fun i hi => ?_⟩⟩
        rw [hi64] at hi
        exact ⟨List.mem_append_left _ (hevm (i + 1) (by omega)), hEn i hi⟩
    · rw [eA] at q
      have q : upV vals (A x0) j (some (3, a.2.1, A x0, j)) (A x0) j = some a' := q
      rw [upV_eq] at q
      rw [← Option.some.inj q]
      exact ⟨fun q => absurd q (by show ¬ 3 = 4; omega), fun _ => rfl⟩
    · have hc := clo_at hcl (s1 x0 hx0) hP hz hr a (s2 _ _ _ ha)
      obtain ⟨hc1, -, -, hc2⟩ := hc
      obtain ⟨hc3, hc4⟩ := hc2 ha4 hab
      rw [hi64] at hc4
      refine ⟨fun x q1 q2 => ?_, fun a' q => ?_, fun e he => ?_⟩
      · obtain ⟨y1, -, -⟩ := H2 (x - nA) (by omega)
        rw [show nA + (x - nA) = x by omega] at y1
        rw [y1]
        exact (hc4 (x - nA) (by omega)).2
      · have q : upV vals (A x0) j (some (3, a.2.1, A x0, j)) (A x0) j = some a' := q
        rw [upV_eq] at q
        rw [← Option.some.inj q]
        exact hc3
      · obtain ⟨i, hi1, hi2⟩ := List.mem_map.mp he
        rw [← hi2]
        have hi1 := List.mem_range.mp hi1
        cases i with
        | zero => exact hc1
        | succ i => exact (hc4 i (by omega)).1
    · rw [List.length_append, hevl]
      have e1 : tot g1 nS = tot f1 nS := tot_cg _ (fun i hi => (H3 i hi).1)
      have e2 : tot g2 nS = tot f2 nS := tot_cg _ (fun i hi => (H3 i hi).2)
      rw [e1] at i9
      rw [e2] at i10
      have m1 : n * cwR 1 0 y (4 * j) ≤ n * 496 := Nat.mul_le_mul_left n ht1
      have m2 : n * (1 + cwR 0 1 y (4 * j)) ≤ n * 21 := Nat.mul_le_mul_left n ht2
      rw [Nat.mul_add, Nat.mul_one] at m2
      obtain ⟨r101, r102, r103⟩ := r10
      refine ⟨?_, ?_, ?_⟩
      · rw [i9]
        omega
      · rw [i10]
        omega
      · omega
  · rw [j126]
    decide
theorem st_11 (T : TH K pl V m) (hfu : 30000 ≤ fu) (R : RHd K pl V m fr y e n' r' ν ρ W S) (I : RI K V y q0 ar ν ρ S nA nS nT A b vals lk M Lv f1 f2) (h : Lv.length ≤ 1000) (hG : ∀ z, z ∈ scP y → GdN K V (ftP y) z) (hLB : LB V y) (hx0 : x0 < nA) {x x' : TR} (hz : (.tag 11 (.tag j (.append x x')), γ, r) ∈ scP y) (hr : r = hdR (A x0)) (hk0 : (rgL y (hdR (A x0)))[k0]? = some j) (hv0 : vals (A x0) j = none) : ∃ ans S', f_X11_step fu (nI x0) (nI (ν j)) S = some (ans, S') ∧ SO K V y q0 ar ν ρ S nA nS nT A b vals lk M Lv f1 f2 x0 k0 (.tag 11 (.tag j (.append x x')), γ, r) ans S' := by
  have hb := RI_b I h
  have w := R.1
  obtain ⟨u1, u2, u3, u4, u5⟩ := sl_at T R I h hx0 hk0
  obtain ⟨⟨⟨h81, -⟩, h83, -⟩, -, hIN, -⟩ := rs_P T R _ hz
  have h110 : S.1 110 (ν j) = nI (ρ (4 * j)) := hIN
  have hP := (I.2.2.1 x0 hx0).1
  obtain ⟨⟨p', e', wz⟩, -, htr⟩ := (tl_P w) _ hz
  obtain ⟨-, -, -, bb, w1, w2⟩ := wz
  have hzx : (x, γ, r) ∈ scP y := htr _ (mc _ (ml _ (hd_in w1 _ _)))
  obtain ⟨-, -, gt, -⟩ := hG _ hz
  obtain ⟨s1, v1, v2, v3, v4⟩ := op_at T R I h hx0 hzx hr
  have hn1 := (I.2.2.2.2.2.2.1 x0 hx0 _ hz hr).1.1 hv0
  have hun : f_X11_step fu (nI x0) (nI (ν j)) S = (f_X11_table fu (nI x0) (nI (ν j)) (nI (b x0 + k0)) (nI s1) S).bind (fun q => gd (z_b q.1) (some (q.1, q.2))) := by
    unfold f_X11_step
    rw [u1]
    simp only [Option.bind_some]
    rw [mI_in (a := ν j) (n := 1200) (by omega) u3, nI_clamp (show ν j < 2 ^ 31 by omega), h81, h83, v1]
    simp only [gd_t, Option.bind_some]
    rw [if_neg (by decide), if_neg (by decide), if_neg (by decide), if_neg (by decide), if_neg (by decide), if_neg (by decide), if_neg (by decide), if_neg (by decide), if_neg (by decide), if_neg (by decide), if_pos (by decide)]
  have htb : f_X11_table fu (nI x0) (nI (ν j)) (nI (b x0 + k0)) (nI s1) S = (if S.1 126 s1 ≠ 0 then (if S.1 126 s1 ≠ 4 then (if (lg_cmp (S.2.1 127 s1) 0 : Int32) < 0 then ((f_X11_event (nI (b x0 + k0)) 4 3 S).bind (fun qS4 => gd (z_b qS4.1) (some (qS4.1, qS4.2)))) else (if (lg_cmp (S.2.1 127 s1) 20 : Int32) ≤ 0 then (f_X11_table_L110 fu fu (nI x0) (nI (ν j)) (nI (b x0 + k0)) (nI s1) ((S.2.1 127 s1).toInt32) 0 (uI (uI S 129 nT (nI nA)) 130 nT ((S.2.1 127 s1).toInt32))) else ((f_X11_event (nI (b x0 + k0)) 4 3 S).bind (fun qS8 => gd (z_b qS8.1) (some (qS8.1, qS8.2)))))) else ((f_X11_event (nI (b x0 + k0)) 4 (S.2.1 127 s1) S).bind (fun qS11 => gd (z_b qS11.1) (some (qS11.1, qS11.2))))) else (some (0, S))) := by
    unfold f_X11_table
    rw [mI_in (a := s1) (n := 520000) (by omega) (by omega), nI_clamp (show s1 < 2 ^ 31 by omega), I.1.2.2.1, I.1.1, mI_in (a := nT) (n := 1002) (by omega) (by omega), nI_clamp (show nT < 2 ^ 31 by omega)]
    simp only [gd_t]
  rw [hun, htb]
  cases hv : vals (A x0) (otk x) with
  | none =>
    rw [if_neg (fun q => q ((sl_0 v3).mpr hv))]
    exact ⟨0, S, rfl, so_zero w I hx0 hz hr hk0 (rgL_nd R) hv0 (fun _ _ _ => rfl) (fun _ _ _ => rfl) hv⟩
  | some a =>
    have ty := v4 a hv
    rw [if_pos (fun q => by have := (sl_0 v3).mp q; rw [hv] at this; cases this)]
    rw [hv] at v3
    have fin : ∀ {a2 : TVal} {v : Int64}, nI a2.1 = 4 → EcV S M nT a2 v → tyO 3 a2 → ((a.1 = 4 → a2 = a) ∧ (a.1 ≠ 4 → bad20 a.2.1 → a2 = mkE 3) ∧ (a.1 ≠ 4 → bad20 a.2.1)) → ∃ ans S', ((f_X11_event (nI (b x0 + k0)) 4 v S).bind (fun q => gd (z_b q.1) (some (q.1, q.2)))).bind (fun q => gd (z_b q.1) (some (q.1, q.2))) = some (ans, S') ∧ SO K V y q0 ar ν ρ S nA nS nT A b vals lk M Lv f1 f2 x0 k0 (.tag 11 (.tag j (.append x x')), γ, r) ans S' := fun {a2 v} g1 g2 g3 g4 => by
      have hNI : NI K V y ar (EnA nA A) (upV vals (A x0) j (some a2)) (fun e => e ∈ (A x0, j, 0) :: Lv) (A x0) (lk (A x0) j) (.tag 11 (.tag j (.append x x')), γ, r) := by
        refine ⟨fun q => ?_, fun a1 q => ?_⟩
        · rw [upV_eq] at q
          cases q
        · rw [upV_eq] at q
          have q := Option.some.inj q
          subst q
          exact ⟨List.mem_cons_self, a, upV_mono hv0 hv, g4.1, g4.2.1, fun c1 c2 => absurd (g4.2.2 c1) c2⟩
      obtain ⟨S', p1, p2⟩ := so_ev (i := 0) w T R I h hx0 hz hr hk0 hv0 g1.symm g2 (fun q => hn1.2 0 q) hNI g3 (fun En' Va' De' hcl s1 s2 => by
        have hc := clo_at hcl (s1 x0 hx0) hP hz hr a (s2 _ _ _ hv)
        refine ⟨?_, hc.1⟩
        by_cases c4 : a.1 = 4
        · rw [g4.1 c4]
          exact hc.2.1 c4
        · rw [g4.2.1 c4 (g4.2.2 c4)]
          exact hc.2.2.1 c4 (g4.2.2 c4))
      rw [p1]
      exact ⟨1, S', rfl, p2⟩
    by_cases c4 : a.1 = 4
    · rw [if_neg (fun q => q ((sl_4 v3).mpr c4))]
      exact fin (a2 := a) (by rw [c4]; rfl) (Ec_Sl v3) ⟨ty.1, fun q => absurd c4 q⟩ ⟨fun _ => rfl, fun q => absurd c4 q, fun q => absurd c4 q⟩
    · rw [if_pos (fun q => c4 ((sl_4 v3).mp q))]
      have k1 : a.1 = 1 := by rw [ty.2 c4]; exact gt
      have ev : S.2.1 127 s1 = a.2.1 := (v3.2.2.2.1 (by omega)).1
      rw [ev]
      have bad : bad20 a.2.1 → ∃ ans S', ((f_X11_event (nI (b x0 + k0)) 4 3 S).bind (fun q => gd (z_b q.1) (some (q.1, q.2)))).bind (fun q => gd (z_b q.1) (some (q.1, q.2))) = some (ans, S') ∧ SO K V y q0 ar ν ρ S nA nS nT A b vals lk M Lv f1 f2 x0 k0 (.tag 11 (.tag j (.append x x')), γ, r) ans S' := fun hbd => fin (a2 := mkE 3) rfl ec_e (ty_e (.inr (.inr rfl))) ⟨fun q => absurd q c4, fun _ _ => rfl, fun _ => hbd⟩
      by_cases d1 : (lg_cmp a.2.1 0 : Int32) < 0
      · rw [if_pos d1]
        exact bad (.inl d1)
      · rw [if_neg d1]
        by_cases d2 : (lg_cmp a.2.1 20 : Int32) ≤ 0
        · rw [if_pos d2]
          have hnb : ¬ bad20 a.2.1 := fun q => by
            rcases q with q | q
            · exact d1 q
            · exact q d2
          obtain ⟨n, n1, n2, n3, n4⟩ := sz_nat hnb
          rw [n3]
          obtain ⟨S', p1, p2⟩ := st_11a (fu := fu) (z4 := nI s1) T hfu R I h hLB hx0 hz hr hk0 hv0 hv c4 hnb n1 n2 n4 h110 u3
          rw [p1]
          exact ⟨1, S', rfl, p2⟩
        · rw [if_neg d2]
          exact bad (.inr d2)
end STU
