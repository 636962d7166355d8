/-! steps of the reference: constants, names, signs, operators -/
section STK
variable {K pl : Nat → Nat} {V : Nat → Int64} {m fr e n' r' fu : Nat} {y : TR} {q0 : Nat} {ar : Nat → Int64} {ν ρ : Nat → Nat} {W : Nat → Int32 × Int32 × Int32} {S S1 : im_S} {nA nS nT : Nat} {A : Nat → TPth} {b : Nat → Nat} {vals : TPth → Nat → Option TVal} {lk : TPth → Nat → Option TPth} {M : Nat → TPth × Nat} {Lv evs : List TEv} {f1 f2 : Nat → Nat} {x0 k0 j r : Nat} {γ : List Nat}
theorem ec_n {v : Int64} : EcV S M nT (mkN v) v := ⟨Nat.le_refl _, (by show 1 ≤ 4; omega), fun _ => ⟨rfl, rfl⟩, fun q => absurd q (by show ¬ 1 = 3; omega)⟩
theorem ec_t {v : Int64} : EcV S M nT (mkT v) v := ⟨(by show 1 ≤ 2; omega), (by show 2 ≤ 4; omega), fun _ => ⟨rfl, rfl⟩, fun q => absurd q (by show ¬ 2 = 3; omega)⟩
theorem ec_e {v : Int64} : EcV S M nT (mkE v) v := ⟨(by show 1 ≤ 4; omega), (by show 4 ≤ 4; omega), fun _ => ⟨rfl, rfl⟩, fun q => absurd q (by show ¬ 4 = 3; omega)⟩
theorem ec_4 {a : TVal} {s : Nat} (h : Sl S M nT s (some a)) (h4 : a.1 = 4) : a = mkE (S.2.1 127 s) := by
  obtain ⟨h1, h2, h3, h5, h6⟩ := h
  obtain ⟨g1, g2⟩ := h5 (by omega)
  obtain ⟨a1, a2, a3⟩ := a
  have h4 : a1 = 4 := h4
  have g1 : S.2.1 127 s = a2 := g1
  have g2 : a3 = ([], 0) := g2
  rw [h4, g2, g1]
  rfl
theorem st_1 (T : TH K pl V m) (R : RHd K pl V m fr y e n' r' ν ρ W S) (I : RI K V y q0 ar ν ρ S nA nS nT A b vals lk M Lv f1 f2) (h : Lv.length ≤ 1000) (hx0 : x0 < nA) (hz : (.tag 1 (.tag j .nil), γ, r) ∈ scP y) (hr : r = hdR (A x0)) (hk0 : (rgL y (hdR (A x0)))[k0]? = some j) (hv0 : vals (A x0) j = none) : ∃ ans S', f_X11_step fu (nI x0) (nI (ν j)) S = some (ans, S') ∧ SO K V y q0 ar ν ρ S nA nS nT A b vals lk M Lv f1 f2 x0 k0 (.tag 1 (.tag j .nil), γ, r) ans S' := by
  obtain ⟨u1, u2, u3, u4, u5⟩ := sl_at T R I h hx0 hk0
  obtain ⟨⟨⟨h81, -, h87, -⟩, -⟩, -⟩ := rs_P T R _ hz
  have h87 := h87 (.inl rfl)
  have hP := (I.2.2.1 x0 hx0).1
  refine ⟨1, uJ (uI S 126 (b x0 + k0) (nI 1)) 127 (b x0 + k0) (V j), ?_, ?_⟩
  · unfold f_X11_step
    rw [u1]
    simp only [Option.bind_some]
    rw [mI_in (a := ν j) (n := 1200) (by omega) u3, nI_clamp (show ν j < 2 ^ 31 by omega), h81, h87, r_give (by omega)]
    rfl
  · refine so_give (a := mkN (V j)) (evs := []) (S1 := S) R.1 I hx0 hz hr hk0 (rgL_nd R) hv0 (fun _ _ _ => rfl) (fun _ _ _ => rfl) ?_ ec_n (fun e he => absurd he List.not_mem_nil) I.2.2.2.2.2.2.2.1 (fun a q => ?_) ty_n (fun En' Va' De' hcl s1 s2 => ⟨clo_at hcl (s1 x0 hx0) hP hz hr, fun e he => absurd he List.not_mem_nil⟩) (Nat.zero_le _)
    · rw [I.1.2.2.2]
      show nI Lv.length = nI (0 + Lv.length)
      rw [Nat.zero_add]
    · have q : upV vals (A x0) j (some (mkN (V j))) (A x0) j = some a := q
      rw [upV_eq] at q
      exact (Option.some.inj q).symm
theorem st_2 (T : TH K pl V m) (R : RHd K pl V m fr y e n' r' ν ρ W S) (I : RI K V y q0 ar ν ρ S nA nS nT A b vals lk M Lv f1 f2) (h : Lv.length ≤ 1000) (hx0 : x0 < nA) (hz : (.tag 2 (.tag j .nil), γ, r) ∈ scP y) (hr : r = hdR (A x0)) (hk0 : (rgL y (hdR (A x0)))[k0]? = some j) (hv0 : vals (A x0) j = none) : ∃ ans S', f_X11_step fu (nI x0) (nI (ν j)) S = some (ans, S') ∧ SO K V y q0 ar ν ρ S nA nS nT A b vals lk M Lv f1 f2 x0 k0 (.tag 2 (.tag j .nil), γ, r) ans S' := by
  obtain ⟨u1, u2, u3, u4, u5⟩ := sl_at T R I h hx0 hk0
  obtain ⟨⟨⟨h81, -, -, h87, -⟩, -⟩, -⟩ := rs_P T R _ hz
  have h87 := h87 rfl
  have hP := (I.2.2.1 x0 hx0).1
  obtain ⟨v, hv⟩ : ∃ v : Int64, v = if K j = 15 then 1 else 0 := ⟨_, rfl⟩
  rw [← hv] at h87
  refine ⟨1, uJ (uI S 126 (b x0 + k0) (nI 2)) 127 (b x0 + k0) v, ?_, ?_⟩
  · unfold f_X11_step
    rw [u1]
    simp only [Option.bind_some]
    rw [mI_in (a := ν j) (n := 1200) (by omega) u3, nI_clamp (show ν j < 2 ^ 31 by omega), h81, h87]
    simp only [gd_t]
    rw [if_neg (by decide), if_pos (by decide), r_give (by omega)]
    rfl
  · refine so_give (a := mkT v) (evs := []) (S1 := S) R.1 I hx0 hz hr hk0 (rgL_nd R) hv0 (fun _ _ _ => rfl) (fun _ _ _ => rfl) ?_ ec_t (fun e he => absurd he List.not_mem_nil) I.2.2.2.2.2.2.2.1 (fun a q => ?_) ty_t (fun En' Va' De' hcl s1 s2 => ⟨?_, fun e he => absurd he List.not_mem_nil⟩) (Nat.zero_le _)
    · rw [I.1.2.2.2]
      show nI Lv.length = nI (0 + Lv.length)
      rw [Nat.zero_add]
    · have q : upV vals (A x0) j (some (mkT v)) (A x0) j = some a := q
      rw [upV_eq] at q
      rw [← Option.some.inj q, hv]
    · rw [hv]
      exact clo_at hcl (s1 x0 hx0) hP hz hr
theorem st_3 (T : TH K pl V m) (hfu : 30000 ≤ fu) (R : RHd K pl V m fr y e n' r' ν ρ W S) (I : RI K V y q0 ar ν ρ S nA nS nT A b vals lk M Lv f1 f2) (h : Lv.length ≤ 1000) (hG : ∀ z, z ∈ scP y → GdN K V (ftP y) z) (har : ∀ z, z < 4 → S.2.1 131 z = ar z) (hq0 : ∀ cnt x, (q0, cnt, x) ∈ fuP y → ∀ z, z < cnt → tvV (V (q0 + 2 + 2 * z)) = 1) (hx0 : x0 < nA) (hz : (.tag 3 (.tag j .nil), γ, r) ∈ scP y) (hr : r = hdR (A x0)) (hk0 : (rgL y (hdR (A x0)))[k0]? = some j) (hv0 : vals (A x0) j = none) : ∃ ans S', f_X11_step fu (nI x0) (nI (ν j)) S = some (ans, S') ∧ SO K V y q0 ar ν ρ S nA nS nT A b vals lk M Lv f1 f2 x0 k0 (.tag 3 (.tag j .nil), γ, r) ans S' := by
  obtain ⟨u1, u2, u3, u4, u5⟩ := sl_at T R I h hx0 hk0
  obtain ⟨⟨⟨h81, -⟩, -⟩, -⟩ := rs_P T R _ hz
  have hP := (I.2.2.1 x0 hx0).1
  obtain ⟨b', o, kk, w, g1, g2, g3, g4, g5⟩ := rr_name (fu := fu) T hfu R I h hG har hq0 hx0 hz hr
  obtain ⟨S1, hS1⟩ : ∃ S1, S1 = uJ (uI S 75 81 kk) 75 82 w := ⟨_, rfl⟩
  have f1' : ∀ a i : Nat, (a = 75 → i ≠ 81) → S1.1 a i = S.1 a i := fun a i q => by
    rw [hS1]
    show (uI S 75 81 kk).1 a i = _
    rw [uI_ne (by omega)]
  have f2' : ∀ a i : Nat, (a = 75 → i ≠ 82) → S1.2.1 a i = S.2.1 a i := fun a i q => by
    rw [hS1, uJ_ne (by omega)]
    rfl
  have e81 : S1.1 75 81 = kk := by
    rw [hS1]
    show (uI S 75 81 kk).1 75 81 = _
    rw [uI_eq]
  have e82 : S1.2.1 75 82 = w := by rw [hS1, uJ_eq]
  have hun : f_X11_step fu (nI x0) (nI (ν j)) S = if kk = 0 then some (0, S1) else some (1, uJ (uI S1 126 (b x0 + k0) kk) 127 (b x0 + k0) w) := by
    unfold f_X11_step
    rw [u1]
    simp only [Option.bind_some]
    rw [mI_in (a := ν j) (n := 1200) (by omega) u3, nI_clamp (show ν j < 2 ^ 31 by omega), h81, g3, ← hS1]
    simp only [gd_t, Option.bind_some]
    rw [if_neg (by decide), if_neg (by decide), if_pos (by decide), e81, e82]
    by_cases c : kk = 0
    · rw [if_pos c, if_pos c]
    · rw [if_neg c, if_neg c, r_give (by omega)]
      rfl
  rw [hun]
  by_cases c : ∃ a, AtP (Vf vals) o a
  · obtain ⟨a, ha⟩ := c
    obtain ⟨k1, k2⟩ := g4.1 a ha
    have hne : kk ≠ 0 := fun q => by
      rw [k1] at q
      have := (nI_eq (a := a.1) (b := 0) (by have := k2.2.1; omega) (by omega)).mp q
      have := k2.1
      omega
    rw [if_neg hne]
    refine ⟨1, _, rfl, ?_⟩
    rw [k1]
    refine so_give (evs := []) (S1 := S1) R.1 I hx0 hz hr hk0 (rgL_nd R) hv0 (fun a i q => f1' a i (by omega)) (fun a i q => f2' a i q) ?_ k2 (fun e he => absurd he List.not_mem_nil) I.2.2.2.2.2.2.2.1 (fun a' q => ?_) (g5 a ha) (fun En' Va' De' hcl s1 s2 => ⟨?_, fun e he => absurd he List.not_mem_nil⟩) (Nat.zero_le _)
    · rw [f1' 75 72 (by omega), I.1.2.2.2]
      show nI Lv.length = nI (0 + Lv.length)
      rw [Nat.zero_add]
    · have q : upV vals (A x0) j (some a) (A x0) j = some a' := q
      rw [upV_eq] at q
      have q := Option.some.inj q
      subst q
      exact ⟨b', o, g1, g2, AtP_mono (fun P t a q => upV_mono hv0 q) ha⟩
    · exact clo_at hcl (s1 x0 hx0) hP hz hr b' o a g1 g2 (AtP_mono (fun P t a q => s2 P t a q) ha)
  · have hno : ∀ a, ¬ AtP (Vf vals) o a := fun a q => c ⟨a, q⟩
    rw [if_pos (g4.2 hno)]
    exact ⟨0, S1, rfl, so_zero R.1 I hx0 hz hr hk0 (rgL_nd R) hv0 (fun a i q => f1' a i (by omega)) (fun a i q => f2' a i q) ⟨b', o, g1, g2, hno⟩⟩
theorem st_5 (T : TH K pl V m) (R : RHd K pl V m fr y e n' r' ν ρ W S) (I : RI K V y q0 ar ν ρ S nA nS nT A b vals lk M Lv f1 f2) (h : Lv.length ≤ 1000) (hx0 : x0 < nA) {x x' : TR} (hz : (.tag 5 (.tag j (.append x x')), γ, r) ∈ scP y) (hr : r = hdR (A x0)) (hk0 : (rgL y (hdR (A x0)))[k0]? = some j) (hv0 : vals (A x0) j = none) : ∃ ans S', f_X11_step fu (nI x0) (nI (ν j)) S = some (ans, S') ∧ SO K V y q0 ar ν ρ S nA nS nT A b vals lk M Lv f1 f2 x0 k0 (.tag 5 (.tag j (.append x x')), γ, r) ans S' := by
  obtain ⟨u1, u2, u3, u4, u5⟩ := sl_at T R I h hx0 hk0
  obtain ⟨⟨⟨h81, -⟩, h83, h84⟩, -⟩ := rs_P T R _ hz
  have hP := (I.2.2.1 x0 hx0).1
  obtain ⟨⟨p', e', wz⟩, -, htr⟩ := (tl_P R.1) _ hz
  obtain ⟨-, -, bb, w1, w2⟩ := wz
  have hzx : (x', (j + 1) :: γ, r) ∈ scP y := htr _ (mc _ (mr _ (hd_in w2 _ _)))
  obtain ⟨s', v1, v2, v3, v4⟩ := op_at T R I h hx0 hzx hr
  obtain ⟨ans, S', p1, p2, p3⟩ := so_pass R.1 T R I h hx0 hz hr hk0 hv0 v2 v3 v4 (fun q => q) (fun a q => fun a' q' => by
    have q' : upV vals (A x0) j (some a) (A x0) j = some a' := q'
    rw [upV_eq] at q'
    rw [← Option.some.inj q']
    exact upV_mono hv0 q) (fun a q En' Va' De' hcl s1 s2 => clo_at hcl (s1 x0 hx0) hP hz hr a (s2 _ _ _ q))
  refine ⟨ans, S', ?_, p3⟩
  unfold f_X11_step
  rw [u1]
  simp only [Option.bind_some]
  rw [mI_in (a := ν j) (n := 1200) (by omega) u3, nI_clamp (show ν j < 2 ^ 31 by omega), h81, h84, v1]
  simp only [gd_t, Option.bind_some]
  rw [if_neg (by decide), if_neg (by decide), if_neg (by decide), if_neg (by decide), if_pos (by decide), p1]
  simp only [Option.bind_some]
  rw [p2]
  rfl
theorem st_12 (T : TH K pl V m) (R : RHd K pl V m fr y e n' r' ν ρ W S) (I : RI K V y q0 ar ν ρ S nA nS nT A b vals lk M Lv f1 f2) (h : Lv.length ≤ 1000) (hx0 : x0 < nA) {x : TR} (hz : (.tag 12 (.tag j x), γ, r) ∈ scP y) (hr : r = hdR (A x0)) (hk0 : (rgL y (hdR (A x0)))[k0]? = some j) (hv0 : vals (A x0) j = none) : ∃ ans S', f_X11_step fu (nI x0) (nI (ν j)) S = some (ans, S') ∧ SO K V y q0 ar ν ρ S nA nS nT A b vals lk M Lv f1 f2 x0 k0 (.tag 12 (.tag j x), γ, r) ans S' := by
  obtain ⟨u1, u2, u3, u4, u5⟩ := sl_at T R I h hx0 hk0
  obtain ⟨⟨⟨h81, -⟩, -, h83⟩, -⟩ := rs_P T R _ hz
  have hP := (I.2.2.1 x0 hx0).1
  obtain ⟨⟨p', e', wz⟩, -, htr⟩ := (tl_P R.1) _ hz
  obtain ⟨-, bb, w1, -⟩ := wz
  have hzx : (x, γ, r) ∈ scP y := htr _ (mc _ (hd_in w1 _ _))
  obtain ⟨s', v1, v2, v3, v4⟩ := op_at T R I h hx0 hzx hr
  obtain ⟨ans, S', p1, p2, p3⟩ := so_pass R.1 T R I h hx0 hz hr hk0 hv0 v2 v3 v4 (fun q => q) (fun a q => fun a' q' => by
    have q' : upV vals (A x0) j (some a) (A x0) j = some a' := q'
    rw [upV_eq] at q'
    rw [← Option.some.inj q']
    exact upV_mono hv0 q) (fun a q En' Va' De' hcl s1 s2 => clo_at hcl (s1 x0 hx0) hP hz hr a (s2 _ _ _ q))
  refine ⟨ans, S', ?_, p3⟩
  unfold f_X11_step
  rw [u1]
  simp only [Option.bind_some]
  rw [mI_in (a := ν j) (n := 1200) (by omega) u3, nI_clamp (show ν j < 2 ^ 31 by omega), h81, h83, v1]
  simp only [gd_t, Option.bind_some]
  rw [if_neg (by decide), if_neg (by decide), if_neg (by decide), if_neg (by decide), if_neg (by decide), if_neg (by decide), if_neg (by decide), if_neg (by decide), if_neg (by decide), if_neg (by decide), if_neg (by decide), p1]
  simp only [Option.bind_some]
  rw [p2]
  rfl
theorem st_8 (T : TH K pl V m) (R : RHd K pl V m fr y e n' r' ν ρ W S) (I : RI K V y q0 ar ν ρ S nA nS nT A b vals lk M Lv f1 f2) (h : Lv.length ≤ 1000) (hG : ∀ z, z ∈ scP y → GdN K V (ftP y) z) (hx0 : x0 < nA) {x : TR} (hz : (.tag 8 (.tag j x), γ, r) ∈ scP y) (hr : r = hdR (A x0)) (hk0 : (rgL y (hdR (A x0)))[k0]? = some j) (hv0 : vals (A x0) j = none) : ∃ ans S', f_X11_step fu (nI x0) (nI (ν j)) S = some (ans, S') ∧ SO K V y q0 ar ν ρ S nA nS nT A b vals lk M Lv f1 f2 x0 k0 (.tag 8 (.tag j x), γ, r) ans S' := by
  obtain ⟨u1, u2, u3, u4, u5⟩ := sl_at T R I h hx0 hk0
  obtain ⟨⟨⟨h81, -, -, -, -, h86⟩, -, h83⟩, -⟩ := rs_P T R _ hz
  have h86 := h86 (.inl rfl)
  have hP := (I.2.2.1 x0 hx0).1
  obtain ⟨⟨p', e', wz⟩, -, htr⟩ := (tl_P R.1) _ hz
  obtain ⟨hj, hKj, w1⟩ := wz
  subst hj
  have hzx : (x, γ, r) ∈ scP y := htr _ (mc _ (hd_in w1 _ _))
  obtain ⟨s', v1, v2, v3, v4⟩ := op_at T R I h hx0 hzx hr
  have hNIe : vals (A x0) j = none → EB (fun e => e ∈ Lv) (A x0) j (fun _ => False) := ((I.2.2.2.2.2.2.1 x0 hx0 _ hz hr).1).1
  have hnv : ¬ (A x0, j, 0) ∈ Lv := fun q => hNIe hv0 0 q
  have hun : f_X11_step fu (nI x0) (nI (ν j)) S = (f_X11_ahead (nI (ν j)) (nI (b x0 + k0)) (nI s') S).bind (fun q => gd (z_b q.1) (some (q.1, q.2))) := by
    unfold f_X11_step
    rw [u1]
    simp only [Option.bind_some]
    rw [mI_in (a := ν j) (n := 1200) (by omega) u3, nI_clamp (show ν j < 2 ^ 31 by omega), h81, h83, v1]
    simp only [gd_t, Option.bind_some]
    rw [if_neg (by decide), if_neg (by decide), if_neg (by decide), if_neg (by decide), if_neg (by decide), if_neg (by decide), if_neg (by decide), if_pos (by decide)]
  rw [hun]
  have hz0 := sl_0 v3
  have hah : f_X11_ahead (nI (ν j)) (nI (b x0 + k0)) (nI s') S = if S.1 126 s' ≠ 0 then (if S.1 126 s' ≠ 4 then (if nI (K j) ≠ 45 then (f_X11_event (nI (b x0 + k0)) 2 (1 - S.2.1 127 s') S).bind (fun q => gd (z_b q.1) (some (q.1, q.2))) else (f_X11_event (nI (b x0 + k0)) 1 (-(S.2.1 127 s')) S).bind (fun q => gd (z_b q.1) (some (q.1, q.2)))) else (f_X11_event (nI (b x0 + k0)) 4 (S.2.1 127 s') S).bind (fun q => gd (z_b q.1) (some (q.1, q.2)))) else some (0, S) := by
    unfold f_X11_ahead
    rw [mI_in (a := s') (n := 520000) (by omega) (by omega), nI_clamp (show s' < 2 ^ 31 by omega), mI_in (a := ν j) (n := 1200) (by omega) u3, nI_clamp (show ν j < 2 ^ 31 by omega), h86]
    simp only [gd_t]
  rw [hah]
  cases hv : vals (A x0) (otk x) with
  | none =>
    rw [if_neg (fun q => q (hz0.mpr hv))]
    exact ⟨0, S, rfl, so_zero R.1 I hx0 hz hr hk0 (rgL_nd R) hv0 (fun _ _ _ => rfl) (fun _ _ _ => rfl) hv⟩
  | some a =>
    rw [if_pos (fun q => by have := hz0.mp q; rw [hv] at this; cases this)]
    have v3' := v3
    rw [hv] at v3'
    have fin : ∀ {k : Int32} {v : Int64}, k = nI (sgV (K j) a).1 → EcV S M nT (sgV (K j) a) v → tyO (tyV K V (.tag 8 (.tag j x))) (sgV (K j) a) → ∃ ans S', ((f_X11_event (nI (b x0 + k0)) k v S).bind (fun q => gd (z_b q.1) (some (q.1, q.2)))).bind (fun q => gd (z_b q.1) (some (q.1, q.2))) = some (ans, S') ∧ SO K V y q0 ar ν ρ S nA nS nT A b vals lk M Lv f1 f2 x0 k0 (.tag 8 (.tag j x), γ, r) ans S' := fun {k v} g1 g2 g3 => by
      have hNI : NI K V y ar (EnA nA A) (upV vals (A x0) j (some (sgV (K j) a))) (fun e => e ∈ (A x0, j, 0) :: Lv) (A x0) (lk (A x0) j) (.tag 8 (.tag j x), γ, r) := by
        refine ⟨fun q => ?_, fun a' q => ?_⟩
        · rw [upV_eq] at q
          cases q
        · rw [upV_eq] at q
          exact ⟨List.mem_cons_self, a, upV_mono hv0 hv, (Option.some.inj q).symm⟩
      obtain ⟨S', p1, p2⟩ := so_ev (i := 0) R.1 T R I h hx0 hz hr hk0 hv0 g1 g2 hnv hNI g3 (fun En' Va' De' hcl s1 s2 => by
        have := clo_at hcl (s1 x0 hx0) hP hz hr a (s2 _ _ _ hv)
        exact ⟨this.2, this.1⟩)
      rw [p1]
      exact ⟨1, S', rfl, p2⟩
    by_cases c4 : a.1 = 4
    · have e4 : S.1 126 s' = 4 := by rw [v3'.1, c4]; rfl
      rw [if_neg (fun q => q e4)]
      have hsg : sgV (K j) a = a := if_pos c4
      refine fin ?_ ?_ ?_
      · rw [hsg, c4]; rfl
      · rw [hsg]
        exact Ec_Sl v3'
      · rw [hsg]
        exact ⟨(v4 a hv).1, fun q => absurd c4 q⟩
    · have e4 : S.1 126 s' ≠ 4 := fun q => c4 ((nI_eq (a := a.1) (b := 4) (by have := v3'.2.2.1; omega) (by omega)).mp (v3'.1.symm.trans q))
      rw [if_pos e4]
      have ht := (v4 a hv).2 c4
      have hty3 : a.1 ≠ 3 := by
        have hgd : tyV K V x = (if K j = 45 then 1 else 2) := hG _ hz
        rw [ht, hgd]
        split <;> omega
      obtain ⟨w1', -⟩ := v3'.2.2.2.1 hty3
      by_cases c45 : K j = 45
      · have hsg : sgV (K j) a = mkN (-a.2.1) := (if_neg c4).trans (if_pos c45)
        rw [if_neg (fun q => q (by rw [c45]; rfl)), w1']
        refine fin ?_ ?_ ?_
        · rw [hsg]; rfl
        · rw [hsg]; exact ec_n
        · rw [hsg]
          show tyO (if K j = 45 then 1 else 2) _
          rw [if_pos c45]
          exact ty_n
      · have hsg : sgV (K j) a = mkT (1 - a.2.1) := (if_neg c4).trans (if_neg c45)
        have hKl : K j < 2 ^ 31 := by rcases hKj with q | q <;> omega
        have hne : nI (K j) ≠ 45 := fun q => c45 ((nI_eq (a := K j) (b := 45) hKl (by omega)).mp q)
        rw [if_pos hne, w1']
        refine fin ?_ ?_ ?_
        · rw [hsg]; rfl
        · rw [hsg]; exact ec_t
        · rw [hsg]
          show tyO (if K j = 45 then 1 else 2) _
          rw [if_neg c45]
          exact ty_t
end STK
