/-! steps of the reference: operators -/
section STB
variable {K pl : Nat → Nat} {V : Nat → Int64} {m fr e n' r' fu : Nat} {y : TR} {q0 : Nat} {ar : Nat → Int64} {ν ρ : Nat → Nat} {W : Nat → Int32 × Int32 × Int32} {S S1 : im_S} {nA nS nT : Nat} {A : Nat → TPth} {b : Nat → Nat} {vals : TPth → Nat → Option TVal} {lk : TPth → Nat → Option TPth} {M : Nat → TPth × Nat} {Lv evs : List TEv} {f1 f2 : Nat → Nat} {x0 k0 j r : Nat} {γ : List Nat}
theorem erV_3 {a a' : TVal} {t t' : Nat} (h : tyO t a) (h' : tyO t' a') {v : Int64} (q : erV a a' = some v) : v = 1 ∨ v = 2 ∨ v = 3 := by
  unfold erV at q
  by_cases c : a.1 = 4
  · rw [if_pos c] at q
    by_cases c' : a'.1 = 4
    · rw [if_pos c'] at q
      have q := Option.some.inj q
      by_cases c2 : (0 : Int32) ≤ lg_cmp a'.2.1 a.2.1
      · rw [if_pos c2] at q
        rw [← q]
        exact h.1 c
      · rw [if_neg c2] at q
        rw [← q]
        exact h'.1 c'
    · rw [if_neg c'] at q
      rw [← Option.some.inj q]
      exact h.1 c
  · rw [if_neg c] at q
    by_cases c' : a'.1 = 4
    · rw [if_pos c'] at q
      rw [← Option.some.inj q]
      exact h'.1 c'
    · rw [if_neg c'] at q
      cases q
theorem erV_n {a a' : TVal} (q : erV a a' = none) : a.1 ≠ 4 ∧ a'.1 ≠ 4 := by
  unfold erV at q
  by_cases c : a.1 = 4
  · rw [if_pos c] at q
    by_cases c' : a'.1 = 4
    · rw [if_pos c'] at q
      cases q
    · rw [if_neg c'] at q
      cases q
  · rw [if_neg c] at q
    by_cases c' : a'.1 = 4
    · rw [if_pos c'] at q
      cases q
    · exact ⟨c, c'⟩
theorem er_pos {v : Int64} (h : v = 1 ∨ v = 2 ∨ v = 3) : ¬ (lg_cmp v 0 : Int32) ≤ 0 := by
  rw [lg_cmp_le]
  rcases h with rfl | rfl | rfl <;> decide
theorem sl_4 {s : Nat} {a : TVal} (h : Sl S M nT s (some a)) : S.1 126 s = 4 ↔ a.1 = 4 := by
  rw [h.1]
  exact nI_eq (a := a.1) (b := 4) (by have := h.2.2.1; omega) (by omega)
theorem r_err {s1 s2 : Nat} {a a' : TVal} (hs1 : s1 < 520000) (hs2 : s2 < 520000) (h1 : Sl S M nT s1 (some a)) (h2 : Sl S M nT s2 (some a')) : f_X11_errorOf (nI s1) (nI s2) S = some ((erV a a').getD 0, S) := by
  have q1 := sl_4 h1
  have q2 := sl_4 h2
  have e1 : a.1 = 4 → S.2.1 127 s1 = a.2.1 := fun c => (h1.2.2.2.1 (by omega)).1
  have e2 : a'.1 = 4 → S.2.1 127 s2 = a'.2.1 := fun c => (h2.2.2.2.1 (by omega)).1
  unfold f_X11_errorOf erV
  rw [mI_in (a := s1) (n := 520000) (by omega) hs1, mI_in (a := s2) (n := 520000) (by omega) hs2, nI_clamp (show s1 < 2 ^ 31 by omega), nI_clamp (show s2 < 2 ^ 31 by omega)]
  simp only [gd_t]
  by_cases c : a.1 = 4
  · rw [if_pos (q1.mpr c), if_pos c]
    by_cases c' : a'.1 = 4
    · rw [if_neg (fun z => z (q2.mpr c')), if_pos c', e1 c, e2 c']
      by_cases c2 : (0 : Int32) ≤ lg_cmp a'.2.1 a.2.1
      · rw [if_pos c2, if_pos c2]
        rfl
      · rw [if_neg c2, if_neg c2]
        rfl
    · rw [if_pos (fun z => c' (q2.mp z)), if_neg c', e1 c]
      rfl
  · rw [if_neg (fun z => c (q1.mp z)), if_neg c]
    by_cases c' : a'.1 = 4
    · rw [if_neg (fun z => z (q2.mpr c')), if_pos c', e2 c']
      rfl
    · rw [if_pos (fun z => c' (q2.mp z)), if_neg c']
      rfl
theorem stg_c {c : Nat} (h : 1 ≤ stg c) : c = 37 ∨ c = 38 ∨ c = 42 ∨ c = 43 ∨ c = 45 ∨ c = 47 ∨ c = 60 ∨ c = 61 ∨ c = 124 := by
  unfold stg at h
  by_cases c1 : c = 37
  · omega
  by_cases c2 : c = 38
  · omega
  by_cases c3 : c = 42
  · omega
  by_cases c4 : c = 43
  · omega
  by_cases c5 : c = 45
  · omega
  by_cases c6 : c = 47
  · omega
  by_cases c7 : c = 60
  · omega
  by_cases c8 : c = 61
  · omega
  by_cases c9 : c = 124
  · omega
  rw [if_neg c1, if_neg c2, if_neg c3, if_neg c4, if_neg c5, if_neg c6, if_neg c7, if_neg c8, if_neg c9] at h
  omega
/-- what an operator makes is no table, and has the operator's type -/
theorem opV_k {c : Nat} (h : 1 ≤ stg c) (v w : Int64) : (∃ u, opV c v w = mkN u ∨ opV c v w = mkT u ∨ (opV c v w = mkE u ∧ u = 1)) ∧ tyO (if stg c ≤ 3 then 2 else 1) (opV c v w) := by
  have dm : ∀ c', c' = 37 ∨ c' = 47 → (∃ u, opV c' v w = mkN u ∨ (opV c' v w = mkE u ∧ u = 1)) := by
    intro c' hc
    have e1 : opV c' v w = if w = 0 then mkE 1 else if w = -1 then (if c' = 47 then mkN (-v) else mkN 0) else if c' = 47 then mkN (v / w) else mkN (v - v / w * w) := by
      unfold opV
      rw [if_neg (by omega), if_neg (by omega), if_neg (by omega), if_neg (by omega), if_neg (by omega), if_neg (by omega), if_neg (by omega)]
    rw [e1]
    by_cases q1 : w = 0
    · rw [if_pos q1]; exact ⟨1, .inr ⟨rfl, rfl⟩⟩
    rw [if_neg q1]
    by_cases q2 : w = -1
    · rw [if_pos q2]
      by_cases q3 : c' = 47
      · rw [if_pos q3]; exact ⟨_, .inl rfl⟩
      · rw [if_neg q3]; exact ⟨_, .inl rfl⟩
    · rw [if_neg q2]
      by_cases q3 : c' = 47
      · rw [if_pos q3]; exact ⟨_, .inl rfl⟩
      · rw [if_neg q3]; exact ⟨_, .inl rfl⟩
  rcases stg_c h with rfl | rfl | rfl | rfl | rfl | rfl | rfl | rfl | rfl
  · obtain ⟨u, q | ⟨q, q'⟩⟩ := dm 37 (.inl rfl)
    · rw [q]; exact ⟨⟨u, .inl rfl⟩, ty_n⟩
    · rw [q]; exact ⟨⟨u, .inr (.inr ⟨rfl, q'⟩)⟩, ty_e (.inl q')⟩
  · exact ⟨⟨_, .inr (.inl rfl)⟩, ty_t⟩
  · exact ⟨⟨_, .inl rfl⟩, ty_n⟩
  · exact ⟨⟨_, .inl rfl⟩, ty_n⟩
  · exact ⟨⟨_, .inl rfl⟩, ty_n⟩
  · obtain ⟨u, q | ⟨q, q'⟩⟩ := dm 47 (.inr rfl)
    · rw [q]; exact ⟨⟨u, .inl rfl⟩, ty_n⟩
    · rw [q]; exact ⟨⟨u, .inr (.inr ⟨rfl, q'⟩)⟩, ty_e (.inl q')⟩
  · exact ⟨⟨_, .inr (.inl rfl)⟩, ty_t⟩
  · exact ⟨⟨_, .inr (.inl rfl)⟩, ty_t⟩
  · exact ⟨⟨_, .inr (.inl rfl)⟩, ty_t⟩
theorem r_both {k s0 s1 s2 c : Nat} {a a' : TVal} {t t' : Nat} (hk : k < 1200) (hs1 : s1 < 520000) (hs2 : s2 < 520000) (h1 : Sl S M nT s1 (some a)) (h2 : Sl S M nT s2 (some a')) (h86 : S.1 86 k = nI c) (hc : 1 ≤ stg c) (ht : tyO t a) (ht' : tyO t' a') (ht3 : t ≠ 3) (ht3' : t' ≠ 3) : f_X11_both (nI k) (nI s0) (nI s1) (nI s2) S = (f_X11_event (nI s0) (nI (biV c a a').1) (biV c a a').2.1 S).bind (fun q => gd (z_b q.1) (some (q.1, q.2))) := by
  have n1 : ¬ S.1 126 s1 = 0 := fun q => by have := (sl_0 h1).mp q; cases this
  have n2 : S.1 126 s2 ≠ 0 := fun q => by have := (sl_0 h2).mp q; cases this
  unfold f_X11_both
  rw [r_err hs1 hs2 h1 h2, mI_in (a := s1) (n := 520000) (by omega) hs1, mI_in (a := s2) (n := 520000) (by omega) hs2, nI_clamp (show s1 < 2 ^ 31 by omega), nI_clamp (show s2 < 2 ^ 31 by omega), mI_in (a := k) (n := 1200) (by omega) hk, nI_clamp (show k < 2 ^ 31 by omega)]
  simp only [gd_t, Option.bind_some]
  rw [if_neg n1, if_pos n2, h86]
  unfold biV
  cases he : erV a a' with
  | some v =>
    have := er_pos (erV_3 ht ht' he)
    rw [if_neg (show ¬ (lg_cmp ((some v).getD 0) 0 : Int32) ≤ 0 from this)]
    rfl
  | none =>
    rw [if_pos (show (lg_cmp ((none : Option Int64).getD 0) 0 : Int32) ≤ 0 from by rw [lg_cmp_le]; decide)]
    obtain ⟨c1, c2⟩ := erV_n he
    have e1 : S.2.1 127 s1 = a.2.1 := (h1.2.2.2.1 (by rw [ht.2 c1]; exact ht3)).1
    have e2 : S.2.1 127 s2 = a'.2.1 := (h2.2.2.2.1 (by rw [ht'.2 c2]; exact ht3')).1
    rw [e1, e2]
    have z0 : ∀ {v w : Int64}, (lg_cmp v w : Int32) ≠ 0 ↔ v ≠ w := fun {v w} => not_congr (lg_cmp_eq v w)
    have dm : ∀ c', c = c' → c' = 37 ∨ c' = 47 → (if (lg_cmp a'.2.1 0 : Int32) ≠ 0 then (if (lg_cmp a'.2.1 (-1) : Int32) ≠ 0 then (if (nI c : Int32) ≠ 47 then (gd (nz_J a'.2.1) ((f_X11_event (nI s0) 1 (a.2.1 - a.2.1 / a'.2.1 * a'.2.1) S).bind (fun q => gd (z_b q.1) (some (q.1, q.2))))) else (gd (nz_J a'.2.1) ((f_X11_event (nI s0) 1 (a.2.1 / a'.2.1) S).bind (fun q => gd (z_b q.1) (some (q.1, q.2)))))) else (if (nI c : Int32) ≠ 47 then ((f_X11_event (nI s0) 1 0 S).bind (fun q => gd (z_b q.1) (some (q.1, q.2)))) else ((f_X11_event (nI s0) 1 (-(a.2.1)) S).bind (fun q => gd (z_b q.1) (some (q.1, q.2)))))) else ((f_X11_event (nI s0) 4 1 S).bind (fun q => gd (z_b q.1) (some (q.1, q.2))))) = (f_X11_event (nI s0) (nI (opV c a.2.1 a'.2.1).1) (opV c a.2.1 a'.2.1).2.1 S).bind (fun q => gd (z_b q.1) (some (q.1, q.2))) := by
      intro c' hcc hc'
      have i47 : (nI c : Int32) ≠ 47 ↔ c ≠ 47 := not_congr (nI_eq (a := c) (b := 47) (by omega) (by omega))
      have eo : opV c a.2.1 a'.2.1 = if a'.2.1 = 0 then mkE 1 else if a'.2.1 = -1 then (if c = 47 then mkN (-a.2.1) else mkN 0) else if c = 47 then mkN (a.2.1 / a'.2.1) else mkN (a.2.1 - a.2.1 / a'.2.1 * a'.2.1) := by
        unfold opV
        rw [if_neg (by omega), if_neg (by omega), if_neg (by omega), if_neg (by omega), if_neg (by omega), if_neg (by omega), if_neg (by omega)]
      rw [eo]
      by_cases q1 : a'.2.1 = 0
      · rw [if_neg (fun z => z0.mp z q1), if_pos q1]
        rfl
      · rw [if_pos (z0.mpr q1), if_neg q1]
        have hnz : nz_J a'.2.1 = true := by
          unfold nz_J
          simp [q1]
        by_cases q2 : a'.2.1 = -1
        · rw [if_neg (fun z => z0.mp z q2), if_pos q2]
          by_cases q3 : c = 47
          · rw [if_neg (fun z => i47.mp z q3), if_pos q3]; rfl
          · rw [if_pos (i47.mpr q3), if_neg q3]; rfl
        · rw [if_pos (z0.mpr q2), if_neg q2, hnz]
          simp only [gd_t]
          by_cases q3 : c = 47
          · rw [if_neg (fun z => i47.mp z q3), if_pos q3]; rfl
          · rw [if_pos (i47.mpr q3), if_neg q3]; rfl
    rcases stg_c hc with hc' | hc' | hc' | hc' | hc' | hc' | hc' | hc' | hc'
    · have := dm 37 hc' (.inl rfl)
      subst hc'
      rw [if_neg (by decide), if_neg (by decide), if_neg (by decide), if_neg (by decide), if_neg (by decide), if_neg (by decide), if_neg (by decide)]
      exact this
    · subst hc'
      rw [if_pos (by decide)]; rfl
    · subst hc'
      rw [if_neg (by decide), if_pos (by decide)]; rfl
    · subst hc'
      rw [if_neg (by decide), if_neg (by decide), if_pos (by decide)]; rfl
    · subst hc'
      rw [if_neg (by decide), if_neg (by decide), if_neg (by decide), if_pos (by decide)]; rfl
    · have := dm 47 hc' (.inr rfl)
      subst hc'
      rw [if_neg (by decide), if_neg (by decide), if_neg (by decide), if_neg (by decide), if_neg (by decide), if_neg (by decide), if_neg (by decide)]
      exact this
    · subst hc'
      rw [if_neg (by decide), if_neg (by decide), if_neg (by decide), if_neg (by decide), if_pos (by decide)]
      show _ = (f_X11_event (nI s0) 2 (if (0 : Int32) ≤ lg_cmp a.2.1 a'.2.1 then 0 else 1) S).bind _
      by_cases q : (0 : Int32) ≤ lg_cmp a.2.1 a'.2.1
      · rw [if_pos q, if_pos q]
      · rw [if_neg q, if_neg q]
    · subst hc'
      rw [if_neg (by decide), if_neg (by decide), if_neg (by decide), if_neg (by decide), if_neg (by decide), if_pos (by decide)]
      show _ = (f_X11_event (nI s0) 2 (if (lg_cmp a.2.1 a'.2.1 : Int32) ≠ 0 then 0 else 1) S).bind _
      by_cases q : (lg_cmp a.2.1 a'.2.1 : Int32) ≠ 0
      · rw [if_pos q, if_pos q]
      · rw [if_neg q, if_neg q]
    · subst hc'
      rw [if_neg (by decide), if_neg (by decide), if_neg (by decide), if_neg (by decide), if_neg (by decide), if_neg (by decide), if_pos (by decide)]; rfl
theorem bi_ec {c : Nat} {a a' : TVal} {t t' : Nat} (hc : 1 ≤ stg c) (ht : tyO t a) (ht' : tyO t' a') : EcV S M nT (biV c a a') (biV c a a').2.1 ∧ tyO (if stg c ≤ 3 then 2 else 1) (biV c a a') := by
  unfold biV
  cases he : erV a a' with
  | some v => exact ⟨ec_e, ty_e (erV_3 ht ht' he)⟩
  | none =>
    obtain ⟨⟨u, q⟩, q'⟩ := opV_k hc a.2.1 a'.2.1
    refine ⟨?_, q'⟩
    show EcV S M nT (opV c a.2.1 a'.2.1) (opV c a.2.1 a'.2.1).2.1
    rcases q with q | q | ⟨q, -⟩
    · rw [q]; exact ec_n
    · rw [q]; exact ec_t
    · rw [q]; exact ec_e
theorem st_9 (T : TH K pl V m) (R : RHd K pl V m fr y e n' r' ν ρ W S) (I : RI K V y q0 ar ν ρ S nA nS nT A b vals lk M Lv f1 f2) (h : Lv.length ≤ 1000) (hG : ∀ z, z ∈ scP y → GdN K V (ftP y) z) (hx0 : x0 < nA) {x x' : TR} (hz : (.tag 9 (.tag j (.append x x')), γ, r) ∈ scP y) (hr : r = hdR (A x0)) (hk0 : (rgL y (hdR (A x0)))[k0]? = some j) (hv0 : vals (A x0) j = none) : ∃ ans S', f_X11_step fu (nI x0) (nI (ν j)) S = some (ans, S') ∧ SO K V y q0 ar ν ρ S nA nS nT A b vals lk M Lv f1 f2 x0 k0 (.tag 9 (.tag j (.append x x')), γ, r) ans S' := by
  obtain ⟨u1, u2, u3, u4, u5⟩ := sl_at T R I h hx0 hk0
  obtain ⟨⟨⟨h81, -, -, -, -, h86⟩, h83, h84, -⟩, -⟩ := rs_P T R _ hz
  have h86 := h86 (.inr rfl)
  have hP := (I.2.2.1 x0 hx0).1
  obtain ⟨⟨p', e', wz⟩, -, htr⟩ := (tl_P R.1) _ hz
  obtain ⟨hKj, w1, w2⟩ := wz
  have hzx : (x, γ, r) ∈ scP y := htr _ (mc _ (ml _ (hd_in w1 _ _)))
  have hzx' : (x', γ, r) ∈ scP y := htr _ (mc _ (mr _ (hd_in w2 _ _)))
  obtain ⟨s1, v1, v2, v3, v4⟩ := op_at T R I h hx0 hzx hr
  obtain ⟨s2, v1', v2', v3', v4'⟩ := op_at T R I h hx0 hzx' hr
  obtain ⟨gt, gt'⟩ := hG _ hz
  have hNIe : vals (A x0) j = none → EB (fun e => e ∈ Lv) (A x0) j (fun _ => False) := ((I.2.2.2.2.2.2.1 x0 hx0 _ hz hr).1).1
  have hnv : ¬ (A x0, j, 0) ∈ Lv := fun q => hNIe hv0 0 q
  have hun : f_X11_step fu (nI x0) (nI (ν j)) S = (f_X11_both (nI (ν j)) (nI (b x0 + k0)) (nI s1) (nI s2) S).bind (fun q => gd (z_b q.1) (some (q.1, q.2))) := by
    unfold f_X11_step
    rw [u1]
    simp only [Option.bind_some]
    rw [mI_in (a := ν j) (n := 1200) (by omega) u3, nI_clamp (show ν j < 2 ^ 31 by omega), h81, h83, v1]
    simp only [gd_t, Option.bind_some]
    rw [h84, v1']
    simp only [gd_t, Option.bind_some]
    rw [if_neg (by decide), if_neg (by decide), if_neg (by decide), if_neg (by decide), if_neg (by decide), if_neg (by decide), if_neg (by decide), if_neg (by decide), if_pos (by decide)]
  rw [hun]
  cases hv : vals (A x0) (otk x) with
  | none =>
    have : f_X11_both (nI (ν j)) (nI (b x0 + k0)) (nI s1) (nI s2) S = some (0, S) := by
      unfold f_X11_both
      rw [mI_in (a := s1) (n := 520000) (by omega) (by omega), nI_clamp (show s1 < 2 ^ 31 by omega)]
      simp only [gd_t]
      rw [if_pos ((sl_0 v3).mpr hv)]
    rw [this]
    exact ⟨0, S, rfl, so_zero R.1 I hx0 hz hr hk0 (rgL_nd R) hv0 (fun _ _ _ => rfl) (fun _ _ _ => rfl) (.inl hv)⟩
  | some a =>
    cases hv' : vals (A x0) (otk x') with
    | none =>
      have : f_X11_both (nI (ν j)) (nI (b x0 + k0)) (nI s1) (nI s2) S = some (0, S) := by
        unfold f_X11_both
        rw [mI_in (a := s1) (n := 520000) (by omega) (by omega), nI_clamp (show s1 < 2 ^ 31 by omega), mI_in (a := s2) (n := 520000) (by omega) (by omega), nI_clamp (show s2 < 2 ^ 31 by omega)]
        simp only [gd_t]
        rw [if_neg (fun q => by have := (sl_0 v3).mp q; rw [hv] at this; cases this), if_neg (fun q => q ((sl_0 v3').mpr hv'))]
      rw [this]
      exact ⟨0, S, rfl, so_zero R.1 I hx0 hz hr hk0 (rgL_nd R) hv0 (fun _ _ _ => rfl) (fun _ _ _ => rfl) (.inr hv')⟩
    | some a' =>
      have t1 := v4 a hv
      have t2 := v4' a' hv'
      rw [hv] at v3
      rw [hv'] at v3'
      have n3 : (if stg (K j) ≤ 2 then 2 else 1) ≠ 3 := by split <;> omega
      rw [r_both u3 (by omega) (by omega) v3 v3' h86 hKj t1 t2 (by rw [gt]; exact n3) (by rw [gt']; exact n3)]
      obtain ⟨g1, g2⟩ := bi_ec (S := S) (M := M) (nT := nT) hKj t1 t2
      have hNI : NI K V y ar (EnA nA A) (upV vals (A x0) j (some (biV (K j) a a'))) (fun e => e ∈ (A x0, j, 0) :: Lv) (A x0) (lk (A x0) j) (.tag 9 (.tag j (.append x x')), γ, r) := by
        refine ⟨fun q => ?_, fun a1 q => ?_⟩
        · rw [upV_eq] at q
          cases q
        · rw [upV_eq] at q
          exact ⟨List.mem_cons_self, a, a', upV_mono hv0 hv, upV_mono hv0 hv', (Option.some.inj q).symm⟩
      obtain ⟨S', p1, p2⟩ := so_ev (i := 0) R.1 T R I h hx0 hz hr hk0 hv0 rfl g1 hnv hNI g2 (fun En' Va' De' hcl s1 s2 => by
        have := clo_at hcl (s1 x0 hx0) hP hz hr a a' (s2 _ _ _ hv) (s2 _ _ _ hv')
        exact ⟨this.2, this.1⟩)
      rw [p1]
      exact ⟨1, S', rfl, p2⟩
end STB
