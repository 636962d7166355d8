/-! the class's parser: all calls are linked -/
def cfL (K pl : Nat → Nat) (V : Nat → Int64) (ft : List (Nat × Nat)) : List (Nat × TR) → Nat
  | [] => 4000
  | c :: cl => min (cfC K pl V ft c.1 c.2) (cfL K pl V ft cl)
theorem cfL_le {K pl : Nat → Nat} {V : Nat → Int64} {ft : List (Nat × Nat)} : ∀ (cl : List (Nat × TR)), (∀ c, c ∈ cl → cfL K pl V ft cl ≤ cfC K pl V ft c.1 c.2) ∧ ∀ g, g ≤ 4000 → (∀ c, c ∈ cl → g ≤ cfC K pl V ft c.1 c.2) → g ≤ cfL K pl V ft cl := by
  intro cl
  induction cl with
  | nil => exact ⟨fun c h => absurd h List.not_mem_nil, fun g h _ => h⟩
  | cons d cl ih =>
    refine ⟨fun c hc => ?_, fun g h1 h2 => ?_⟩
    · show min (cfC K pl V ft d.1 d.2) (cfL K pl V ft cl) ≤ _
      rcases List.mem_cons.mp hc with z | z
      · rw [z]; exact Nat.min_le_left _ _
      · exact Nat.le_trans (Nat.min_le_right _ _) (ih.1 c z)
    · show g ≤ min (cfC K pl V ft d.1 d.2) (cfL K pl V ft cl)
      exact Nat.le_min.mpr ⟨h2 d (List.mem_cons_self ..), ih.2 g h1 (fun c hc => h2 c (List.mem_cons_of_mem _ hc))⟩
theorem CaO_cp {K pl : Nat → Nat} {V : Nat → Int64} {S S' : im_S} {N : Nat → Nat} {j : Nat} {as : TR} (h : CaO K pl V S N j as) (h1 : ∀ a k : Nat, a ≠ 5 → a ≠ 11 → a ≠ 13 → S'.1 a k = S.1 a k) (h2 : S'.2.1 = S.2.1) : CaO K pl V S' N j as := by
  obtain ⟨c1, c2, c3, c4, c5, c6⟩ := h
  refine ⟨c1, by rw [h1 7 _ (by omega) (by omega) (by omega)]; exact c2, by rw [h2]; exact c3, by rw [h1 19 _ (by omega) (by omega) (by omega)]; exact c4, ?_, c6⟩
  rw [h1 12 _ (by omega) (by omega) (by omega)]
  exact AgC_cp (tsz as) as (Nat.le_refl _) _ (fun t _ => ⟨rfl, rfl, fun _ => ⟨h1 8 _ (by omega) (by omega) (by omega), h1 20 _ (by omega) (by omega) (by omega), h1 14 _ (by omega) (by omega) (by omega)⟩⟩) c5
section CLS
variable {K pl : Nat → Nat} {V : Nat → Int64} {m fu : Nat} {N : Nat → Nat} {S : im_S} {ft : List (Nat × Nat)} {cl : List (Nat × TR)} {f : Nat}
/-- nodes below k are linked -/
def LI (K pl : Nat → Nat) (V : Nat → Int64) (N : Nat → Nat) (S : im_S) (ft : List (Nat × Nat)) (cl : List (Nat × TR)) (f k : Nat) (S' : im_S) (f' : Nat) : Prop :=
  FS S' f' ∧ f' ≤ f ∧ (∀ c, c ∈ cl → N c.1 < k → f' ≤ cfC K pl V ft c.1 c.2) ∧ (f' = f ∨ ∃ c, c ∈ cl ∧ f' = cfC K pl V ft c.1 c.2) ∧ (∀ a k' : Nat, a ≠ 5 → a ≠ 11 → a ≠ 13 → S'.1 a k' = S.1 a k') ∧ S'.2.1 = S.2.1 ∧ (∀ c, c ∈ cl → N c.1 < k → ∀ i ps, lkF V ft c.1 (rts c.2).length = some (i, ps) → S'.1 13 (N c.1) = nI i) ∧ (∀ k' : Nat, (∀ c, c ∈ cl → N c.1 ≠ k') → S'.1 13 k' = S.1 13 k') ∧ (∀ k' : Nat, (∀ c, c ∈ cl → ¬ k' ∈ (rts c.2).map N) → S'.1 11 k' = S.1 11 k') ∧ (∀ tg : Nat → Int32, (∀ c, c ∈ cl → ∀ i ps, lkF V ft c.1 (rts c.2).length = some (i, ps) → AgG N tg c.2 ps) → (∀ c, c ∈ cl → N c.1 < k → ∀ i ps t, lkF V ft c.1 (rts c.2).length = some (i, ps) → t ∈ rts c.2 → S'.1 11 (N t) = tg (N t)) ∧ ∀ k', S'.1 11 k' = S.1 11 k' ∨ S'.1 11 k' = tg k')
theorem c_lkLoop (hfu : 600 ≤ fu) {e n : Nat} (hft : FTb V S N 0 ft) (h3 : S.1 22 3 = nI ft.length) (h8 : ft.length ≤ 8) (hci : CI K pl V S N 0 e e cl) (hN0 : N 0 = 0) (hNe : N e = n) (hn : S.1 6 16 = nI n) (hn5 : n ≤ 512) (hM : ∀ i j, i ≤ j → j ≤ e → N i ≤ N j) (hpl : ∀ c, c ∈ cl → pl c.1 ≤ 500) (hf : f ≤ 4000) : ∀ (d nf k : Nat) (S' : im_S) (f' : Nat), k + d = n → d < nf → LI K pl V N S ft cl f k S' f' → ∃ (S2 : im_S) (f2 : Nat), f_X7_linkCalls_L2 fu nf (nI k) S' = some ((), S2) ∧ LI K pl V N S ft cl f n S2 f2 := by
  intro d
  induction d with
  | zero =>
    intro nf k S' f' hk hnf H
    obtain ⟨nf, rfl⟩ : ∃ z, nf = z + 1 := ⟨nf - 1, by omega⟩
    have e1 : S'.1 6 16 = nI n := by rw [H.2.2.2.2.1 6 16 (by omega) (by omega) (by omega)]; exact hn
    refine ⟨S', f', ?_, by rw [← (show k = n by omega)]; exact H⟩
    rw [f_X7_linkCalls_L2, e1, if_pos ((mI_le (a := n) (b := k) (by omega) (by omega)).mpr (by omega))]
  | succ d ih =>
    intro nf k S' f' hk hnf H
    obtain ⟨nf, rfl⟩ : ∃ z, nf = z + 1 := ⟨nf - 1, by omega⟩
    obtain ⟨a1, a2, a3, a4, a5, a6, a7, a8, a9, a10⟩ := H
    have e1 : S'.1 6 16 = nI n := by rw [a5 6 16 (by omega) (by omega) (by omega)]; exact hn
    have e7 : S'.1 7 k = S.1 7 k := a5 7 k (by omega) (by omega) (by omega)
    rw [f_X7_linkCalls_L2, e1, if_neg (fun z => by have := (mI_le (a := n) (b := k) (by omega) (by omega)).mp z; omega), mI_in (a := k) (n := 512) (by omega) (by omega), nI_clamp (show k < 2 ^ 31 by omega), e7, show nI k + 1 = nI (k + 1) from nI_add k 1]
    simp only [gd_t]
    by_cases h7 : S.1 7 k = 8
    · rw [if_neg (fun z => z h7)]
      obtain ⟨c, hc, hck⟩ := hci.1 k (by omega) (by omega) h7
      have hts : ∀ c', c' ∈ cl → ∀ t, t ∈ rts c'.2 → N t < 512 := fun c' hc' t ht => by
        obtain ⟨q1, -, -, q4⟩ := hci.2 c' hc'
        have w1 := agc_lt (tsz c'.2) c'.2 (Nat.le_refl _) _ q1.2.2.2.2.1 t ht
        have w2 := hM (t + 1) e (by have := q4 t ht; omega) (Nat.le_refl _)
        omega
      have step := fun (c' : Nat × TR) (hc' : c' ∈ cl) (hk' : N c'.1 = k) => c_link1 (fu := fu) (S := S') (ft := ft) (f := f') hfu (FTb_cp a5 a6 ft 0 hft) (by rw [a5 22 3 (by omega) (by omega) (by omega)]; exact h3) h8 (CaO_cp (hci.2 c' hc').1 a5 a6) (by omega) (hts c' hc') (hpl c' hc') a1 (by omega)
      obtain ⟨S2, s1, s2, s3, s4, s5, s6⟩ := step c hc hck
      rw [hck] at s1
      rw [s1]
      simp only [Option.bind_some]
      refine ih nf (k + 1) S2 (min f' (cfC K pl V ft c.1 c.2)) (by omega) (by omega) ⟨s2, by omega, fun c' hc' hlt => ?_, ?_, fun a k' u1 u2 u3 => by rw [s3 a k' u1 (Or.inl u3) (Or.inl u2)]; exact a5 a k' u1 u2 u3, by rw [s4]; exact a6, fun c' hc' hlt i ps hl => ?_, fun k' hk' => ?_, fun k' hk' => ?_, fun tg htg => ?_⟩
      · rcases Nat.lt_or_ge (N c'.1) k with z | z
        · exact Nat.le_trans (Nat.min_le_left _ _) (a3 c' hc' z)
        · obtain ⟨S3, t1, t2, -⟩ := step c' hc' (by omega)
          rw [show N c'.1 = k by omega] at t1
          rw [s1] at t1
          cases t1
          rw [FS_inj s2 t2]
          exact Nat.min_le_right _ _
      · rcases Nat.le_total f' (cfC K pl V ft c.1 c.2) with z | z
        · rw [Nat.min_eq_left z]; exact a4
        · rw [Nat.min_eq_right z]; exact Or.inr ⟨c, hc, rfl⟩
      · rcases Nat.lt_or_ge (N c'.1) k with z | z
        · rw [s3 13 (N c'.1) (by omega) (Or.inr (by omega)) (Or.inl (by omega))]
          exact a7 c' hc' z i ps hl
        · obtain ⟨S3, t1, -, -, -, t5, -⟩ := step c' hc' (by omega)
          have hk' : N c'.1 = k := by omega
          have t5' := t5 i ps hl
          rw [hk'] at t1
          rw [s1] at t1
          cases t1
          exact t5'
      · rw [s3 13 k' (by omega) (Or.inr (fun z => hk' c hc z.symm)) (Or.inl (by omega))]
        exact a8 k' hk'
      · rw [s3 11 k' (by omega) (Or.inl (by omega)) (Or.inr (hk' c hc))]
        exact a9 k' hk'
      · obtain ⟨b1, b2⟩ := a10 tg htg
        obtain ⟨d1, d2⟩ := s6 tg (htg c hc)
        refine ⟨fun c' hc' hlt i ps t hl ht => ?_, fun k' => ?_⟩
        · rcases Nat.lt_or_ge (N c'.1) k with z | z
          · rcases d2 (N t) with y | y
            · rw [y]; exact b1 c' hc' z i ps t hl ht
            · exact y
          · obtain ⟨S3, t1, -, -, -, -, t6⟩ := step c' hc' (by omega)
            have t6' := (t6 tg (htg c' hc')).1 i ps t hl ht
            rw [show N c'.1 = k by omega] at t1
            rw [s1] at t1
            cases t1
            exact t6'
        · rcases d2 k' with y | y
          · rw [y]; exact b2 k'
          · exact Or.inr y
    · rw [if_pos h7]
      refine ih nf (k + 1) S' f' (by omega) (by omega) ⟨a1, a2, fun c' hc' hlt => ?_, a4, a5, a6, fun c' hc' hlt => ?_, a8, a9, fun tg htg => ⟨fun c' hc' hlt => ?_, (a10 tg htg).2⟩⟩
      · rcases Nat.lt_or_ge (N c'.1) k with z | z
        · exact a3 c' hc' z
        · exact absurd (by have := (hci.2 c' hc').1.2.1; rw [show N c'.1 = k by omega] at this; exact this) h7
      · rcases Nat.lt_or_ge (N c'.1) k with z | z
        · exact a7 c' hc' z
        · exact absurd (by have := (hci.2 c' hc').1.2.1; rw [show N c'.1 = k by omega] at this; exact this) h7
      · rcases Nat.lt_or_ge (N c'.1) k with z | z
        · exact (a10 tg htg).1 c' hc' z
        · exact absurd (by have := (hci.2 c' hc').1.2.1; rw [show N c'.1 = k by omega] at this; exact this) h7
theorem c_links (hfu : 600 ≤ fu) {e n : Nat} (hft : FTb V S N 0 ft) (h3 : S.1 22 3 = nI ft.length) (h8 : ft.length ≤ 8) (hci : CI K pl V S N 0 e e cl) (hN0 : N 0 = 0) (hNe : N e = n) (hn : S.1 6 16 = nI n) (hn5 : n ≤ 512) (hM : ∀ i j, i ≤ j → j ≤ e → N i ≤ N j) (hpl : ∀ c, c ∈ cl → pl c.1 ≤ 500) (hFS : FS S f) (hf : f ≤ 4000) : ∃ (S2 : im_S) (f2 : Nat), f_X7_linkCalls fu S = some ((), S2) ∧ LI K pl V N S ft cl f n S2 f2 ∧ f2 = min f (cfL K pl V ft cl) := by
  obtain ⟨S2, f2, s1, s2⟩ := c_lkLoop hfu hft h3 h8 hci hN0 hNe hn hn5 hM hpl hf n fu 0 S f (by omega) (by omega) ⟨hFS, Nat.le_refl _, fun c _ h => absurd h (by omega), Or.inl rfl, fun _ _ _ _ _ => rfl, rfl, fun c _ h => absurd h (by omega), fun _ _ => rfl, fun _ _ => rfl, fun tg _ => ⟨fun c _ h => absurd h (by omega), fun _ => Or.inl rfl⟩⟩
  refine ⟨S2, f2, s1, s2, ?_⟩
  obtain ⟨-, a2, a3, a4, -⟩ := s2
  obtain ⟨q1, q2⟩ := cfL_le (K := K) (pl := pl) (V := V) (ft := ft) cl
  have h1 : f2 ≤ cfL K pl V ft cl := q2 f2 (by omega) (fun c hc => a3 c hc (by
    have := (hci.2 c hc).1.1
    have := hM (c.1 + 1) e (by have := (hci.2 c hc).2.2.1; omega) (Nat.le_refl _)
    omega))
  rcases a4 with z | ⟨c, hc, z⟩
  · rw [Nat.min_eq_left (by omega)]; exact z
  · have := q1 c hc
    rw [Nat.min_eq_right (by omega)]
    omega
end CLS
