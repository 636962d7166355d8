/-! the class's calls are linked -/
def CU (l : List (Nat × TR)) (p e : Nat) : Prop := (∀ c, c ∈ l → p ≤ c.1 ∧ c.1 < e ∧ (rts c.2).Nodup) ∧ ∀ c, c ∈ l → ∀ c', c' ∈ l → c.1 = c'.1 → c = c'
theorem CU_nil (p e : Nat) : CU [] p e := ⟨fun _ h => absurd h List.not_mem_nil, fun _ h => absurd h List.not_mem_nil⟩
theorem CU_wk {l : List (Nat × TR)} {p e p' e' : Nat} (h : CU l p e) (h1 : p' ≤ p) (h2 : e ≤ e') : CU l p' e' := ⟨fun c hc => by
  obtain ⟨a1, a2, a3⟩ := h.1 c hc
  exact ⟨by omega, by omega, a3⟩, h.2⟩
theorem CU_app {l1 l2 : List (Nat × TR)} {p b b' e : Nat} (h1 : CU l1 p b) (h2 : CU l2 b' e) (hb : b ≤ b') (hp : p ≤ b') (he : b ≤ e) : CU (l1 ++ l2) p e := by
  refine ⟨fun c hc => ?_, fun c hc c' hc' q => ?_⟩
  · rcases List.mem_append.mp hc with hc | hc
    · obtain ⟨a1, a2, a3⟩ := h1.1 c hc
      exact ⟨a1, by omega, a3⟩
    · obtain ⟨a1, a2, a3⟩ := h2.1 c hc
      exact ⟨by omega, a2, a3⟩
  · rcases List.mem_append.mp hc with hc | hc
    · rcases List.mem_append.mp hc' with hc' | hc'
      · exact h1.2 c hc c' hc' q
      · obtain ⟨a1, a2, -⟩ := h1.1 c hc
        obtain ⟨b1, b2, -⟩ := h2.1 c' hc'
        omega
    · rcases List.mem_append.mp hc' with hc' | hc'
      · obtain ⟨a1, a2, -⟩ := h2.1 c hc
        obtain ⟨b1, b2, -⟩ := h1.1 c' hc'
        omega
      · exact h2.2 c hc c' hc' q
/-- which argument's root gets which parameter -/
def AT : TR → List Nat → Nat → Nat → Prop
  | .append (.tag _ x) r, b :: ps, t, b' => (t = rtk x ∧ b' = b) ∨ AT r ps t b'
  | _, _, _, _ => False
section CLK
variable {K pl : Nat → Nat} {V : Nat → Int64} {N M L : Nat → Nat}
theorem cu_W {x : TR} {p e md : Nat} (w : Wt K x p e md) : CU (cls x) p e ∧ (rts x).Nodup ∧ ∀ t, t ∈ rts x → p ≤ t ∧ t < e := by
  have X : ∀ {l : List (Nat × TR)} {p e : Nat}, CU l p e → CU l p e ∧ ([] : List Nat).Nodup ∧ ∀ t, t ∈ ([] : List Nat) → p ≤ t ∧ t < e := fun h => ⟨h, List.nodup_nil, fun t ht => absurd ht List.not_mem_nil⟩
  refine Wt_ind (K := K) (P := fun x p e md => CU (cls x) p e ∧ (rts x).Nodup ∧ ∀ t, t ∈ rts x → p ≤ t ∧ t < e) ?_ ?_ ?_ ?_ ?_ ?_ ?_ ?_ ?_ ?_ ?_ ?_ ?_ ?_ ?_ (tsz x) x p e md (Nat.le_refl _) w
  · intro p md _; exact X (CU_nil _ _)
  · intro p md _; exact X (CU_nil _ _)
  · intro p md _; exact X (CU_nil _ _)
  · intro p md _
    refine X ⟨fun c hc => ?_, fun c hc c' hc' _ => ?_⟩
    · obtain rfl := List.mem_singleton.mp hc
      exact ⟨Nat.le_refl _, by show p < p + 3; omega, List.nodup_nil⟩
    · rw [List.mem_singleton.mp hc, List.mem_singleton.mp hc']
  · intro p as b md _ _ w1 ih
    have := Wt_lt w1
    refine X ⟨fun c hc => ?_, fun c hc c' hc' q => ?_⟩
    · rcases List.mem_cons.mp hc with rfl | hc
      · exact ⟨Nat.le_refl _, by show p < b + 1; omega, ih.2.1⟩
      · obtain ⟨a1, a2, a3⟩ := ih.1.1 c hc
        exact ⟨by omega, by omega, a3⟩
    · rcases List.mem_cons.mp hc with rfl | hc
      · rcases List.mem_cons.mp hc' with rfl | hc'
        · rfl
        · obtain ⟨a1, a2, -⟩ := ih.1.1 c' hc'
          have q : p = c'.1 := q
          omega
      · rcases List.mem_cons.mp hc' with rfl | hc'
        · obtain ⟨a1, a2, -⟩ := ih.1.1 c hc
          have q : c.1 = p := q
          omega
        · exact ih.1.2 c hc c' hc' q
  · intro p x y b e md _ w1 w2 i1 i2
    have := Wt_lt w1; have := Wt_lt w2
    exact X (CU_wk (CU_app i1.1 i2.1 (by omega) (by omega) (by omega)) (by omega) (Nat.le_refl _))
  · intro p x y z b c e md w1 w2 w3 i1 i2 i3
    have := Wt_lt w1; have := Wt_lt w2; have := Wt_lt w3
    exact X (CU_wk (CU_app i1.1 (CU_app i2.1 i3.1 (by omega) (by omega) (by omega)) (by omega) (by omega) (by omega)) (by omega) (Nat.le_refl _))
  · intro p fs c ns g b d f e md _ _ w1 w2 w3 w4 i1 i2 i3 i4
    have := Wt_lt w1; have := Wt_lt w2; have := Wt_lt w3; have := Wt_lt w4
    exact X (CU_wk (CU_app i1.1 (CU_app i2.1 (CU_app i3.1 i4.1 (by omega) (by omega) (by omega)) (by omega) (by omega) (by omega)) (by omega) (by omega) (by omega)) (by omega) (Nat.le_refl _))
  · intro p x e md _ w1 ih
    exact X (CU_wk ih.1 (by omega) (Nat.le_refl _))
  · intro p j x y e md _ w1 w2 i1 i2
    have := Wt_lt w1; have := Wt_lt w2
    exact X (CU_app i1.1 i2.1 (by omega) (by omega) (by omega))
  · intro p j x y b md w1 w2 i1 i2
    have := Wt_lt w1; have := Wt_lt w2
    exact X (CU_wk (CU_app i1.1 i2.1 (by omega) (by omega) (by omega)) (Nat.le_refl _) (by omega))
  · intro p x y b e md _ _ w1 w2 i1 i2
    have := Wt_lt w1; have := Wt_lt w2
    exact X (CU_wk (CU_app i1.1 i2.1 (by omega) (by omega) (by omega)) (by omega) (Nat.le_refl _))
  · intro p x b md w1 ih
    exact X (CU_wk ih.1 (by omega) (by omega))
  · intro p x b md hmd _ w1 ih
    have g0 : p ≤ (if md = 101 then p else p + 2) := by split <;> omega
    have r := Wt_rt w1
    refine ⟨?_, List.nodup_cons.mpr ⟨List.not_mem_nil, List.nodup_nil⟩, fun t ht => ?_⟩
    · show CU (cls x ++ []) p b
      rw [List.append_nil]
      exact CU_wk ih.1 g0 (Nat.le_refl _)
    · obtain rfl := List.mem_singleton.mp ht
      exact ⟨by omega, r.2.1⟩
  · intro p x l b e md hmd _ _ w1 w2 i1 i2
    have := Wt_lt w1; have := Wt_lt w2
    have g0 : p ≤ (if md = 101 then p else p + 2) := by split <;> omega
    have r := Wt_rt w1
    refine ⟨CU_wk (CU_app i1.1 i2.1 (by omega) (by omega) (by omega)) g0 (Nat.le_refl _), List.nodup_cons.mpr ⟨fun hm => ?_, i2.2.1⟩, fun t ht => ?_⟩
    · have := i2.2.2 _ hm
      omega
    · rcases List.mem_cons.mp ht with rfl | ht
      · exact ⟨by omega, by omega⟩
      · have := i2.2.2 t ht
        omega
theorem cu_P {y : TR} {p e : Nat} (w : PW K y p e) : CU (clP y) p e := by
  refine PW_ind (K := K) (P := fun y p e => CU (clP y) p e) ?_ ?_ (tsz y) y p e (Nat.le_refl _) w
  · intro p cnt x b e0 _ _ _ w1 hb
    show CU (cls x ++ []) p (e0 + 1)
    rw [List.append_nil]
    exact CU_wk (cu_W w1).1 (by omega) (by omega)
  · intro p cnt x r b e0 e _ _ _ w1 hb _ w2 ih
    have := Wt_lt w1; have := PW_lt w2
    exact CU_wk (CU_app (cu_W w1).1 ih (by omega) (by omega) (by omega)) (by omega) (Nat.le_refl _)
theorem AT_mem : ∀ (s : Nat) (as : TR), tsz as ≤ s → ∀ (ps : List Nat) (t b : Nat), AT as ps t b → t ∈ rts as := by
  intro s
  induction s with
  | zero => intro as hs; cases as <;> simp [tsz] at hs
  | succ s ih =>
    intro as hs ps t b h
    unfold AT at h
    split at h
    · rcases h with ⟨rfl, -⟩ | h
      · exact List.mem_cons_self
      · exact List.mem_cons_of_mem _ (ih _ (by simp only [tsz] at hs; omega) _ _ _ h)
    · exact h.elim
theorem AT_fun : ∀ (s : Nat) (as : TR), tsz as ≤ s → (rts as).Nodup → ∀ (ps : List Nat) (t b b' : Nat), AT as ps t b → AT as ps t b' → b = b' := by
  intro s
  induction s with
  | zero => intro as hs; cases as <;> simp [tsz] at hs
  | succ s ih =>
    intro as hs hn ps t b b' h h'
    unfold AT at h
    split at h
    · obtain ⟨n1, n2⟩ := List.nodup_cons.mp hn
      rcases h with ⟨rfl, rfl⟩ | h
      · rcases h' with ⟨-, h'⟩ | h'
        · exact h'.symm
        · exact absurd (AT_mem _ _ (Nat.le_refl _) _ _ _ h') n1
      · rcases h' with ⟨rfl, rfl⟩ | h'
        · exact absurd (AT_mem _ _ (Nat.le_refl _) _ _ _ h) n1
        · exact ih _ (by simp only [tsz] at hs; omega) n2 _ _ _ _ h h'
    · exact h.elim
theorem AgG_of {tg : Nat → Int32} : ∀ (s : Nat) (as : TR), tsz as ≤ s → ∀ ps : List Nat, (∀ t b, AT as ps t b → tg (N t) = nI (N b)) → AgG N tg as ps := by
  intro s
  induction s with
  | zero => intro as hs; cases as <;> simp [tsz] at hs
  | succ s ih =>
    intro as hs ps h
    unfold AgG
    split
    · exact ⟨h _ _ (Or.inl ⟨rfl, rfl⟩), ih _ (by simp only [tsz] at hs; omega) _ (fun t b q => h t b (Or.inr q))⟩
    · trivial
theorem N_inj {e : Nat} (hM : ∀ i j, i ≤ j → j ≤ e → N i ≤ N j) {t t' : Nat} (h1 : t < e) (h2 : t' < e) (h3 : N t < N (t + 1)) (h4 : N t' < N (t' + 1)) (h : N t = N t') : t = t' := by
  by_cases a : t < t'
  · have := hM (t + 1) t' (by omega) (by omega); omega
  · by_cases b : t' < t
    · have := hM (t' + 1) t (by omega) (by omega); omega
    · omega
/-- what linking did -/
theorem lk_do {S S' : im_S} {ft : List (Nat × Nat)} {cl : List (Nat × TR)} {p e n f f' : Nat} (hn : n < 2 ^ 31) (hNe : N e = n) (hM : ∀ i j, i ≤ j → j ≤ e → N i ≤ N j) (hcu : CU cl p e) (hci : ∀ c, c ∈ cl → N c.1 < N (c.1 + 1)) (hrt : ∀ c, c ∈ cl → ∀ t, t ∈ rts c.2 → t < e ∧ N t < N (t + 1) ∧ S.1 10 (N t) = nI (N c.1)) (hL : LI K pl V N S ft cl f n S' f') :
    ∀ c, c ∈ cl → ∀ i ps, lkF V ft c.1 (rts c.2).length = some (i, ps) → S'.1 13 (N c.1) = nI i ∧ ∀ t b, AT c.2 ps t b → S'.1 11 (N t) = nI (N b) := by
  have lt : ∀ j, j < e → N j < N (j + 1) → N j < n := fun j h1 h2 => by have := hM (j + 1) e (by omega) (Nat.le_refl _); omega
  have uq : ∀ k b b' : Nat, (∃ c, c ∈ cl ∧ ∃ i ps t, lkF V ft c.1 (rts c.2).length = some (i, ps) ∧ AT c.2 ps t b ∧ N t = k) → (∃ c, c ∈ cl ∧ ∃ i ps t, lkF V ft c.1 (rts c.2).length = some (i, ps) ∧ AT c.2 ps t b' ∧ N t = k) → b = b' := by
    rintro k b b' ⟨c, hc, i, ps, t, l1, a1, k1⟩ ⟨c', hc', i', ps', t', l2, a2, k2⟩
    have m1 := AT_mem _ _ (Nat.le_refl _) _ _ _ a1
    have m2 := AT_mem _ _ (Nat.le_refl _) _ _ _ a2
    obtain ⟨r1, r2, r3⟩ := hrt c hc t m1
    obtain ⟨r4, r5, r6⟩ := hrt c' hc' t' m2
    obtain ⟨u1, u2, u3⟩ := hcu.1 c hc
    obtain ⟨u4, u5, -⟩ := hcu.1 c' hc'
    have htt : t = t' := N_inj hM r1 r4 r2 r5 (by omega)
    subst htt
    rw [r3] at r6
    have d1 := lt c.1 u2 (hci c hc)
    have d2 := lt c'.1 u5 (hci c' hc')
    have hcc := hcu.2 c hc c' hc' (N_inj hM u2 u5 (hci c hc) (hci c' hc') ((nI_eq (by omega) (by omega)).mp r6))
    subst hcc
    rw [l1] at l2
    cases l2
    exact AT_fun _ _ (Nat.le_refl _) u3 _ _ _ _ a1 a2
  obtain ⟨tg, htg⟩ : ∃ tg : Nat → Int32, ∀ k b, (∃ c, c ∈ cl ∧ ∃ i ps t, lkF V ft c.1 (rts c.2).length = some (i, ps) ∧ AT c.2 ps t b ∧ N t = k) → tg k = nI (N b) := by
    have : ∀ k, ∃ v : Int32, ∀ b, (∃ c, c ∈ cl ∧ ∃ i ps t, lkF V ft c.1 (rts c.2).length = some (i, ps) ∧ AT c.2 ps t b ∧ N t = k) → v = nI (N b) := by
      intro k
      by_cases h : ∃ b, ∃ c, c ∈ cl ∧ ∃ i ps t, lkF V ft c.1 (rts c.2).length = some (i, ps) ∧ AT c.2 ps t b ∧ N t = k
      · obtain ⟨b, hb⟩ := h
        exact ⟨nI (N b), fun b' hb' => by rw [uq k b b' hb hb']⟩
      · exact ⟨0, fun b hb => absurd ⟨b, hb⟩ h⟩
    exact ⟨fun k => (this k).choose, fun k => (this k).choose_spec⟩
  have hag : ∀ c, c ∈ cl → ∀ i ps, lkF V ft c.1 (rts c.2).length = some (i, ps) → AgG N tg c.2 ps := fun c hc i ps hl => AgG_of _ _ (Nat.le_refl _) ps (fun t b ha => htg (N t) b ⟨c, hc, i, ps, t, hl, ha, rfl⟩)
  intro c hc i ps hl
  have hcn := lt c.1 (hcu.1 c hc).2.1 (hci c hc)
  refine ⟨hL.2.2.2.2.2.2.1 c hc hcn i ps hl, fun t b ha => ?_⟩
  rw [(hL.2.2.2.2.2.2.2.2.2 tg hag).1 c hc hcn i ps t hl (AT_mem _ _ (Nat.le_refl _) _ _ _ ha)]
  exact htg (N t) b ⟨c, hc, i, ps, t, hl, ha, rfl⟩
section CNL
variable {S S' : im_S}
theorem nd_lk (hA : ∀ a k : Nat, a ≠ 5 → a ≠ 11 → a ≠ 13 → S'.1 a k = S.1 a k) (hB : S'.2.1 = S.2.1) {c t : Nat} {v : Int64} {j R : Nat} (h : nd pl S N c t v j R) : nd pl S' N c t v j R := by
  obtain ⟨h1, h2, h3, h4, h5, h6⟩ := h
  exact ⟨h1, by rw [hA 7 _ (by omega) (by omega) (by omega)]; exact h2, by rw [hA 8 _ (by omega) (by omega) (by omega)]; exact h3, by rw [hB]; exact h4, by rw [hA 17 _ (by omega) (by omega) (by omega), hA 27 _ (by omega) (by omega) (by omega)]; exact h5, by rw [hA 19 _ (by omega) (by omega) (by omega)]; exact h6⟩
theorem rl_lk (hA : ∀ a k : Nat, a ≠ 5 → a ≠ 11 → a ≠ 13 → S'.1 a k = S.1 a k) {c p : Nat} {r : Int32} (h : rl S N c r p) : rl S' N c r p := ⟨h.1, by rw [hA 9 _ (by omega) (by omega) (by omega)]; exact h.2.1, by rw [hA 10 _ (by omega) (by omega) (by omega)]; exact h.2.2⟩
theorem vr_lk (hA : ∀ a k : Nat, a ≠ 5 → a ≠ 11 → a ≠ 13 → S'.1 a k = S.1 a k) (hB : S'.2.1 = S.2.1) {p : Nat} (h : vr V S N p) : vr V S' N p := ⟨h.1, by rw [hA 7 _ (by omega) (by omega) (by omega)]; exact h.2.1, by rw [hA 8 _ (by omega) (by omega) (by omega)]; exact h.2.2.1, by rw [hB]; exact h.2.2.2⟩
theorem dpt_lk (hA : ∀ a k : Nat, a ≠ 5 → a ≠ 11 → a ≠ 13 → S'.1 a k = S.1 a k) {R t : Nat} (h : dpt S R t) : dpt S' R t := by
  obtain ⟨T, d, h1, h2, h3, h4⟩ := h
  exact ⟨T, d, h1, by rw [hA 27 _ (by omega) (by omega) (by omega)]; exact h2, by rw [hA 29 _ (by omega) (by omega) (by omega)]; exact h3, by rw [hA 29 _ (by omega) (by omega) (by omega)]; exact h4⟩
theorem Seg_lk (hA : ∀ a k : Nat, a ≠ 5 → a ≠ 11 → a ≠ 13 → S'.1 a k = S.1 a k) {R : Nat} {l : List Nat} {w : Int32} (h : Seg S N (S.1 26 R) l w) : Seg S' N (S'.1 26 R) l w := by
  rw [hA 26 _ (by omega) (by omega) (by omega)]
  exact Seg_cp l _ _ (fun i _ _ => ⟨rfl, rfl, hA 16 _ (by omega) (by omega) (by omega)⟩) h
theorem GA_lk (hA : ∀ a k : Nat, a ≠ 5 → a ≠ 11 → a ≠ 13 → S'.1 a k = S.1 a k) {j : Nat} : ∀ (s : Nat) (x : TR), tsz x ≤ s → GA S N j x → GA S' N j x := by
  intro s
  induction s with
  | zero => intro x hs; cases x <;> simp [tsz] at hs
  | succ s ih =>
    intro x hs h
    unfold GA at h ⊢
    split at h
    · exact ⟨rl_lk hA h.1, by rw [hA 14 _ (by omega) (by omega) (by omega)]; exact h.2.1, ih _ (by simp only [tsz] at hs; omega) h.2.2⟩
    · trivial
/-- what linking left: no call argument -/
def NoA (S S' : im_S) : Prop := ∀ k : Nat, ¬ (S.1 9 k = 5 ∧ S.1 7 ((S.1 10 k).toNatClampNeg) = 8) → S'.1 11 k = S.1 11 k
theorem GN_lk (hA : ∀ a k : Nat, a ≠ 5 → a ≠ 11 → a ≠ 13 → S'.1 a k = S.1 a k) (h11 : NoA S S') {j : Nat} {l : List Nat} : ∀ (s : Nat) (x : TR), tsz x ≤ s → GN V S N j l x → GN V S' N j l x := by
  intro s
  induction s with
  | zero => intro x hs; cases x <;> simp [tsz] at hs
  | succ s ih =>
    intro x hs h
    unfold GN at h ⊢
    split at h
    · obtain ⟨⟨b, b1, b2⟩, h2, h3⟩ := h
      refine ⟨⟨b, b1, ?_⟩, rl_lk hA h2, ih _ (by simp only [tsz] at hs; omega) h3⟩
      rw [h11 _ (fun z => by rw [h2.2.1] at z; exact absurd z.1 (by decide))]
      exact b2
    · trivial
theorem GF_lk (hA : ∀ a k : Nat, a ≠ 5 → a ≠ 11 → a ≠ 13 → S'.1 a k = S.1 a k) (hB : S'.2.1 = S.2.1) (h13 : ∀ k : Nat, S.1 7 k ≠ 8 → S'.1 13 k = S.1 13 k) (h11 : NoA S S') {j R : Nat} {o : TR} (hj : N j < 2 ^ 31) (h9 : S.1 7 (N j) = nI 9) : ∀ (s : Nat) (x : TR), tsz x ≤ s → GF V S N L j R o x → GF V S' N L j R o x := by
  intro s
  induction s with
  | zero => intro x hs; cases x <;> simp [tsz] at hs
  | succ s ih =>
    intro x hs h
    unfold GF at h ⊢
    split at h
    · rename_i p x' r
      obtain ⟨⟨g1, g2, g3, g4, g5, g6, g7, g8⟩, h2⟩ := h
      have z : ∀ {a : Nat} (k : Nat), a ≠ 5 ∧ a ≠ 11 ∧ a ≠ 13 → S'.1 a k = S.1 a k := fun k q => hA _ k q.1 q.2.1 q.2.2
      have e13 : S'.1 13 (N p) = S.1 13 (N p) := h13 _ (fun q => by rw [g1.2.1] at q; exact absurd q (by decide))
      have e11 : S'.1 11 (N (rtk x')) = S.1 11 (N (rtk x')) := h11 _ (fun q => by
        have q2 := q.2
        rw [g6, nI_clamp hj, h9] at q2
        exact absurd q2 (by decide))
      refine ⟨⟨vr_lk hA hB g1, g2, by rw [z _ (by omega)]; exact g3, by rw [z _ (by omega)]; exact g4, by rw [z _ (by omega)]; exact g5, by rw [z _ (by omega)]; exact g6, by rw [e11]; exact g7, ?_⟩, ih _ (by simp only [tsz] at hs; omega) h2⟩
      rw [e13, z (a := 9) _ (by omega), z (a := 17) _ (by omega), z (a := 27) _ (by omega)]
      exact g8
    · trivial
theorem CN_lk (hA : ∀ a k : Nat, a ≠ 5 → a ≠ 11 → a ≠ 13 → S'.1 a k = S.1 a k) (hB : S'.2.1 = S.2.1) (h13 : ∀ k : Nat, S.1 7 k ≠ 8 → S'.1 13 k = S.1 13 k) (h11 : NoA S S') {x : TR} {γ : List Nat} {R : Nat} (hj : N (otk x) < 2 ^ 31) (h : CN K pl V S N M L x γ R) : CN K pl V S' N M L x γ R := by
  have z : ∀ {a : Nat} (k : Nat), a ≠ 5 ∧ a ≠ 11 ∧ a ≠ 13 → S'.1 a k = S.1 a k := fun k q => hA _ k q.1 q.2.1 q.2.2
  unfold CN at h ⊢
  split at h
  · exact nd_lk hA hB h
  · exact nd_lk hA hB h
  · obtain ⟨h1, b, b1, b2⟩ := h
    exact ⟨nd_lk hA hB h1, b, b1, by rw [z _ (by omega)]; exact b2⟩
  · obtain ⟨h1, h2, h3⟩ := h
    exact ⟨nd_lk hA hB h1, by rw [z _ (by omega)]; exact h2, GA_lk hA _ _ (Nat.le_refl _) h3⟩
  · obtain ⟨h1, h2, h3, h4, h5, h6, h7⟩ := h
    exact ⟨nd_lk hA hB h1, vr_lk hA hB h2, by rw [z (a := 17) _ (by omega), z (a := 27) _ (by omega)]; exact h3, by rw [z _ (by omega)]; exact h4, rl_lk hA h5, by rw [h11 _ (fun q => by rw [h5.2.1] at q; exact absurd q.1 (by decide))]; exact h6, rl_lk hA h7⟩
  · obtain ⟨h1, h2, h3, h4, h5, h6, h7, h8, h9, h10, h11'⟩ := h
    exact ⟨nd_lk hA hB h1, by rw [z _ (by omega)]; exact h2, rl_lk hA h3, h4, by rw [z _ (by omega)]; exact h5, by rw [z (a := 27) _ (by omega), z (a := 27) _ (by omega)]; exact h6, by rw [z (a := 27) _ (by omega), z (a := 27) _ (by omega)]; exact h7, rl_lk hA h8, rl_lk hA h9, Seg_lk hA h10, Seg_lk hA h11'⟩
  · obtain ⟨h1, h2, h3, h4, h5, h6, h7, h8, h9, h10, h12, h14, h15, h16, h17, h18, h19⟩ := h
    have hk := h1.2.1
    exact ⟨nd_lk hA hB h1, by rw [z _ (by omega)]; exact h2, by rw [h13 _ (fun q => by rw [hk] at q; exact absurd q (by decide))]; exact h3, rl_lk hA h4, rl_lk hA h5, h6, h7, by rw [z _ (by omega)]; exact h8, by rw [z _ (by omega)]; exact h9, by rw [z _ (by omega)]; exact h10, by rw [z _ (by omega)]; exact h12, dpt_lk hA h14, Seg_lk hA h15, Seg_lk hA h16, Seg_lk hA h17, GF_lk hA hB h13 h11 hj hk _ _ (Nat.le_refl _) h18, GN_lk hA h11 _ _ (Nat.le_refl _) h19⟩
  · obtain ⟨h1, h2, h3⟩ := h
    exact ⟨nd_lk hA hB h1, by rw [z _ (by omega)]; exact h2, rl_lk hA h3⟩
  · obtain ⟨h1, h2, h3, h4, h5⟩ := h
    exact ⟨nd_lk hA hB h1, by rw [z _ (by omega)]; exact h2, by rw [h13 _ (fun q => by rw [h1.2.1] at q; exact absurd q (by decide))]; exact h3, rl_lk hA h4, rl_lk hA h5⟩
  · obtain ⟨h1, h2, h3, h4, h5⟩ := h
    exact ⟨nd_lk hA hB h1, by rw [z _ (by omega)]; exact h2, by rw [h13 _ (fun q => by rw [h1.2.1] at q; exact absurd q (by decide))]; exact h3, rl_lk hA h4, rl_lk hA h5⟩
  · obtain ⟨h1, h2, h3, h4, h5, h6, h7, h8, h9, h10, h12, h14, h15, h16, h17, h18, h19⟩ := h
    exact ⟨nd_lk hA hB h1, by rw [z _ (by omega)]; exact h2, rl_lk hA h3, by rw [h13 _ (fun q => by rw [h1.2.1] at q; exact absurd q (by decide))]; exact h4, vr_lk hA hB h5, vr_lk hA hB h6, by rw [z _ (by omega)]; exact h7, by rw [z _ (by omega)]; exact h8, h9, h10, by rw [z _ (by omega)]; exact h12, by rw [z _ (by omega)]; exact h14, dpt_lk hA h15, by rw [z _ (by omega)]; exact h16, by rw [z _ (by omega)]; exact h17, rl_lk hA h18, Seg_lk hA h19⟩
  · trivial
  · exact h.elim
end CNL
end CLK
