/-! the class's parser: give; what becomes of the first values -/
/-- the tokens of a list of bindings -/
def LW (K : Nat → Nat) : TR → Nat → Nat → Prop
  | .append (.tag j x) r, p, e => j = p ∧ K p = 1 ∧ ∃ b, Wt K x (p + 2) b 0 ∧ ((r = .nil ∧ e = b) ∨ LW K r (b + 1) e)
  | _, _, _ => False
theorem pB_LW {K : Nat → Nat} {R : Nat → PR} (hR : WR K R) : ∀ (q most n p e : Nat) (f : TR), pB K R q most n p = (e, some f) → LW K f p e := by
  intro q
  induction q with
  | zero => intro most n p e f h; cases h
  | succ q ih =>
    intro most n p e f h
    rw [pB] at h
    by_cases h0 : n = most
    · rw [if_pos h0] at h; cases h
    rw [if_neg h0] at h
    obtain ⟨h1, h⟩ := pw_inv h
    obtain ⟨h2, h⟩ := pw_inv h
    obtain ⟨b, x, hx, h⟩ := pbd_inv h
    have wx := (hR _ _ _ hx).1
    by_cases h44 : K b = 44
    · rw [if_pos h44] at h
      obtain ⟨e2, r, hr, h⟩ := pbd_inv h
      cases h
      exact ⟨rfl, h1, b, wx, Or.inr (ih _ _ _ _ _ hr)⟩
    · rw [if_neg h44] at h
      cases h
      exact ⟨rfl, h1, e, wx, Or.inl ⟨rfl, rfl⟩⟩
theorem LW_ind {K : Nat → Nat} {P : TR → Nat → Nat → Prop} (h1 : ∀ p x b, Wt K x (p + 2) b 0 → P (.append (.tag p x) .nil) p b) (h2 : ∀ p x r b e, Wt K x (p + 2) b 0 → LW K r (b + 1) e → P r (b + 1) e → P (.append (.tag p x) r) p e) : ∀ (s : Nat) (f : TR) (p e : Nat), tsz f ≤ s → LW K f p e → P f p e := by
  intro s
  induction s with
  | zero => intro f p e hs; cases f <;> simp [tsz] at hs
  | succ s ih =>
    intro f p e hs w
    unfold LW at w
    split at w
    · obtain ⟨rfl, -, b, wx, h⟩ := w
      rcases h with ⟨rfl, rfl⟩ | h
      · exact h1 _ _ _ wx
      · exact h2 _ _ _ _ _ wx h (ih _ _ _ (by simp only [tsz] at hs; omega) h)
    · exact w.elim
theorem LW_lt {K : Nat → Nat} {f : TR} {p e : Nat} (w : LW K f p e) : p < e ∧ p + (tks f).length ≤ e ∧ ∀ b, b ∈ tks f → p ≤ b ∧ b < e := by
  refine LW_ind (K := K) (P := fun f p e => p < e ∧ p + (tks f).length ≤ e ∧ ∀ b, b ∈ tks f → p ≤ b ∧ b < e) (fun p x b wx => ?_) (fun p x r b e wx wr ih => ?_) (tsz f) f p e (Nat.le_refl _) w
  · have := Wt_lt wx
    refine ⟨by omega, ?_, fun c hc => ?_⟩
    · show p + 1 ≤ b; omega
    · have hc : c ∈ [p] := hc
      rw [List.mem_singleton] at hc
      omega
  · have := Wt_lt wx
    refine ⟨by omega, ?_, fun c hc => ?_⟩
    · show p + ((tks r).length + 1) ≤ e; omega
    · have hc : c ∈ p :: tks r := hc
      rcases List.mem_cons.mp hc with z | z
      · omega
      · have := ih.2.2 c z; omega
/-- without a fault, the names of a loop differ -/
theorem pfc_nd {K pl : Nat → Nat} {V : Nat → Int64} {γ : List Nat} {m : Nat} (hpl : ∀ j, j ≤ m → pl j ≤ 500) {f : TR} {p e : Nat} (w : LW K f p e) : e ≤ m → ∀ pre : List Nat, 4000 ≤ pfc K pl V f γ 102 pre [] → (∀ b, b ∈ tks f → ∀ c, c ∈ tks f → V b = V c → b = c) ∧ (∀ b, b ∈ tks f → ∀ c, c ∈ pre → V b ≠ V c) := by
  refine LW_ind (K := K) (P := fun f p e => e ≤ m → ∀ pre : List Nat, 4000 ≤ pfc K pl V f γ 102 pre [] → (∀ b, b ∈ tks f → ∀ c, c ∈ tks f → V b = V c → b = c) ∧ (∀ b, b ∈ tks f → ∀ c, c ∈ pre → V b ≠ V c)) (fun p x b wx => ?_) (fun p x r b e wx wr ih => ?_) (tsz f) f p e (Nat.le_refl _) w
  · intro hm pre hz
    have := Wt_lt wx
    have hplp := hpl p (by omega)
    have hz : 4000 ≤ min (fdup pl V pre γ p) (min (pfc K pl V x γ 0 [] []) (min (ckX K pl V x (tvV (V p))) 4000)) := hz
    simp only [Nat.le_min] at hz
    have hz1 := hz.1
    unfold fdup at hz1
    have hno : ¬ ((fnd V pre p).isSome ∨ (fnd V γ p).isSome) := fun q => by rw [if_pos q] at hz1; omega
    refine ⟨fun b hb c hc _ => ?_, fun b hb c hc hv => ?_⟩
    · have hb : b ∈ [p] := hb
      have hc : c ∈ [p] := hc
      rw [List.mem_singleton] at hb hc
      omega
    · have hb : b ∈ [p] := hb
      rw [List.mem_singleton] at hb
      exact hno (Or.inl ((fnd_some_iff pre p).mpr ⟨c, hc, by rw [← hb]; exact hv.symm⟩))
  · intro hm pre hz
    have := Wt_lt wx
    have := (LW_lt wr).1
    have hplp := hpl p (by omega)
    rw [pfc_fi] at hz
    simp only [Nat.le_min] at hz
    obtain ⟨hz1, -, -, hz2⟩ := hz
    unfold fdup at hz1
    have hno : ¬ ((fnd V pre p).isSome ∨ (fnd V γ p).isSome) := fun q => by rw [if_pos q] at hz1; omega
    obtain ⟨i1, i2⟩ := ih hm (p :: pre) hz2
    refine ⟨fun b hb c hc hv => ?_, fun b hb c hc hv => ?_⟩
    · have hb : b ∈ p :: tks r := hb
      have hc : c ∈ p :: tks r := hc
      rcases List.mem_cons.mp hb with z | z
      · rcases List.mem_cons.mp hc with y | y
        · omega
        · rw [z] at hv; exact absurd hv.symm (i2 c y p (List.mem_cons_self ..))
      · rcases List.mem_cons.mp hc with y | y
        · rw [y] at hv; exact absurd hv (i2 b z p (List.mem_cons_self ..))
        · exact i1 b z c y hv
    · have hb : b ∈ p :: tks r := hb
      rcases List.mem_cons.mp hb with z | z
      · exact hno (Or.inl ((fnd_some_iff pre p).mpr ⟨c, hc, by rw [← z]; exact hv.symm⟩))
      · exact i2 b z c (List.mem_cons_of_mem _ hc) hv
theorem Seg_cp {S S' : im_S} {N N' : Nat → Nat} : ∀ (l : List Nat) (w f : Int32), (∀ i, i ∈ l → N i < N (i + 1) → N' i = N i ∧ N' (i + 1) = N (i + 1) ∧ S'.1 16 (N i) = S.1 16 (N i)) → Seg S N w l f → Seg S' N' w l f := by
  intro l
  induction l with
  | nil => intro w f _ h; exact h
  | cons i l ih =>
    intro w f hi h
    obtain ⟨h1, h2, h3⟩ := hi i (List.mem_cons_self ..) h.2.1
    refine ⟨by rw [h1]; exact h.1, by rw [h1, h2]; exact h.2.1, ?_⟩
    rw [h1, h3]
    exact ih _ f (fun j hj => hi j (List.mem_cons_of_mem _ hj)) h.2.2
section CGV
variable {K pl : Nat → Nat} {V : Nat → Int64} {m fu : Nat} {S S' : im_S} {N M L N' M' L' : Nat → Nat} {R c : Nat} {γ : List Nat}
/-- the roots of a loop's first values lie in their tokens' nodes -/
theorem G_rt {f : TR} {p e : Nat} (w : LW K f p e) : ∀ e0, e ≤ e0 → Mn N M L e0 → G K pl V S N M L f γ R 102 c .nil [] → ∀ b, b ∈ tks f → ∃ k : Nat, S.1 12 (N b) = nI k ∧ N p ≤ k ∧ k < N e := by
  refine LW_ind (K := K) (P := fun f p e => ∀ e0, e ≤ e0 → Mn N M L e0 → G K pl V S N M L f γ R 102 c .nil [] → ∀ b, b ∈ tks f → ∃ k : Nat, S.1 12 (N b) = nI k ∧ N p ≤ k ∧ k < N e) (fun p x b wx => ?_) (fun p x r b e wx wr ih => ?_) (tsz f) f p e (Nat.le_refl _) w
  · intro e0 he hM g d hd
    have hd : d ∈ [p] := hd
    rw [List.mem_singleton] at hd
    rw [G_fi] at g
    have h1 := Wt_rt wx
    have m1 := (hM p (rtk x) (by omega) (by omega)).1
    have m2 := (hM (rtk x + 1) b (by omega) (by omega)).1
    have m3 := g.2.1
    exact ⟨N (rtk x), by rw [hd]; exact g.2.2.2.1, m1, by omega⟩
  · intro e0 he hM g d hd
    have hd : d ∈ p :: tks r := hd
    rw [G_fi] at g
    have h1 := Wt_rt wx
    have h2 := (LW_lt wr).1
    rcases List.mem_cons.mp hd with z | z
    · have m1 := (hM p (rtk x) (by omega) (by omega)).1
      have m2 := (hM (rtk x + 1) e (by omega) (by omega)).1
      have m3 := g.2.1
      exact ⟨N (rtk x), by rw [z]; exact g.2.2.2.1, m1, by omega⟩
    · obtain ⟨k, k1, k2, k3⟩ := ih e0 he hM g.2.2.2.2.2.2.2.2.2 d z
      have m1 := (hM p (b + 1) (by omega) (by omega)).1
      exact ⟨k, k1, by omega, k3⟩
/-- the first values, once next and give are read -/
theorem G_fs {o : TR} {l : List Nat} {kv : Nat → Nat} {Bd : Nat → Prop} {e0 : Nat} (hM : Mn N M L e0) (hA : Ag N M L N' M' L' e0)
    (h1 : ∀ a k : Nat, 7 ≤ a → a ≤ 20 → N c ≤ k → k < N e0 → k ≠ N c → (¬ ∃ b, b ∈ l ∧ Bd b ∧ ((k = N b ∧ (a = 13 ∨ a = 17 ∨ a = 18)) ∨ (a = 9 ∧ k = kv b))) → S'.1 a k = S.1 a k) (h2 : ∀ k : Nat, N c ≤ k → k < N e0 → S'.2.1 21 k = S.2.1 21 k) (h3 : ∀ r : Nat, r < M e0 → S'.1 27 r = S.1 27 r ∧ (M (c + 1) ≤ r → S'.1 26 r = S.1 26 r)) (h4 : ∀ t : Nat, t < L e0 → S'.1 29 t = S.1 29 t) (h5 : ∀ b, b ∈ l → S.1 12 (N b) = nI (kv b) ∧ kv b < 512) (h6 : ∀ b, b ∈ l → Bd b → S'.1 13 (N b) = nI (N' c) ∧ S'.1 9 (kv b) = 5 ∧ S'.1 17 (N b) = nI (L' c)) (h7 : ∀ b, b ∈ l → ((fnd V (tks o) b).isSome = true ↔ Bd b)) (hγ : ∀ b, b ∈ γ → b < c + 1) (hR : R < M (c + 1)) (hNe : N e0 ≤ 512) (hcc : N c < N (c + 1)) {f : TR} {p e : Nat} (w : LW K f p e) : ∀ l1 : List Nat, l = l1 ++ tks f → c < p → e ≤ e0 → (∀ b, b ∈ l1 → c < b ∧ b < p ∧ N b < N (b + 1) ∧ kv b < N p) → G K pl V S N M L f γ R 102 c .nil [] → G K pl V S' N' M' L' f γ R 102 c o [] := by
  have r0 : ∀ a k : Nat, 7 ≤ a → a ≤ 20 → a ≠ 9 → a ≠ 13 → a ≠ 17 → a ≠ 18 → N c < k → k < N e0 → S'.1 a k = S.1 a k := fun a k u1 u2 u3 u4 u5 u6 u7 u8 => h1 a k u1 u2 (by omega) u8 (by omega) (fun ⟨b, _, _, hb⟩ => by omega)
  have main : ∀ (p b : Nat) (x r : TR) (l1 : List Nat), Wt K x (p + 2) b 0 → l = l1 ++ (p :: tks r) → c < p → b ≤ e0 → (∀ d, d ∈ l1 → c < d ∧ d < p ∧ N d < N (d + 1) ∧ kv d < N p) → (∀ d, d ∈ tks r → N b ≤ N d ∧ N b ≤ kv d) → hdV N' r = hdV N r → G K pl V S N M L (.append (.tag p x) r) γ R 102 c .nil [] → (vr V S' N' p ∧ N' (rtk x) < N' (rtk x + 1) ∧ S'.1 10 (N' p) = nI (N' c) ∧ S'.1 12 (N' p) = nI (N' (rtk x)) ∧ S'.1 14 (N' p) = hdV N' r ∧ S'.1 10 (N' (rtk x)) = nI (N' c) ∧ S'.1 11 (N' (rtk x)) = nI (N' p) ∧ (if (fnd V (tks o) p).isSome then S'.1 13 (N' p) = nI (N' c) ∧ S'.1 9 (N' (rtk x)) = 5 ∧ S'.1 17 (N' p) = nI (L' c) else S'.1 13 (N' p) = -1 ∧ S'.1 9 (N' (rtk x)) = 4 ∧ S'.1 17 (N' p) = S'.1 27 R) ∧ G K pl V S' N' M' L' x γ R 0 0 .nil []) ∧ kv p < N b ∧ N p < N (p + 1) := by
    intro p b x r l1 wx hl hcp hb hl1 hlr hhd g
    rw [G_fi] at g
    obtain ⟨⟨g1, g2, g3, g4⟩, g5, g6, g7, g8, g9, g10, g11, g12, -⟩ := g
    have g11 : S.1 13 (N p) = -1 ∧ S.1 9 (N (rtk x)) = 4 ∧ S.1 17 (N p) = S.1 27 R := g11
    have hxr := Wt_rt wx
    have hxl := Wt_lt wx
    have m1 := hM (p + 1) (p + 2) (by omega) (by omega)
    have m2 := hM (p + 2) (rtk x) (by omega) (by omega)
    have m3 := hM (rtk x + 1) b (by omega) (by omega)
    have m4 := hM b e0 (by omega) (Nat.le_refl _)
    have m5 := hM (c + 1) p (by omega) (by omega)
    have m6 := hM p (p + 1) (by omega) (by omega)
    have m7 := hM (c + 1) e0 (by omega) (Nat.le_refl _)
    have hAr := (hA (rtk x) (by omega)).1
    have hAr1 := (hA (rtk x + 1) (by omega)).1
    have hAp := (hA p (by omega)).1
    have hAp1 := (hA (p + 1) (by omega)).1
    have hAc := (hA c (by omega)).1
    have hpl : p ∈ l := by rw [hl]; exact List.mem_append_right _ (List.mem_cons_self ..)
    have hkp : kv p = N (rtk x) := by
      obtain ⟨q1, q2⟩ := h5 p hpl
      rw [q1] at g7
      exact (nI_eq (by omega) (by omega)).mp g7
    -- the others' places
    have oth : ∀ d, d ∈ l → d ≠ p → (N d < N p ∧ kv d < N p) ∨ (N b ≤ N d ∧ N b ≤ kv d) := by
      intro d hd hne
      rw [hl] at hd
      rcases List.mem_append.mp hd with z | z
      · obtain ⟨y1, y2, y3, y4⟩ := hl1 d z
        have := (hM (d + 1) p (by omega) (by omega)).1
        exact Or.inl ⟨by omega, y4⟩
      · rcases List.mem_cons.mp z with y | y
        · exact absurd y hne
        · exact Or.inr (hlr d y)
    have Fx : Fw S S' (N (p + 2)) (N b) (M (p + 2)) (M b) (L b) (N (rtk x)) := by
      refine ⟨fun a k u1 u2 u3 u4 u5 => h1 a k u1 u2 (by omega) (by omega) (by omega) (fun ⟨d, hd, _, hdd⟩ => ?_), fun k u3 u4 => h2 k (by omega) (by omega), fun r hr => ⟨(h3 r (by omega)).1, fun hr2 => (h3 r (by omega)).2 (by omega)⟩, fun t ht => h4 t (by omega)⟩
      by_cases hdp : d = p
      · subst hdp; omega
      · have := oth d hd hdp; omega
    have hB := Sb_Fw Fx
    have hMb : Mn N M L b := fun i j q1 q2 => hM i j q1 (by omega)
    have hAb : Ag N M L N' M' L' b := fun j hj => hA j (by omega)
    refine ⟨⟨⟨by omega, ?_, ?_, ?_⟩, by omega, ?_, ?_, ?_, ?_, ?_, ?_, G_st wx hMb hAb hB (Or.inr (Or.inr rfl)) (fun d hd => by have := hγ d hd; omega) (by omega) (by omega) g12⟩, by omega, g1⟩
    · rw [hAp, r0 7 (N p) (by omega) (by omega) (by omega) (by omega) (by omega) (by omega) (by omega) (by omega)]; exact g2
    · rw [hAp, r0 8 (N p) (by omega) (by omega) (by omega) (by omega) (by omega) (by omega) (by omega) (by omega)]; exact g3
    · rw [hAp, h2 (N p) (by omega) (by omega)]; exact g4
    · rw [hAp, hAc, r0 10 (N p) (by omega) (by omega) (by omega) (by omega) (by omega) (by omega) (by omega) (by omega)]; exact g6
    · rw [hAp, hAr, r0 12 (N p) (by omega) (by omega) (by omega) (by omega) (by omega) (by omega) (by omega) (by omega)]; exact g7
    · rw [hAp, hhd, r0 14 (N p) (by omega) (by omega) (by omega) (by omega) (by omega) (by omega) (by omega) (by omega)]; exact g8
    · rw [hAr, hAc, r0 10 (N (rtk x)) (by omega) (by omega) (by omega) (by omega) (by omega) (by omega) (by omega) (by omega)]; exact g9
    · rw [hAr, hAp, r0 11 (N (rtk x)) (by omega) (by omega) (by omega) (by omega) (by omega) (by omega) (by omega) (by omega)]; exact g10
    · by_cases hbd : Bd p
      · rw [if_pos ((h7 p hpl).mpr hbd), hAp, hAr]
        obtain ⟨y1, y2, y3⟩ := h6 p hpl hbd
        rw [hkp] at y2
        exact ⟨y1, y2, y3⟩
      · rw [if_neg (fun z => hbd ((h7 p hpl).mp z)), hAp, hAr, (h3 R (by omega)).1]
        refine ⟨?_, ?_, ?_⟩
        · rw [h1 13 (N p) (by omega) (by omega) (by omega) (by omega) (by omega) (fun ⟨d, hd, hbd', hdd⟩ => ?_)]
          · exact g11.1
          · by_cases hdp : d = p
            · exact hbd (hdp ▸ hbd')
            · have := oth d hd hdp; omega
        · rw [h1 9 (N (rtk x)) (by omega) (by omega) (by omega) (by omega) (by omega) (fun ⟨d, hd, hbd', hdd⟩ => ?_)]
          · exact g11.2.1
          · by_cases hdp : d = p
            · exact hbd (hdp ▸ hbd')
            · have := oth d hd hdp; omega
        · rw [h1 17 (N p) (by omega) (by omega) (by omega) (by omega) (by omega) (fun ⟨d, hd, hbd', hdd⟩ => ?_)]
          · exact g11.2.2
          · by_cases hdp : d = p
            · exact hbd (hdp ▸ hbd')
            · have := oth d hd hdp; omega
  refine LW_ind (K := K) (P := fun f p e => ∀ l1 : List Nat, l = l1 ++ tks f → c < p → e ≤ e0 → (∀ b, b ∈ l1 → c < b ∧ b < p ∧ N b < N (b + 1) ∧ kv b < N p) → G K pl V S N M L f γ R 102 c .nil [] → G K pl V S' N' M' L' f γ R 102 c o []) (fun p x b wx => ?_) (fun p x r b e wx wr ih => ?_) (tsz f) f p e (Nat.le_refl _) w
  · intro l1 hl hcp hb hl1 g
    obtain ⟨⟨z1, z2, z3, z4, z5, z6, z7, z8, z9⟩, -⟩ := main p b x .nil l1 wx hl hcp hb hl1 (fun d hd => absurd hd List.not_mem_nil) rfl g
    rw [G_fi]
    exact ⟨z1, z2, z3, z4, z5, z6, z7, z8, z9, trivial⟩
  · intro l1 hl hcp he hl1 g
    have hl' : l = l1 ++ (p :: tks r) := hl
    have gr : G K pl V S N M L r γ R 102 c .nil [] := by rw [G_fi] at g; exact g.2.2.2.2.2.2.2.2.2
    have hwr := LW_lt wr
    have hxl := Wt_lt wx
    have mb := hM b (b + 1) (by omega) (by omega)
    have hhd : hdV N' r = hdV N r := by
      unfold LW at wr
      split at wr
      · rename_i j y r'
        show nI (N' j) = nI (N j)
        rw [(hA j (by omega)).1]
      · exact wr.elim
    obtain ⟨⟨z1, z2, z3, z4, z5, z6, z7, z8, z9⟩, z10, z11⟩ := main p b x r l1 wx hl' hcp (by omega) hl1 (fun d hd => by
      have hd2 := hwr.2.2 d hd
      have m2 := hM (b + 1) d (by omega) (by omega)
      refine ⟨by omega, ?_⟩
      obtain ⟨k, k1, k2, k3⟩ := G_rt wr e0 he hM gr d hd
      have hd3 : d ∈ l := by rw [hl']; exact List.mem_append_right _ (List.mem_cons_of_mem _ hd)
      obtain ⟨q1, q2⟩ := h5 d hd3
      have m3 := (hM e e0 he (Nat.le_refl _)).1
      rw [q1] at k1
      have : kv d = k := (nI_eq (by omega) (by omega)).mp k1
      omega) hhd g
    rw [G_fi]
    refine ⟨z1, z2, z3, z4, z5, z6, z7, z8, z9, ih (l1 ++ [p]) (by rw [hl', List.append_assoc]; rfl) (by omega) he (fun d hd => ?_) gr⟩
    rcases List.mem_append.mp hd with z | z
    · obtain ⟨y1, y2, y3, y4⟩ := hl1 d z
      have m1 := (hM p (b + 1) (by omega) (by omega)).1
      exact ⟨y1, by omega, y3, by omega⟩
    · rw [List.mem_singleton] at z
      subst z
      exact ⟨hcp, by omega, z11, by omega⟩
/-- openGivePart: the bound names move -/
theorem c_gvL {sz n ρ τ f dep pos : Nat} {S0 : im_S} {n0 ρ0 τ0 sz0 kn0 R0 : Nat} (T : TH K pl V m) (nl ρl τl : Nat) (kv : Nat → Nat) (hnl : nl < 512) (hτl : τl < τ) : ∀ (l : List Nat) (nf i B : Nat) (w : Int32) (S1 : im_S), Cz K pl V m S0 n0 ρ0 τ0 sz0 kn0 R0 S1 N M L pos dep sz γ n ρ τ B f → B + l.length < 2 ^ 30 → Chn S1 w (l.map N) → i + l.length ≤ 4 → l.length < nf → (∀ b, b ∈ l → n0 ≤ N b ∧ N b < n ∧ S1.1 7 (N b) = 3 ∧ S1.1 12 (N b) = nI (kv b) ∧ n0 ≤ kv b ∧ kv b < n) → S1.1 3 10 = nI nl → S1.1 15 nl = nI ρl → ∃ S2 : im_S, f_X7_openGivePart_L39 fu nf (nI τl) w (nI i) S1 = some (1, uI (psS S2 sz 22 (nI nl) (nI (ρl + 2))) 3 7 0) ∧ Cz K pl V m S0 n0 ρ0 τ0 sz0 kn0 R0 S2 N M L pos dep sz γ n ρ τ (B + l.length) f ∧ (∀ a j : Nat, a ≠ 28 → (¬ ∃ b, b ∈ l ∧ S1.1 13 (N b) ≠ -1 ∧ ((j = N b ∧ (a = 17 ∨ a = 18)) ∨ (a = 9 ∧ j = kv b))) → S2.1 a j = S1.1 a j) ∧ S2.2.1 = S1.2.1 ∧ (∀ b, b ∈ l → S1.1 13 (N b) ≠ -1 → S2.1 17 (N b) = nI τl ∧ S2.1 9 (kv b) = 5) := by
  intro l
  induction l with
  | nil =>
    intro nf i B w S1 C1 hB hw hi hnf _ h10 h15
    have hm := T.m_
    have hbd := C1.1.bd
    have hpm := C1.1.pm
    have hw : w = -1 := hw
    have hi : i + 0 ≤ 4 := hi
    obtain ⟨nf, rfl⟩ : ∃ z, nf = z + 1 := ⟨nf - 1, by omega⟩
    refine ⟨S1, ?_, C1, fun _ _ _ _ => rfl, rfl, fun b hb => absurd hb List.not_mem_nil⟩
    have e : ((f_X6_push 22 (S1.1 3 10) (((S1.1 15) ((S1.1 3 10).toNatClampNeg)) + 2) S1).bind (fun qS2 => some ((1 : Int32), (uI qS2.2 3 7 0)))) = some (1, uI (psS S1 sz 22 (nI nl) (nI (ρl + 2))) 3 7 0) := by
      rw [h10, nI_clamp (show nl < 2 ^ 31 by omega), h15, show nI ρl + 2 = nI (ρl + 2) from nI_add ρl 2, c_push C1.1.sz_ (by omega)]
      rfl
    have g : in_b (S1.1 3 10) 512 = true := by rw [h10]; exact mI_in (by omega) hnl
    rw [f_X7_openGivePart_L39, g]
    simp only [gd_t]
    by_cases c4 : (4 : Int32) ≤ nI i
    · rw [if_pos c4]; exact e
    · rw [if_neg c4, if_pos hw]; exact e
  | cons b l ih =>
    intro nf i B w S1 C1 hB hw hi hnf hb h10 h15
    have hB : B + (l.length + 1) < 2 ^ 30 := hB
    have hm := T.m_
    have hbd := C1.1.bd
    have hpm := C1.1.pm
    have hi : i + (l.length + 1) ≤ 4 := hi
    have hnf : l.length + 1 < nf := hnf
    obtain ⟨nf, rfl⟩ : ∃ z, nf = z + 1 := ⟨nf - 1, by omega⟩
    obtain ⟨w1, w2, w3⟩ := hw
    obtain ⟨b1, b2, b3, b4, b5, b6⟩ := hb b (List.mem_cons_self ..)
    have c4 : ¬ (4 : Int32) ≤ nI i := fun z => by have := (mI_le (a := 4) (b := i) (by omega) (by omega)).mp z; omega
    rw [f_X7_openGivePart_L39, if_neg c4, w1, if_neg (nI_m1' w2), mI_in (a := N b) (n := 512) (by omega) w2, nI_clamp (show N b < 2 ^ 31 by omega)]
    simp only [gd_t]
    by_cases h13 : S1.1 13 (N b) = -1
    · rw [if_pos h13]
      obtain ⟨S2, s1, s2, s3, s4, s5⟩ := ih nf (i + 1) B (S1.1 14 (N b)) S1 C1 (by omega) w3 (by omega) (by omega) (fun c hc => hb c (List.mem_cons_of_mem _ hc)) h10 h15
      refine ⟨S2, ?_, Cz_B s2 (show B + l.length ≤ B + (l.length + 1) by omega), fun a j u1 u2 => s3 a j u1 (fun ⟨c, hc, hcc⟩ => u2 ⟨c, List.mem_cons_of_mem _ hc, hcc⟩), s4, fun c hc hne => ?_⟩
      · rw [show nI i + 1 = nI (i + 1) from nI_add i 1]
        exact s1
      · rcases List.mem_cons.mp hc with z | z
        · rw [z] at hne; exact absurd h13 hne
        · exact s5 c z hne
    · rw [if_neg h13]
      obtain ⟨sT, hsT, h28⟩ := SI_get C1.2.2.1 hτl
      rw [c_move (k := N b) (T := τl) (c := 3) (by omega) (by omega) b3 (by omega) h28]
      simp only [Option.bind_some]
      have e12 : (mvS S1 (N b) τl sT (wk 3)).1 12 (N b) = nI (kv b) := by rw [mv_ne (by omega)]; exact b4
      have e14 : (mvS S1 (N b) τl sT (wk 3)).1 14 (N b) = S1.1 14 (N b) := mv_ne (by omega)
      rw [e12, e14, mI_in (a := kv b) (n := 512) (by omega) (by omega), nI_clamp (show kv b < 2 ^ 31 by omega)]
      simp only [gd_t]
      obtain ⟨A, hA⟩ : ∃ A, A = uI (mvS S1 (N b) τl sT 1) 9 (kv b) 5 := ⟨_, rfl⟩
      have CA : Cz K pl V m S0 n0 ρ0 τ0 sz0 kn0 R0 A N M L pos dep sz γ n ρ τ (B + 1) f := by
        rw [hA]
        exact Cz_nd (Cz_mv C1 b2 b1 hτl h28 (by omega) (by omega) b3) (by omega) b5
      have rA : ∀ a j : Nat, a ≠ 28 → (¬ (j = N b ∧ (a = 17 ∨ a = 18))) → (¬ (a = 9 ∧ j = kv b)) → A.1 a j = S1.1 a j := fun a j u1 u2 u3 => by rw [hA, uI_ne (by omega), mv_ne (by omega)]
      obtain ⟨S2, s1, s2, s3, s4, s5⟩ := ih nf (i + 1) (B + 1) (S1.1 14 (N b)) A CA (by omega) (Chn_cp _ _ (fun j _ => rA 14 j (by omega) (by omega) (by omega)) w3) (by omega) (by omega) (fun c hc => by
        obtain ⟨y1, y2, y3, y4, y5, y6⟩ := hb c (List.mem_cons_of_mem _ hc)
        exact ⟨y1, y2, by rw [rA 7 _ (by omega) (by omega) (by omega)]; exact y3, by rw [rA 12 _ (by omega) (by omega) (by omega)]; exact y4, y5, y6⟩) (by rw [rA 3 10 (by omega) (by omega) (by omega)]; exact h10) (by rw [rA 15 nl (by omega) (by omega) (by omega)]; exact h15)
      have mvf := mv_f S1 (N b) τl sT 1
      have r13 : ∀ j : Nat, A.1 13 j = S1.1 13 j := fun j => rA 13 j (by omega) (by omega) (by omega)
      refine ⟨S2, ?_, Cz_B s2 (show B + 1 + l.length ≤ B + (l.length + 1) by omega), fun a j u1 u2 => ?_, by rw [s4, hA]; rfl, fun c hc hne => ?_⟩
      · rw [show nI i + 1 = nI (i + 1) from nI_add i 1, show wk 3 = 1 from rfl, ← hA]
        exact s1
      · rw [s3 a j u1 (fun ⟨c, hc, hcc1, hcc2⟩ => u2 ⟨c, List.mem_cons_of_mem _ hc, by rw [← r13]; exact hcc1, hcc2⟩)]
        exact rA a j u1 (fun z => u2 ⟨b, List.mem_cons_self .., h13, Or.inl z⟩) (fun z => u2 ⟨b, List.mem_cons_self .., h13, Or.inr z⟩)
      · by_cases hcl : c ∈ l
        · exact s5 c hcl (by rw [r13]; exact hne)
        · have hcb : c = b := by
            rcases List.mem_cons.mp hc with z | z
            · exact z
            · exact absurd z hcl
          subst hcb
          refine ⟨?_, ?_⟩
          · by_cases hx : ∃ d, d ∈ l ∧ A.1 13 (N d) ≠ -1 ∧ N c = N d
            · obtain ⟨d, d1, d2, d3⟩ := hx
              rw [d3]; exact (s5 d d1 d2).1
            · rw [s3 17 (N c) (by omega) (fun ⟨d, d1, d2, d3⟩ => hx ⟨d, d1, d2, by omega⟩), hA, uI_ne (by omega)]
              exact mvf.1
          · by_cases hx : ∃ d, d ∈ l ∧ A.1 13 (N d) ≠ -1 ∧ kv c = kv d
            · obtain ⟨d, d1, d2, d3⟩ := hx
              rw [d3]; exact (s5 d d1 d2).2
            · rw [s3 9 (kv c) (by omega) (fun ⟨d, d1, d2, d3⟩ => hx ⟨d, d1, d2, by omega⟩), hA, uI_eq]
end CGV
