/-! the class's parser: the calls are linked -/
/-- the faults of a call -/
def cfa (K pl : Nat → Nat) (V : Nat → Int64) : TR → List Nat → Nat
  | .append (.tag _ x) r, b :: ps => min (ckX K pl V x (tvV (V b))) (cfa K pl V r ps)
  | _, _ => 4000
def cfC (K pl : Nat → Nat) (V : Nat → Int64) : List (Nat × Nat) → Nat → TR → Nat
  | [], j, _ => 4 * pl j + 2
  | (p, cnt) :: ft, j, as => if V p = V j then (if cnt = (rts as).length then cfa K pl V as (pms (p + 2) cnt) else 4 * pl j + 2) else cfC K pl V ft j as
/-- the function of a call and its parameters -/
def lkF (V : Nat → Int64) : List (Nat × Nat) → Nat → Nat → Option (Nat × List Nat)
  | [], _, _ => none
  | (p, cnt) :: ft, j, len => if V p = V j then (if cnt = len then some (0, pms (p + 2) cnt) else none) else (lkF V ft j len).map (fun z => (z.1 + 1, z.2))
/-- which nodes get which variables -/
def AgG (N : Nat → Nat) (tg : Nat → Int32) : TR → List Nat → Prop
  | .append (.tag _ x) r, b :: ps => tg (N (rtk x)) = nI (N b) ∧ AgG N tg r ps
  | _, _ => True
def FTb (V : Nat → Int64) (S : im_S) (N : Nat → Nat) : Nat → List (Nat × Nat) → Prop
  | _, [] => True
  | i, (p, cnt) :: ft => S.2.1 23 i = V p ∧ cnt ≤ 4 ∧ Chn S (S.1 25 i) ((pms (p + 2) cnt).map N) ∧ (∀ b, b ∈ pms (p + 2) cnt → S.1 8 (N b) = nI (tvV (V b))) ∧ FTb V S N (i + 1) ft
theorem FTb_cp {V : Nat → Int64} {S S' : im_S} {N : Nat → Nat} (h1 : ∀ a k : Nat, a ≠ 5 → a ≠ 11 → a ≠ 13 → S'.1 a k = S.1 a k) (h2 : S'.2.1 = S.2.1) : ∀ (ft : List (Nat × Nat)) (i : Nat), FTb V S N i ft → FTb V S' N i ft := by
  intro ft
  induction ft with
  | nil => intro i _; trivial
  | cons c ft ih =>
    intro i h
    obtain ⟨p, cnt⟩ := c
    obtain ⟨q1, q2, q3, q4, q5⟩ := h
    refine ⟨by rw [h2]; exact q1, q2, ?_, fun b hb => by rw [h1 8 _ (by omega) (by omega) (by omega)]; exact q4 b hb, ih (i + 1) q5⟩
    rw [h1 25 i (by omega) (by omega) (by omega)]
    exact Chn_cp _ _ (fun j _ => h1 14 j (by omega) (by omega) (by omega)) q3
theorem FTb_23 {V : Nat → Int64} {S : im_S} {N : Nat → Nat} : ∀ (ft : List (Nat × Nat)) (i : Nat), FTb V S N i ft → F23 V S i (ft.map Prod.fst) := by
  intro ft
  induction ft with
  | nil => intro i _; trivial
  | cons c ft ih =>
    intro i h
    obtain ⟨p, cnt⟩ := c
    exact ⟨h.1, ih (i + 1) h.2.2.2.2⟩
theorem ft_look {K pl : Nat → Nat} {V : Nat → Int64} {S : im_S} {N : Nat → Nat} {j : Nat} {as : TR} : ∀ (ft : List (Nat × Nat)) (i : Nat), FTb V S N i ft → (idx V (ft.map Prod.fst) j = none → cfC K pl V ft j as = 4 * pl j + 2 ∧ lkF V ft j (rts as).length = none) ∧ ∀ k, idx V (ft.map Prod.fst) j = some k → ∃ p cnt : Nat, cfC K pl V ft j as = (if cnt = (rts as).length then cfa K pl V as (pms (p + 2) cnt) else 4 * pl j + 2) ∧ lkF V ft j (rts as).length = (if cnt = (rts as).length then some (k, pms (p + 2) cnt) else none) ∧ cnt ≤ 4 ∧ Chn S (S.1 25 (i + k)) ((pms (p + 2) cnt).map N) ∧ ∀ b, b ∈ pms (p + 2) cnt → S.1 8 (N b) = nI (tvV (V b)) := by
  intro ft
  induction ft with
  | nil => intro i _; exact ⟨fun _ => ⟨rfl, rfl⟩, fun k h => by cases h⟩
  | cons c ft ih =>
    intro i h
    obtain ⟨p, cnt⟩ := c
    obtain ⟨q1, q2, q3, q4, q5⟩ := h
    obtain ⟨i1, i2⟩ := ih (i + 1) q5
    by_cases hv : V p = V j
    · have e1 : idx V (((p, cnt) :: ft).map Prod.fst) j = some 0 := by
        show (if V p = V j then some 0 else _) = _
        rw [if_pos hv]
      have e2 : cfC K pl V ((p, cnt) :: ft) j as = (if cnt = (rts as).length then cfa K pl V as (pms (p + 2) cnt) else 4 * pl j + 2) := by
        show (if V p = V j then _ else _) = _
        rw [if_pos hv]
      have e3 : lkF V ((p, cnt) :: ft) j (rts as).length = (if cnt = (rts as).length then some (0, pms (p + 2) cnt) else none) := by
        show (if V p = V j then _ else _) = _
        rw [if_pos hv]
      rw [e1]
      refine ⟨(fun h => by cases h), fun k hk => ?_⟩
      cases hk
      exact ⟨p, cnt, e2, e3, q2, q3, q4⟩
    · have e1 : idx V (((p, cnt) :: ft).map Prod.fst) j = (idx V (ft.map Prod.fst) j).map (· + 1) := by
        show (if V p = V j then some 0 else (idx V (ft.map Prod.fst) j).map (· + 1)) = _
        rw [if_neg hv]
      have e2 : cfC K pl V ((p, cnt) :: ft) j as = cfC K pl V ft j as := by
        show (if V p = V j then _ else _) = _
        rw [if_neg hv]
      have e3 : lkF V ((p, cnt) :: ft) j (rts as).length = (lkF V ft j (rts as).length).map (fun z => (z.1 + 1, z.2)) := by
        show (if V p = V j then _ else _) = _
        rw [if_neg hv]
      rw [e1, e2, e3]
      rcases hi : idx V (ft.map Prod.fst) j with _ | k0
      · obtain ⟨j1, j2⟩ := i1 hi
        exact ⟨fun _ => ⟨j1, by rw [j2]; rfl⟩, fun k h => by cases h⟩
      · refine ⟨(fun h => by cases h), fun k hk => ?_⟩
        have hk : some (k0 + 1) = some k := hk
        cases hk
        obtain ⟨p', cnt', j1, j2, j3, j4, j5⟩ := i2 k0 hi
        refine ⟨p', cnt', j1, ?_, j3, by rw [show i + (k0 + 1) = i + 1 + k0 by omega]; exact j4, j5⟩
        rw [j2]
        by_cases hc : cnt' = (rts as).length
        · rw [if_pos hc, if_pos hc]; rfl
        · rw [if_neg hc, if_neg hc]; rfl
theorem FS_inj {S : im_S} {f g : Nat} (h1 : FS S f) (h2 : FS S g) : f = g := by
  rcases h1 with ⟨a1, a2, a3⟩ | ⟨k, p, a1, a2, a3, a4, a5, a6⟩
  · rcases h2 with ⟨b1, b2, b3⟩ | ⟨k', p', b1, b2, b3, b4, b5, b6⟩
    · omega
    · rw [a2] at b4
      have := (nI_eq (a := 0) (b := k') (by omega) (by omega)).mp b4
      omega
  · rcases h2 with ⟨b1, b2, b3⟩ | ⟨k', p', b1, b2, b3, b4, b5, b6⟩
    · rw [b2] at a4
      have := (nI_eq (a := 0) (b := k) (by omega) (by omega)).mp a4
      omega
    · rw [a4] at b4
      rw [a5] at b5
      have e1 := (nI_eq (a := k) (b := k') (by omega) (by omega)).mp b4
      have e2 := (nI_eq (a := p) (b := p') (by omega) (by omega)).mp b5
      omega
section CLK
variable {K pl : Nat → Nat} {V : Nat → Int64} {m fu : Nat} {N : Nat → Nat}
theorem agc_chn {S : im_S} : ∀ (s : Nat) (as : TR), tsz as ≤ s → ∀ w : Int32, (∀ t, t ∈ rts as → N t < 512) → AgC K pl V S N as w → Chn S w ((rts as).map N) := by
  intro s
  induction s with
  | zero => intro as hs; cases as <;> simp [tsz] at hs
  | succ s ih =>
    intro as hs w ht h
    unfold AgC at h
    split at h
    · rename_i j x r
      obtain ⟨h1, h2, h3, h4, h5, h6⟩ := h
      exact ⟨h1, ht (rtk x) (List.mem_cons_self ..), ih r (by simp only [tsz] at hs; omega) _ (fun t h => ht t (List.mem_cons_of_mem _ h)) h6⟩
    · exact h
    · exact h.elim
theorem agc_lt {S : im_S} : ∀ (s : Nat) (as : TR), tsz as ≤ s → ∀ w : Int32, AgC K pl V S N as w → ∀ t, t ∈ rts as → N t < N (t + 1) := by
  intro s
  induction s with
  | zero => intro as hs; cases as <;> simp [tsz] at hs
  | succ s ih =>
    intro as hs w h t ht
    unfold AgC at h
    split at h
    · rename_i j x r
      have ht : t ∈ rtk x :: rts r := ht
      rcases List.mem_cons.mp ht with z | z
      · rw [z]; exact h.2.1
      · exact ih r (by simp only [tsz] at hs; omega) _ h.2.2.2.2.2 t z
    · exact absurd ht List.not_mem_nil
    · exact h.elim
theorem c_lkA (z1 z2 : Int32) : ∀ (s : Nat) (as : TR), tsz as ≤ s → ∀ (ps : List Nat) (nf i : Nat) (w3 w4 : Int32) (S : im_S) (f : Nat), AgC K pl V S N as w4 → Chn S w3 (ps.map N) → (∀ b, b ∈ ps → S.1 8 (N b) = nI (tvV (V b))) → i + ps.length ≤ 4 → ps.length = (rts as).length → ps.length < nf → (∀ t, t ∈ rts as → N t < 512) → FS S f → f ≤ 4000 → ∃ S' : im_S, f_X7_linkCall_L109 fu nf z1 z2 w3 w4 (nI i) S = some ((), S') ∧ FS S' (min f (cfa K pl V as ps)) ∧ (∀ a k : Nat, a ≠ 5 → (a ≠ 11 ∨ ¬ k ∈ (rts as).map N) → S'.1 a k = S.1 a k) ∧ S'.2.1 = S.2.1 ∧ (∀ tg : Nat → Int32, AgG N tg as ps → (∀ t, t ∈ rts as → S'.1 11 (N t) = tg (N t)) ∧ ∀ k, S'.1 11 k = S.1 11 k ∨ S'.1 11 k = tg k) := by
  intro s
  induction s with
  | zero => intro as hs; cases as <;> simp [tsz] at hs
  | succ s ih =>
    intro as hs ps nf i w3 w4 S f hA hC h8 hi hl hnf ht hFS hf
    obtain ⟨nf, rfl⟩ : ∃ z, nf = z + 1 := ⟨nf - 1, by omega⟩
    unfold AgC at hA
    split at hA
    · rename_i j x r
      obtain ⟨h1, h2, h3, h4, h5, h6⟩ := hA
      have hl : ps.length = (rts r).length + 1 := hl
      cases ps with
      | nil => cases hl
      | cons b ps =>
        have hl' : ps.length = (rts r).length := by rw [List.length_cons] at hl; omega
        rw [List.length_cons] at hi hnf
        obtain ⟨c1, c2, c3⟩ := hC
        have ht0 := ht (rtk x) (List.mem_cons_self ..)
        have c4 : ¬ (4 : Int32) ≤ nI i := fun z => by have := (mI_le (a := 4) (b := i) (by omega) (by omega)).mp z; omega
        have tb := tvV_r (V b)
        have htx := tyx_lt K V x
        obtain ⟨S1, hS1⟩ : ∃ S1, S1 = uI S 11 (N (rtk x)) (nI (N b)) := ⟨_, rfl⟩
        obtain ⟨S2, hS2⟩ : ∃ S2, S2 = ckS S1 (N (rtk x)) (nI (tvV (V b))) := ⟨_, rfl⟩
        have r1 : ∀ a k : Nat, (a ≠ 11 ∨ k ≠ N (rtk x)) → S1.1 a k = S.1 a k := fun a k u => by rw [hS1, uI_ne (by omega)]
        have r2 : ∀ a k : Nat, a ≠ 5 → S2.1 a k = S1.1 a k := fun a k u => by rw [hS2, ck_ne u]
        have r2l : S2.2.1 = S.2.1 := by rw [hS2, ck_21, hS1]; rfl
        have hFS2 : FS S2 (min f (ckX K pl V x (tvV (V b)))) := by
          have g0 : FSg (S1.1 5 0) (S1.1 5 1) f := by rw [r1 5 0 (by omega), r1 5 1 (by omega)]; exact hFS
          rw [hS2]
          exact ck_fs (pl := pl) (k := N (rtk x)) (ty := tyk K (tv V) x) (b := bgk x) (t := tvV (V b)) g0 (by rw [r1 8 _ (by omega)]; exact h3) (by rw [r1 20 _ (by omega)]; exact h4) h5 htx (by omega) hf
        obtain ⟨S', s1, s2, s3, s4, s5⟩ := ih r (by simp only [tsz] at hs; omega) ps nf (i + 1) (S2.1 14 (N b)) (S2.1 14 (N (rtk x))) S2 (min f (ckX K pl V x (tvV (V b)))) (by
          rw [r2 14 _ (by omega), r1 14 _ (by omega)]
          exact AgC_cp (tsz r) r (Nat.le_refl _) _ (fun t _ => ⟨rfl, rfl, fun _ => ⟨by rw [r2 8 _ (by omega), r1 8 _ (by omega)], by rw [r2 20 _ (by omega), r1 20 _ (by omega)], by rw [r2 14 _ (by omega), r1 14 _ (by omega)]⟩⟩) h6) (by
          rw [r2 14 _ (by omega), r1 14 _ (by omega)]
          exact Chn_cp _ _ (fun k _ => by rw [r2 14 _ (by omega), r1 14 _ (by omega)]) c3) (fun b' hb' => by rw [r2 8 _ (by omega), r1 8 _ (by omega)]; exact h8 b' (List.mem_cons_of_mem _ hb')) (by omega) hl' (by omega) (fun t h => ht t (List.mem_cons_of_mem _ h)) hFS2 (by omega)
        refine ⟨S', ?_, ?_, fun a k u1 u2 => ?_, by rw [s4, r2l], fun tg hg => ⟨fun t htt => ?_, fun k => ?_⟩⟩
        · rw [f_X7_linkCall_L109, if_neg c4, h1, if_neg (nI_m1' ht0), c1, if_neg (nI_m1' c2), mI_in (a := N (rtk x)) (n := 512) (by omega) ht0, nI_clamp (show N (rtk x) < 2 ^ 31 by omega), mI_in (a := N b) (n := 512) (by omega) c2, nI_clamp (show N b < 2 ^ 31 by omega), h8 b (List.mem_cons_self ..)]
          simp only [gd_t]
          rw [← hS1, c_chk ht0, ← hS2]
          simp only [Option.bind_some]
          rw [show nI i + 1 = nI (i + 1) from nI_add i 1]
          exact s1
        · have e : min f (cfa K pl V (.append (.tag j x) r) (b :: ps)) = min (min f (ckX K pl V x (tvV (V b)))) (cfa K pl V r ps) := by
            show min f (min (ckX K pl V x (tvV (V b))) (cfa K pl V r ps)) = _
            rw [Nat.min_assoc]
          rw [e]; exact s2
        · have hm : (rts (.append (.tag j x) r)).map N = N (rtk x) :: (rts r).map N := rfl
          rw [hm] at u2
          rw [s3 a k u1 (u2.imp id (fun z y => z (List.mem_cons_of_mem _ y))), r2 a k u1]
          refine r1 a k (u2.imp id (fun z y => z (by rw [y]; exact List.mem_cons_self ..)))
        · have htt : t ∈ rtk x :: rts r := htt
          have hg : tg (N (rtk x)) = nI (N b) ∧ AgG N tg r ps := hg
          obtain ⟨g1, g2⟩ := s5 tg hg.2
          rcases List.mem_cons.mp htt with z | z
          · rcases g2 (N t) with y | y
            · rw [y, z, r2 11 _ (by omega), hS1, uI_eq]; exact hg.1.symm
            · exact y
          · exact g1 t z
        · have hg : tg (N (rtk x)) = nI (N b) ∧ AgG N tg r ps := hg
          rcases (s5 tg hg.2).2 k with y | y
          · by_cases hk : k = N (rtk x)
            · refine Or.inr ?_
              rw [y, hk, r2 11 _ (by omega), hS1, uI_eq]; exact hg.1.symm
            · refine Or.inl ?_
              rw [y, r2 11 k (by omega), r1 11 k (Or.inr hk)]
          · exact Or.inr y
    · have hl : ps.length = 0 := hl
      have hp : ps = [] := List.length_eq_zero_iff.mp hl
      subst hp
      refine ⟨S, ?_, ?_, fun _ _ _ _ => rfl, rfl, fun tg _ => ⟨fun t h => absurd h List.not_mem_nil, fun k => Or.inl rfl⟩⟩
      · rw [f_X7_linkCall_L109]
        by_cases c4 : (4 : Int32) ≤ nI i
        · rw [if_pos c4]
        · rw [if_neg c4, if_pos hA]
      · show FS S (min f 4000)
        rw [Nat.min_eq_left hf]; exact hFS
    · exact hA.elim
/-- a call is linked -/
theorem c_link1 (hfu : 600 ≤ fu) {S : im_S} {ft : List (Nat × Nat)} {j f : Nat} {as : TR} (hft : FTb V S N 0 ft) (h3 : S.1 22 3 = nI ft.length) (h8 : ft.length ≤ 8) (hca : CaO K pl V S N j as) (hNj : N j < 512) (hts : ∀ t, t ∈ rts as → N t < 512) (hpl : pl j ≤ 500) (hFS : FS S f) (hf : f ≤ 4000) :
    ∃ S' : im_S, f_X7_linkCall fu (nI (N j)) S = some ((), S') ∧ FS S' (min f (cfC K pl V ft j as)) ∧ (∀ a k : Nat, a ≠ 5 → (a ≠ 13 ∨ k ≠ N j) → (a ≠ 11 ∨ ¬ k ∈ (rts as).map N) → S'.1 a k = S.1 a k) ∧ S'.2.1 = S.2.1 ∧ (∀ i ps, lkF V ft j (rts as).length = some (i, ps) → S'.1 13 (N j) = nI i) ∧ (∀ tg : Nat → Int32, (∀ i ps, lkF V ft j (rts as).length = some (i, ps) → AgG N tg as ps) → (∀ i ps t, lkF V ft j (rts as).length = some (i, ps) → t ∈ rts as → S'.1 11 (N t) = tg (N t)) ∧ ∀ k, S'.1 11 k = S.1 11 k ∨ S'.1 11 k = tg k) := by
  obtain ⟨c1, c2, c3, c4, c5, c6⟩ := hca
  have hfun := c_ff (fu := fu) (V := V) (FTb_23 ft 0 hft) (by rw [List.length_map]; exact h3) (by rw [List.length_map]; exact h8) hfu j
  obtain ⟨l1, l2⟩ := ft_look (K := K) (pl := pl) (j := j) (as := as) ft 0 hft
  have o1 : f_X7_linkCall fu (nI (N j)) S = f_X7_linkCall fu (nI (N j)) S := rfl
  conv at o1 => rhs; unfold f_X7_linkCall
  rw [mI_in (a := N j) (n := 512) (by omega) hNj, nI_clamp (show N j < 2 ^ 31 by omega), c3] at o1
  simp only [gd_t] at o1
  rw [hfun] at o1
  simp only [Option.bind_some] at o1
  have hnote : FS (ntS S 2 (nI (pl j))) (min f (4 * pl j + 2)) := nt_fs (k := 2) hFS (by omega) (by omega) hpl
  have hcs : idx V (ft.map Prod.fst) j = none ∨ ∃ k, idx V (ft.map Prod.fst) j = some k := by
    cases idx V (ft.map Prod.fst) j with
    | none => exact Or.inl rfl
    | some k => exact Or.inr ⟨k, rfl⟩
  rcases hcs with hi | ⟨k, hi⟩
  · obtain ⟨e1, e2⟩ := l1 hi
    rw [hi] at o1
    simp only [] at o1
    refine ⟨ntS S 2 (nI (pl j)), ?_, by rw [e1]; exact hnote, fun a k u _ _ => nt_ne S _ _ u, nt_21 S _ _, (fun i ps h => by rw [e2] at h; cases h), fun tg _ => ⟨(fun i ps t h => by rw [e2] at h; cases h), fun k => Or.inl (nt_ne S _ _ (by omega))⟩⟩
    rw [if_neg (fun z => z rfl), if_pos trivial, c4] at o1
    simp only [c_note, Option.bind_some] at o1
    exact o1
  · obtain ⟨p, cnt, e1, e2, e3, e4, e5⟩ := l2 k hi
    have hkl := idx_lt _ j k hi
    rw [List.length_map] at hkl
    rw [Nat.zero_add] at e4
    rw [hi] at o1
    simp only [] at o1
    have hk1 : ¬ nI k = (-1 : Int32) := nI_m1 (by omega)
    rw [if_pos hk1, mI_in (a := k) (n := 8) (by omega) (by omega), nI_clamp (show k < 2 ^ 31 by omega), if_neg hk1] at o1
    simp only [gd_t] at o1
    have hch := agc_chn (tsz as) as (Nat.le_refl _) _ hts c5
    rw [c_len e4 (by rw [List.length_map, pms_len]; omega) hfu, List.length_map, pms_len] at o1
    simp only [Option.bind_some] at o1
    rw [c_len hch (by rw [List.length_map]; omega) hfu, List.length_map] at o1
    simp only [Option.bind_some] at o1
    have en : nI cnt = nI (rts as).length ↔ cnt = (rts as).length := nI_eq (by omega) (by omega)
    by_cases hc : cnt = (rts as).length
    · rw [if_pos (en.mpr hc)] at o1
      rw [if_pos hc] at e1 e2
      obtain ⟨S1, hS1⟩ : ∃ S1, S1 = uI S 13 (N j) (nI k) := ⟨_, rfl⟩
      rw [← hS1] at o1
      have r1 : ∀ a k' : Nat, (a ≠ 13 ∨ k' ≠ N j) → S1.1 a k' = S.1 a k' := fun a k' u => by rw [hS1, uI_ne (by omega)]
      obtain ⟨S', s1, s2, s3, s4, s5⟩ := c_lkA (K := K) (pl := pl) (V := V) (fu := fu) (N := N) (nI (N j)) (nI k) (tsz as) as (Nat.le_refl _) (pms (p + 2) cnt) fu 0 (S.1 25 k) (S.1 12 (N j)) S1 f (AgC_cp (tsz as) as (Nat.le_refl _) _ (fun t _ => ⟨rfl, rfl, fun _ => ⟨r1 8 _ (by omega), r1 20 _ (by omega), r1 14 _ (by omega)⟩⟩) c5) (Chn_cp _ _ (fun k' _ => r1 14 k' (by omega)) e4) (fun b hb => by rw [r1 8 _ (by omega)]; exact e5 b hb) (by rw [pms_len]; omega) (by rw [pms_len]; exact hc) (by rw [pms_len]; omega) hts (by unfold FS; rw [r1 5 0 (by omega), r1 5 1 (by omega)]; exact hFS) hf
      refine ⟨S', ?_, by rw [e1]; exact s2, fun a k' u1 u2 u3 => by rw [s3 a k' u1 u3, r1 a k' u2], by rw [s4, hS1]; rfl, fun i ps h => ?_, fun tg hg => ⟨fun i ps t h ht => ?_, fun k' => ?_⟩⟩
      · rw [o1]; exact s1
      · rw [e2] at h
        cases h
        rw [s3 13 (N j) (by omega) (Or.inl (by omega)), hS1, uI_eq]
      · exact (s5 tg (hg k _ e2)).1 t ht
      · rcases (s5 tg (hg k _ e2)).2 k' with z | z
        · exact Or.inl (by rw [z, r1 11 k' (by omega)])
        · exact Or.inr z
    · rw [if_neg (fun z => hc (en.mp z)), c4] at o1
      simp only [c_note, Option.bind_some] at o1
      rw [if_neg hc] at e1 e2
      exact ⟨ntS S 2 (nI (pl j)), o1, by rw [e1]; exact hnote, fun a k u _ _ => nt_ne S _ _ u, nt_21 S _ _, (fun i ps h => by rw [e2] at h; cases h), fun tg _ => ⟨(fun i ps t h => by rw [e2] at h; cases h), fun k => Or.inl (nt_ne S _ _ (by omega))⟩⟩
end CLK
