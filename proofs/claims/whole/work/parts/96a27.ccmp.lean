/-! the program that the class holds -/
def ExC (l : List (TR × List Nat × Nat)) (c : Nat × TR) : Prop := ∃ z, z ∈ l ∧ z.1 = .tag 4 (.tag c.1 c.2)
theorem exl {l1 l2 : List (TR × List Nat × Nat)} {c : Nat × TR} (h : ExC l1 c) : ExC (l1 ++ l2) c := by
  obtain ⟨z, h1, h2⟩ := h
  exact ⟨z, List.mem_append_left _ h1, h2⟩
theorem exr {l1 l2 : List (TR × List Nat × Nat)} {c : Nat × TR} (h : ExC l2 c) : ExC (l1 ++ l2) c := by
  obtain ⟨z, h1, h2⟩ := h
  exact ⟨z, List.mem_append_right _ h1, h2⟩
theorem exc {l : List (TR × List Nat × Nat)} {a : TR × List Nat × Nat} {c : Nat × TR} (h : ExC l c) : ExC (a :: l) c := by
  obtain ⟨z, h1, h2⟩ := h
  exact ⟨z, List.mem_cons_of_mem _ h1, h2⟩
/-- a function that the class holds -/
def CFn (K pl : Nat → Nat) (V : Nat → Int64) (N M L : Nat → Nat) (S : im_S) (c p cnt : Nat) (x : TR) : Prop :=
  S.2.1 23 c = V p ∧ S.1 24 c = nI (M p) ∧ M p < M (p + 1) ∧ L p < L (p + 1) ∧ S.1 27 (M p) = nI (L p) ∧ S.1 29 (L p) = 0 ∧ cnt ≤ 4 ∧ Chn S (S.1 25 c) ((pms (p + 2) cnt).map N) ∧ (∀ b, b ∈ pms (p + 2) cnt → vr V S N b ∧ S.1 17 (N b) = nI (L p)) ∧ (N (rtk x) < N (rtk x + 1) ∧ S.1 9 (N (rtk x)) = 9 ∧ S.1 10 (N (rtk x)) = -1) ∧ Seg S N (S.1 26 (M p)) (lvs x) (-1) ∧ ∀ z, z ∈ sbc x (pms (p + 2) cnt).reverse (4 * p) → CN K pl V S N M L z.1 z.2.1 (Rg M z.2.2)
section CCM
variable {K pl : Nat → Nat} {V : Nat → Int64} {m fu : Nat} {N M L : Nat → Nat}
theorem cls_sbc {x : TR} {p e md : Nat} (w : Wt K x p e md) : ∀ (γ : List Nat) (r : Nat) (c : Nat × TR), c ∈ cls x → ExC (sbc x γ r) c := by
  refine Wt_ind (K := K) (P := fun x p e md => ∀ (γ : List Nat) (r : Nat) (c : Nat × TR), c ∈ cls x → ExC (sbc x γ r) c) ?_ ?_ ?_ ?_ ?_ ?_ ?_ ?_ ?_ ?_ ?_ ?_ ?_ ?_ ?_ (tsz x) x p e md (Nat.le_refl _) w
  · intro p md _ γ r c hc; exact absurd hc List.not_mem_nil
  · intro p md _ γ r c hc; exact absurd hc List.not_mem_nil
  · intro p md _ γ r c hc; exact absurd hc List.not_mem_nil
  · intro p md _ γ r c hc
    obtain rfl := List.mem_singleton.mp hc
    exact ⟨_, List.mem_cons_self, rfl⟩
  · intro p as b md _ _ w1 ih γ r c hc
    rcases List.mem_cons.mp hc with rfl | hc
    · exact ⟨_, List.mem_cons_self, rfl⟩
    · exact exc (ih γ r c hc)
  · intro p x y b e md _ w1 w2 i1 i2 γ r c hc
    rcases List.mem_append.mp hc with hc | hc
    · exact exc (exl (i1 _ _ c hc))
    · exact exc (exr (i2 _ _ c hc))
  · intro p x y z b c e md w1 w2 w3 i1 i2 i3 γ r c' hc
    rcases List.mem_append.mp hc with hc | hc
    · exact exc (exl (i1 _ _ c' hc))
    rcases List.mem_append.mp hc with hc | hc
    · exact exc (exr (exl (i2 _ _ c' hc)))
    · exact exc (exr (exr (i3 _ _ c' hc)))
  · intro p fs c ns g b d f e md _ _ w1 w2 w3 w4 i1 i2 i3 i4 γ r c' hc
    rcases List.mem_append.mp hc with hc | hc
    · exact exc (exl (i1 _ _ c' hc))
    rcases List.mem_append.mp hc with hc | hc
    · exact exc (exr (exl (i2 _ _ c' hc)))
    rcases List.mem_append.mp hc with hc | hc
    · exact exc (exr (exr (exl (i3 _ _ c' hc))))
    · exact exc (exr (exr (exr (i4 _ _ c' hc))))
  · intro p x e md _ w1 ih γ r c hc
    exact exc (ih _ _ c hc)
  · intro p j x y e md _ w1 w2 i1 i2 γ r c hc
    rcases List.mem_append.mp hc with hc | hc
    · exact exc (exl (i1 _ _ c hc))
    · exact exc (exr (i2 _ _ c hc))
  · intro p j x y b md w1 w2 i1 i2 γ r c hc
    rcases List.mem_append.mp hc with hc | hc
    · exact exc (exl (i1 _ _ c hc))
    · exact exc (exr (i2 _ _ c hc))
  · intro p x y b e md _ _ w1 w2 i1 i2 γ r c hc
    rcases List.mem_append.mp hc with hc | hc
    · exact exc (exl (i1 _ _ c hc))
    · exact exc (exr (i2 _ _ c hc))
  · intro p x b md w1 ih γ r c hc
    exact exc (ih _ _ c hc)
  · intro p x b md hmd _ w1 ih γ r c hc
    rcases List.mem_append.mp hc with hc | hc
    · exact exl (ih _ _ c hc)
    · exact absurd hc List.not_mem_nil
  · intro p x l b e md hmd _ _ w1 w2 i1 i2 γ r c hc
    rcases List.mem_append.mp hc with hc | hc
    · exact exl (i1 _ _ c hc)
    · exact exr (i2 _ _ c hc)
theorem PO_FA {S : im_S} : ∀ (s : Nat) (y : TR), tsz y ≤ s → ∀ (c p e : Nat) (fns : List Nat), PO K pl V S N M L y c p e → 4000 ≤ fP K pl V y fns → FA (CFn K pl V N M L S) y c := by
  intro s
  induction s with
  | zero => intro y hs; cases y <;> simp [tsz] at hs
  | succ s ih =>
    intro y hs c p e fns h hf
    unfold PO at h
    split at h
    · rename_i p' cnt x r
      obtain ⟨-, e1, hF, -, hr⟩ := h
      have hf : 4000 ≤ min (fF K pl V fns p' cnt x) (fP K pl V r (fns ++ [p'])) := hf
      obtain ⟨o1, o2, o3, o4, o5, o6, o7, o8, o9, -, o11, o12, o13, b, e0, w1, -⟩ := hF
      have hp : 4000 ≤ pfc K pl V x (pms (p' + 2) cnt).reverse 0 [] [] := by unfold fF at hf; omega
      refine ⟨⟨o1, o2, o3, o4, o5, o6, o7, o8, fun b hb => ⟨(o9 b hb).1, (o9 b hb).2.1⟩, ⟨o11.1, o11.2.2.2.1, o11.2.2.2.2⟩, o12, (G_nd w1 _ (M p') (4 * p') 0 0 .nil [] (o13 hp) (Rg_0 M p')).1⟩, ?_⟩
      rcases hr with ⟨rfl, -⟩ | ⟨-, hr⟩
      · trivial
      · exact ih _ (by simp only [tsz] at hs; omega) _ _ _ (fns ++ [p']) hr (by omega)
    · exact h.elim
theorem GA_rt {S : im_S} {j : Nat} : ∀ (s : Nat) (as : TR), tsz as ≤ s → GA S N j as → ∀ t, t ∈ rts as → rl S N t 5 j := by
  intro s
  induction s with
  | zero => intro as hs; cases as <;> simp [tsz] at hs
  | succ s ih =>
    intro as hs h t ht
    unfold GA at h
    split at h
    · rcases List.mem_cons.mp ht with rfl | ht
      · exact h.1
      · exact ih _ (by simp only [tsz] at hs; omega) h.2.2 t ht
    · rename_i hx
      unfold rts at ht
      split at ht
      · rename_i a b c
        exact absurd rfl (hx a b c)
      · exact absurd ht List.not_mem_nil
theorem clP_GA {S : im_S} {y : TR} {p e : Nat} (w : PW K y p e) : ∀ c0 : Nat, FA (CFn K pl V N M L S) y c0 → ∀ c, c ∈ clP y → GA S N c.1 c.2 := by
  have one : ∀ (c0 q cnt : Nat) (x : TR) (b e0 : Nat), Wt K x b e0 0 → CFn K pl V N M L S c0 q cnt x → ∀ c, c ∈ cls x → GA S N c.1 c.2 := by
    intro c0 q cnt x b e0 w1 h c hc
    obtain ⟨z, z1, z2⟩ := cls_sbc w1 (pms (q + 2) cnt).reverse (4 * q) c hc
    have := h.2.2.2.2.2.2.2.2.2.2.2 z z1
    rw [z2] at this
    exact this.2.2
  refine PW_ind (K := K) (P := fun y p e => ∀ c0 : Nat, FA (CFn K pl V N M L S) y c0 → ∀ c, c ∈ clP y → GA S N c.1 c.2) ?_ ?_ (tsz y) y p e (Nat.le_refl _) w
  · intro p cnt x b e0 _ _ _ w1 _ c0 hf c hc
    have hc : c ∈ cls x ++ [] := hc
    rw [List.append_nil] at hc
    exact one _ _ _ _ _ _ w1 hf.1 c hc
  · intro p cnt x r b e0 e _ _ _ w1 _ _ w2 ih c0 hf c hc
    have hc : c ∈ cls x ++ clP r := hc
    rcases List.mem_append.mp hc with hc | hc
    · exact one _ _ _ _ _ _ w1 hf.1 c hc
    · exact ih _ hf.2 c hc
/-- the class's program: everything that its machine reads of it -/
def CGd (K pl : Nat → Nat) (V : Nat → Int64) (y : TR) (e : Nat) (N M L : Nat → Nat) (n ρ τ : Nat) (S : im_S) : Prop :=
  PW K y 0 e ∧ Mn N M L e ∧ N e = n ∧ M e = ρ ∧ L e = τ ∧ n ≤ 500 ∧ τ ≤ 500 ∧ ρ ≤ 500 ∧ SI S n ρ τ 500 ∧ S.1 6 16 = nI n ∧ S.1 22 6 = nI ρ ∧ S.1 22 9 = nI τ ∧ S.1 22 3 = nI (ftP y).length ∧ FA (CFn K pl V N M L S) y 0 ∧ ∀ c, c ∈ clP y → ∀ i ps, lkF V (ftP y) c.1 (rts c.2).length = some (i, ps) → S.1 13 (N c.1) = nI i ∧ ∀ t b, AT c.2 ps t b → S.1 11 (N t) = nI (N b)
theorem c_lnk (T : TH K pl V m) {y : TR} {e n ρ τ f : Nat} (w : PW K y 0 e) {S S' : im_S} (H : Hz K pl V m S N M L e n ρ τ (min 4000 (fP K pl V y [])) (fnP y)) (hP : PO K pl V S N M L y 0 0 e) (hC : CI K pl V S N 0 e e (clP y)) (hL : LI K pl V N S (ftP y) (clP y) f n S' 4000) (h4 : 4000 ≤ fP K pl V y []) : CGd K pl V y e N M L n ρ τ S' := by
  obtain ⟨-, hem, -, k16, k6, k9, k3, ⟨b1, b2, b3⟩, ⟨g1, g2, g3, g4, -⟩, hSI, -, -, -, -⟩ := H
  have hm := T.m_
  have hpe := T.pl_ hem
  have hA := hL.2.2.2.2.1
  have hB := hL.2.2.2.2.2.1
  have hFA := PO_FA (tsz y) y (Nat.le_refl _) 0 0 e [] hP h4
  have hG := clP_GA w 0 hFA
  have hcu := cu_P w
  have hMn : ∀ i j, i ≤ j → j ≤ e → N i ≤ N j := fun i j h1 h2 => (g4 i j h1 h2).1
  have hci : ∀ c, c ∈ clP y → N c.1 < N (c.1 + 1) := fun c hc => (hC.2 c hc).1.1
  have hlt : ∀ j, j ≤ e → N j < 2 ^ 31 := fun j hj => by have := hMn j e hj (Nat.le_refl _); omega
  have h13 : ∀ k : Nat, S.1 7 k ≠ 8 → S'.1 13 k = S.1 13 k := fun k hk => hL.2.2.2.2.2.2.2.1 k (fun c hc z => hk (by rw [← z]; exact (hC.2 c hc).1.2.1))
  have h11 : NoA S S' := fun k hk => hL.2.2.2.2.2.2.2.2.1 k (fun c hc hm => by
    obtain ⟨t, t1, t2⟩ := List.mem_map.mp hm
    have r := GA_rt _ _ (Nat.le_refl _) (hG c hc) t t1
    rw [← t2] at hk
    refine hk ⟨r.2.1, ?_⟩
    rw [r.2.2, nI_clamp (hlt c.1 (by have := (hC.2 c hc).2.2.1; omega))]
    exact (hC.2 c hc).1.2.1)
  refine ⟨w, g4, g1, g2, g3, by omega, by omega, by omega, SI_cp hSI hpe (fun t _ => hA 28 _ (by omega) (by omega) (by omega)) (fun t _ => hA 27 _ (by omega) (by omega) (by omega)) (fun t _ => hA 29 _ (by omega) (by omega) (by omega)) (fun a k q _ => hA a k (by omega) (by omega) (by omega)), by rw [hA 6 _ (by omega) (by omega) (by omega)]; exact k16, by rw [hA 22 _ (by omega) (by omega) (by omega)]; exact k6, by rw [hA 22 _ (by omega) (by omega) (by omega)]; exact k9, ?_, ?_, ?_⟩
  · rw [hA 22 _ (by omega) (by omega) (by omega), (PO_ft (tsz y) y (Nat.le_refl _) _ _ _ hP).2]
    exact k3
  · refine FA_ag w 0 (fun c q cnt x b e0 w1 v1 v2 v3 h => ?_) hFA
    obtain ⟨o1, o2, o3, o4, o5, o6, o7, o8, o9, o10, o11, o12⟩ := h
    refine ⟨by rw [hB]; exact o1, by rw [hA 24 _ (by omega) (by omega) (by omega)]; exact o2, o3, o4, by rw [hA 27 _ (by omega) (by omega) (by omega)]; exact o5, by rw [hA 29 _ (by omega) (by omega) (by omega)]; exact o6, o7, ?_, fun b hb => ⟨vr_lk hA hB (o9 b hb).1, by rw [hA 17 _ (by omega) (by omega) (by omega)]; exact (o9 b hb).2⟩, ⟨o10.1, by rw [hA 9 _ (by omega) (by omega) (by omega)]; exact o10.2.1, by rw [hA 10 _ (by omega) (by omega) (by omega)]; exact o10.2.2⟩, Seg_lk hA o11, fun z hz => CN_lk hA hB h13 h11 (hlt _ ?_) (o12 z hz)⟩
    · rw [hA 25 _ (by omega) (by omega) (by omega)]
      exact Chn_cp _ _ (fun k _ => hA 14 _ (by omega) (by omega) (by omega)) o8
    · have := sbs_in w1 _ (sbc_sbs w1 _ _ z hz)
      omega
  · exact lk_do (by omega) g1 hMn hcu hci (fun c hc t ht => by
      have r := GA_rt _ _ (Nat.le_refl _) (hG c hc) t ht
      exact ⟨((hC.2 c hc).2.2.2 t ht).2.1, r.1, r.2.2⟩) hL
end CCM
