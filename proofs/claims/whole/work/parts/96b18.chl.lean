/-! what the class's graph says of those that take a value -/
section CHL
variable {K pl : Nat → Nat} {V : Nat → Int64} {y : TR} {e : Nat} {N M L : Nat → Nat} {n ρ τ : Nat} {G : im_S}
theorem cl_W {x : TR} {p e md : Nat} (w : Wt K x p e md) : ∀ (γ : List Nat) (r : Nat) (z : TR × List Nat × Nat) (j : Nat) (as : TR), z ∈ sbc x γ r → z.1 = .tag 4 (.tag j as) → (j, as) ∈ cls x := by
  have nl : ∀ {Q : Prop} {z : TR × List Nat × Nat}, z ∈ ([] : List (TR × List Nat × Nat)) → Q := fun h => absurd h List.not_mem_nil
  refine Wt_ind (K := K) (P := fun x p e md => ∀ (γ : List Nat) (r : Nat) (z : TR × List Nat × Nat) (j : Nat) (as : TR), z ∈ sbc x γ r → z.1 = .tag 4 (.tag j as) → (j, as) ∈ cls x) ?_ ?_ ?_ ?_ ?_ ?_ ?_ ?_ ?_ ?_ ?_ ?_ ?_ ?_ ?_ (tsz x) x p e md (Nat.le_refl _) w
  · intro p md _ γ r z j as hz h
    rcases List.mem_cons.mp hz with rfl | hz
    · cases h
    · exact nl hz
  · intro p md _ γ r z j as hz h
    rcases List.mem_cons.mp hz with rfl | hz
    · cases h
    · exact nl hz
  · intro p md _ γ r z j as hz h
    rcases List.mem_cons.mp hz with rfl | hz
    · cases h
    · exact nl hz
  · intro p md _ γ r z j as hz h
    rcases List.mem_cons.mp hz with rfl | hz
    · cases h
      exact List.mem_cons_self
    · exact nl hz
  · intro p as0 b md _ _ w1 ih γ r z j as hz h
    rcases List.mem_cons.mp hz with rfl | hz
    · cases h
      exact List.mem_cons_self
    · exact List.mem_cons_of_mem _ (ih γ r z j as hz h)
  · intro p x y b e md _ w1 w2 i1 i2 γ r z j as hz h
    rcases List.mem_cons.mp hz with rfl | hz
    · cases h
    · rcases List.mem_append.mp hz with hz | hz
      · exact List.mem_append_left _ (i1 _ _ z j as hz h)
      · exact List.mem_append_right _ (i2 _ _ z j as hz h)
  · intro p x y z' b c e md w1 w2 w3 i1 i2 i3 γ r z j as hz h
    rcases List.mem_cons.mp hz with rfl | hz
    · cases h
    · rcases List.mem_append.mp hz with hz | hz
      · exact List.mem_append_left _ (i1 _ _ z j as hz h)
      · rcases List.mem_append.mp hz with hz | hz
        · exact List.mem_append_right _ (List.mem_append_left _ (i2 _ _ z j as hz h))
        · exact List.mem_append_right _ (List.mem_append_right _ (i3 _ _ z j as hz h))
  · intro p fs c ns g b d f e md _ _ w1 w2 w3 w4 i1 i2 i3 i4 γ r z j as hz h
    rcases List.mem_cons.mp hz with rfl | hz
    · cases h
    · rcases List.mem_append.mp hz with hz | hz
      · exact List.mem_append_left _ (i1 _ _ z j as hz h)
      · rcases List.mem_append.mp hz with hz | hz
        · exact List.mem_append_right _ (List.mem_append_left _ (i2 _ _ z j as hz h))
        · rcases List.mem_append.mp hz with hz | hz
          · exact List.mem_append_right _ (List.mem_append_right _ (List.mem_append_left _ (i3 _ _ z j as hz h)))
          · exact List.mem_append_right _ (List.mem_append_right _ (List.mem_append_right _ (i4 _ _ z j as hz h)))
  · intro p x e md _ w1 ih γ r z j as hz h
    rcases List.mem_cons.mp hz with rfl | hz
    · cases h
    · exact ih _ _ z j as hz h
  · intro p j0 x y e md _ w1 w2 i1 i2 γ r z j as hz h
    rcases List.mem_cons.mp hz with rfl | hz
    · cases h
    · rcases List.mem_append.mp hz with hz | hz
      · exact List.mem_append_left _ (i1 _ _ z j as hz h)
      · exact List.mem_append_right _ (i2 _ _ z j as hz h)
  · intro p j0 x y b md w1 w2 i1 i2 γ r z j as hz h
    rcases List.mem_cons.mp hz with rfl | hz
    · cases h
    · rcases List.mem_append.mp hz with hz | hz
      · exact List.mem_append_left _ (i1 _ _ z j as hz h)
      · exact List.mem_append_right _ (i2 _ _ z j as hz h)
  · intro p x y b e md _ _ w1 w2 i1 i2 γ r z j as hz h
    rcases List.mem_cons.mp hz with rfl | hz
    · cases h
    · rcases List.mem_append.mp hz with hz | hz
      · exact List.mem_append_left _ (i1 _ _ z j as hz h)
      · exact List.mem_append_right _ (i2 _ _ z j as hz h)
  · intro p x b md w1 ih γ r z j as hz h
    rcases List.mem_cons.mp hz with rfl | hz
    · cases h
    · exact ih _ _ z j as hz h
  · intro p x b md hmd _ w1 ih γ r z j as hz h
    rcases List.mem_append.mp hz with hz | hz
    · exact List.mem_append_left _ (ih _ _ z j as hz h)
    · exact nl hz
  · intro p x l b e md hmd _ _ w1 w2 i1 i2 γ r z j as hz h
    rcases List.mem_append.mp hz with hz | hz
    · exact List.mem_append_left _ (i1 _ _ z j as hz h)
    · exact List.mem_append_right _ (i2 _ _ z j as hz h)
theorem cl_P {p e : Nat} (w : PW K y p e) : ∀ (j : Nat) (as : TR) (γ : List Nat) (r : Nat), (.tag 4 (.tag j as), γ, r) ∈ scP y → (j, as) ∈ clP y := by
  refine PW_ind (K := K) (P := fun y p e => ∀ (j : Nat) (as : TR) (γ : List Nat) (r : Nat), (.tag 4 (.tag j as), γ, r) ∈ scP y → (j, as) ∈ clP y) ?_ ?_ (tsz y) y p e (Nat.le_refl _) w
  · intro p cnt x b e0 _ _ _ w1 hb j as γ r hz
    rcases List.mem_append.mp hz with hz | hz
    · exact List.mem_append_left _ (cl_W w1 _ _ _ j as hz rfl)
    · exact absurd hz List.not_mem_nil
  · intro p cnt x r' b e0 e _ _ _ w1 hb _ w2 ih j as γ r hz
    rcases List.mem_append.mp hz with hz | hz
    · exact List.mem_append_left _ (cl_W w1 _ _ _ j as hz rfl)
    · exact List.mem_append_right _ (ih j as γ r hz)
theorem lk_of {j len : Nat} {l : List Nat} : ∀ ft : List (Nat × Nat), pmF V ft j = some l → l.length = len → ∃ i, lkF V ft j len = some (i, l) ∧ idx V (ft.map Prod.fst) j = some i := by
  intro ft
  induction ft with
  | nil => intro h; cases h
  | cons c ft ih =>
    obtain ⟨p, cnt⟩ := c
    intro h hl
    have h : (if V p = V j then some (pms (p + 2) cnt) else pmF V ft j) = some l := h
    show ∃ i, (if V p = V j then (if cnt = len then some (0, pms (p + 2) cnt) else none) else (lkF V ft j len).map (fun z => (z.1 + 1, z.2))) = some (i, l) ∧ (if V p = V j then some 0 else (idx V (ft.map Prod.fst) j).map (· + 1)) = some i
    by_cases c : V p = V j
    · rw [if_pos c] at h
      cases h
      rw [pms_len] at hl
      exact ⟨0, by rw [if_pos c, if_pos hl], if_pos c⟩
    · rw [if_neg c] at h
      obtain ⟨i, h1, h2⟩ := ih h hl
      exact ⟨i + 1, by rw [if_neg c, h1]; rfl, by rw [if_neg c, h2]; rfl⟩
theorem pms_gt : ∀ (k p z : Nat), z < k → (pms p k)[z]? = some (p + 2 * z) := by
  intro k
  induction k with
  | zero => intro p z h; omega
  | succ k ih =>
    intro p z h
    cases z with
    | zero => rfl
    | succ z =>
      show (pms (p + 2) k)[z]? = _
      rw [ih (p + 2) z (by omega), show p + 2 + 2 * z = p + 2 * (z + 1) by omega]
theorem AT_of {x : TR} {b : Nat} : ∀ as : TR, LL as → ∀ (l : List Nat) (z : Nat), agX as z = some x → l[z]? = some b → AT as l (rtk x) b := by
  refine LL_ind (fun l z h => by cases h) (fun p x1 r _ ih l z h hl => ?_)
  cases l with
  | nil => cases hl
  | cons c l =>
    cases z with
    | zero =>
      cases h
      cases hl
      exact .inl ⟨rfl, rfl⟩
    | succ z => exact .inr (ih l z h hl)
theorem ag_rt {x : TR} : ∀ as : TR, LL as → ∀ z, agX as z = some x → z < (rts as).length ∧ rtk x ∈ rts as := by
  refine LL_ind (fun z h => by cases h) (fun p x1 r _ ih z h => ?_)
  cases z with
  | zero =>
    cases h
    exact ⟨Nat.succ_pos _, List.mem_cons_self⟩
  | succ z =>
    obtain ⟨h1, h2⟩ := ih z h
    exact ⟨Nat.succ_lt_succ h1, List.mem_cons_of_mem _ h2⟩
theorem nil_no {x : TR} (h : tpL .nil x) : False := by
  have h : shp .nil := h.2
  rcases h with ⟨j, h⟩ | ⟨j, h⟩ | ⟨j, h⟩ | ⟨j, as, h⟩ | ⟨j, a, b, h⟩ | ⟨j, a, b, c, h⟩ | ⟨j, fs, c, ns, g, h⟩ | ⟨j, a, h⟩ | ⟨j, a, b, h⟩ | ⟨j, a, b, h⟩ | ⟨j, a, b, h⟩ | ⟨j, a, h⟩ <;> cases h
theorem tp_ag {x : TR} : ∀ as : TR, LL as → tpL as x → ∃ z, agX as z = some x := by
  refine LL_ind (fun h => (nil_no h).elim) (fun p x1 r _ ih h => ?_)
  rcases h with h | h
  · exact ⟨0, by rw [← h]; rfl⟩
  · obtain ⟨z, hz⟩ := ih h
    exact ⟨z + 1, hz⟩
theorem tp_rw {x : TR} : ∀ l : TR, LL l → ∀ p e, l = .nil ∨ Wt K l p e 102 → tpL l x → ∃ b, b ∈ tks l ∧ p ≤ b ∧ rwX l b = some x := by
  refine LL_ind (fun p e _ h => (nil_no h).elim) (fun q x1 r hr ih p e w h => ?_)
  rcases w with w | w
  · cases w
  obtain ⟨-, hq, -, b1, w1, w2⟩ := w
  have hlt := Wt_lt w1
  have hif : p ≤ (if (102 : Nat) = 101 then p else p + 2) := by split <;> omega
  have hq : q = p := hq
  rcases h with h | h
  · exact ⟨q, List.mem_cons_self, by omega, by rw [← h]; exact if_pos rfl⟩
  · obtain ⟨b, u1, u2, u3⟩ := ih (b1 + 1) e (by rcases w2 with w2 | w2; exact .inl w2.1; exact .inr w2.2) h
    exact ⟨b, List.mem_cons_of_mem _ u1, by omega, (if_neg (by omega)).trans u3⟩
theorem fnd_no {j : Nat} : ∀ l : List Nat, (fnd V l j).isSome = false → ∀ q, q ∈ l → V q ≠ V j := by
  intro l
  induction l with
  | nil => intro _ q h; exact absurd h List.not_mem_nil
  | cons b l ih =>
    intro h q hq
    have h : (if V b = V j then some b else fnd V l j).isSome = false := h
    by_cases c : V b = V j
    · rw [if_pos c] at h
      cases h
    · rw [if_neg c] at h
      rcases List.mem_cons.mp hq with rfl | hq
      · exact c
      · exact ih h q hq
theorem nx_V {b b' : Nat} (h : V b = V b') : ∀ l : TR, LL l → nxX V l b = nxX V l b' := by
  refine LL_ind rfl (fun p x r _ ih => ?_)
  show (if V p = V b then some x else nxX V r b) = (if V p = V b' then some x else nxX V r b')
  rw [h, ih]
/-- who takes a value behind next -/
theorem tp_nx {S : im_S} {j : Nat} {l : List Nat} {x : TR} : ∀ ns : TR, LL ns → ∀ pre, NsF V l ns pre → GN V S N j l ns → tpL ns x → ∃ p b, (∀ q, q ∈ pre → V q ≠ V p) ∧ fnd V l p = some b ∧ nxX V ns p = some x ∧ S.1 11 (N (rtk x)) = nI (N b) ∧ rl S N (rtk x) 6 j := by
  refine LL_ind (fun pre _ _ h => (nil_no h).elim) (fun p x1 r hr ih pre hN hG h => ?_)
  obtain ⟨n1, n2, n3⟩ := hN
  obtain ⟨⟨b, g1, g2⟩, g3, g4⟩ := hG
  rcases h with h | h
  · subst h
    exact ⟨p, b, fnd_no pre n2, g1, if_pos rfl, g2, g3⟩
  · obtain ⟨p', b', u1, u2, u3, u4, u5⟩ := ih (p :: pre) n3 g4 h
    exact ⟨p', b', fun q hq => u1 q (List.mem_cons_of_mem _ hq), u2, (if_neg (u1 p List.mem_cons_self)).trans u3, u4, u5⟩
theorem fn_uq {p e : Nat} (w : PW K y p e) : ∀ q cnt x cnt' x', (q, cnt, x) ∈ fuP y → (q, cnt', x') ∈ fuP y → cnt = cnt' ∧ x = x' := by
  refine PW_ind (K := K) (P := fun y p e => ∀ q cnt x cnt' x', (q, cnt, x) ∈ fuP y → (q, cnt', x') ∈ fuP y → cnt = cnt' ∧ x = x') ?_ ?_ (tsz y) y p e (Nat.le_refl _) w
  · intro p cnt x b e0 _ _ _ w1 hb q c1 x1 c2 x2 h h'
    have h := List.mem_singleton.mp h
    have h' := List.mem_singleton.mp h'
    cases h
    cases h'
    exact ⟨rfl, rfl⟩
  · intro p cnt x r b e0 e _ _ _ w1 hb _ w2 ih q c1 x1 c2 x2 h h'
    have hlt := Wt_lt w1
    have hge : ∀ {c x}, (q, c, x) ∈ fuP r → e0 + 1 ≤ q := fun {c x} u => ((ft_fu w2).2.1 q (fu_ft w2 u)).1
    rcases List.mem_cons.mp h with h | h
    · rcases List.mem_cons.mp h' with h' | h'
      · cases h
        cases h'
        exact ⟨rfl, rfl⟩
      · cases h
        have := hge h'
        omega
    · rcases List.mem_cons.mp h' with h' | h'
      · cases h'
        have := hge h
        omega
      · exact ih q c1 x1 c2 x2 h h'
/-- a call and its arguments -/
theorem cal_at (C : CGd K pl V y e N M L n ρ τ G) (hG : ∀ z, z ∈ scP y → GdN K V (ftP y) z) (hAs : ∀ j as γ r, (.tag 4 (.tag j as), γ, r) ∈ scP y → LL as) {j : Nat} {as : TR} {γ : List Nat} {r : Nat} (hz : (.tag 4 (.tag j as), γ, r) ∈ scP y) : ∃ i p cnt xf, idx V ((ftP y).map Prod.fst) j = some i ∧ (fuP y)[i]? = some (p, cnt, xf) ∧ V p = V j ∧ G.1 13 (N j) = nI i ∧ ∀ z x, agX as z = some x → z < cnt ∧ G.1 11 (N (rtk x)) = nI (N (p + 2 + 2 * z)) ∧ rl G N (rtk x) 5 j := by
  obtain ⟨l, g1, g2, g3⟩ := hG _ hz
  obtain ⟨i, p, cnt, xf, v1, v2, v3, v4⟩ := pm_fu C.1 j l g1
  obtain ⟨i', u1, u2⟩ := lk_of (ftP y) g1 g2
  have hcl := cl_P C.1 j as γ r hz
  obtain ⟨w1, w2⟩ := C.2.2.2.2.2.2.2.2.2.2.2.2.2.2 (j, as) hcl i' l u1
  rw [v1] at u2
  cases u2
  have hLL := hAs _ _ _ _ hz
  obtain ⟨-, -, hGA⟩ := cn_P C _ hz
  refine ⟨i, p, cnt, xf, v1, v2, v4, w1, fun z x q => ?_⟩
  obtain ⟨a1, a2⟩ := ag_rt as hLL z q
  have hzc : z < cnt := by
    rw [← g2, v3, pms_len] at a1
    exact a1
  refine ⟨hzc, w2 _ _ (AT_of as hLL l z q ?_), GA_rt (tsz as) as (Nat.le_refl _) hGA _ a2⟩
  rw [v3]
  exact pms_gt cnt (p + 2) z hzc
end CHL
