/-! the slots of nodes and variables in the class's graph -/
def SLy (G : im_S) (n τ : Nat) (sl tO sO kO : Nat → Nat) : Prop := (∀ t : Nat, t < τ → G.1 28 t = nI (sl t)) ∧ sm sl τ ≤ 500 ∧ (∀ k : Nat, k < n → G.1 7 k = nI (kO k) ∧ kO k < 100 ∧ G.1 17 k = nI (tO k) ∧ tO k < τ ∧ G.1 18 k = nI (sO k) ∧ sO k + wk (kO k) ≤ sl (tO k)) ∧ ∀ k k' : Nat, k < k' → k' < n → tO k = tO k' → sO k + wk (kO k) ≤ sO k' ∨ sO k' + wk (kO k') ≤ sO k
/-- the kinds of the class's nodes -/
def kdN : TR → Nat
  | .tag 1 _ => 1
  | .tag 2 _ => 1
  | .tag 3 _ => 2
  | .tag 4 _ => 8
  | .tag 5 _ => 11
  | .tag 6 _ => 7
  | .tag 7 _ => 9
  | .tag 8 _ => 4
  | .tag 9 _ => 5
  | .tag 10 _ => 6
  | .tag 11 _ => 10
  | _ => 0
/-- a variable of the frame F -/
def VT (V : Nat → Int64) (y : TR) (F : TPth) (b : Nat) : Prop :=
  (∃ p cnt x z, (p, cnt, x) ∈ fuP y ∧ z < cnt ∧ b = p + 2 + 2 * z ∧ hdR F = 4 * p) ∨
  (∃ j x x' γ r P, (.tag 5 (.tag j (.append x x')), γ, r) ∈ scP y ∧ b = j + 1 ∧ POk V y P ∧ hdR P = r ∧ F = fpt y P) ∨
  (∃ j fs c ns g γ r, (.tag 7 (.tag j (.append fs (.append c (.append ns g)))), γ, r) ∈ scP y ∧ b ∈ tks fs ∧ ((nxX V ns b ≠ none ∧ hdR F = 4 * j) ∨ (nxX V ns b = none ∧ ∃ P, POk V y P ∧ hdR P = r ∧ F = fpt y P))) ∨
  (∃ j x x' γ r, (.tag 11 (.tag j (.append x x')), γ, r) ∈ scP y ∧ (b = j + 3 ∨ b = j + 1) ∧ hdR F = 4 * j)
section SLS
variable {K pl : Nat → Nat} {V : Nat → Int64} {y : TR} {e : Nat} {N M L : Nat → Nat} {n ρ τ : Nat} {G : im_S} {sl tO sO kO : Nat → Nat}
theorem SLy_ex (C : CGd K pl V y e N M L n ρ τ G) : ∃ sl tO sO kO, SLy G n τ sl tO sO kO := by
  obtain ⟨sl, tO, sO, kO, a1, a2, a3, a4, a5, a6⟩ := C.2.2.2.2.2.2.2.2.1
  exact ⟨sl, tO, sO, kO, a1, a2, a5, a6⟩
theorem nd_P (C : CGd K pl V y e N M L n ρ τ G) {z : TR × List Nat × Nat} (hz : z ∈ scP y) (hb : rtk z.1 = otk z.1) : N (otk z.1) < N (otk z.1 + 1) ∧ G.1 7 (N (otk z.1)) = nI (kdN z.1) ∧ G.1 17 (N (otk z.1)) = G.1 27 (Rg M z.2.2) ∧ otk z.1 < e := by
  have hc := cn_P C z hz
  obtain ⟨⟨p', e', wz⟩, hs, -⟩ := (tl_P C.1) z hz
  have ho := ((ou_P C.1).1 z hz).2
  obtain ⟨x, γ, r⟩ := z
  have hs : shp x := hs
  rcases hs with ⟨j, rfl⟩ | ⟨j, rfl⟩ | ⟨j, rfl⟩ | ⟨j, as, rfl⟩ | ⟨j, a, b, rfl⟩ | ⟨j, a, b, d, rfl⟩ | ⟨j, fs, d, ns, g, rfl⟩ | ⟨j, a, rfl⟩ | ⟨j, a, b, rfl⟩ | ⟨j, a, b, rfl⟩ | ⟨j, a, b, rfl⟩ | ⟨j, a, rfl⟩
  · obtain ⟨h1, h2, h3, h4, h5, h6⟩ := hc
    exact ⟨h1, h2, h5, ho⟩
  · obtain ⟨h1, h2, h3, h4, h5, h6⟩ := hc
    exact ⟨h1, h2, h5, ho⟩
  · obtain ⟨⟨h1, h2, h3, h4, h5, h6⟩, -⟩ := hc
    exact ⟨h1, h2, h5, ho⟩
  · obtain ⟨⟨h1, h2, h3, h4, h5, h6⟩, -⟩ := hc
    exact ⟨h1, h2, h5, ho⟩
  · obtain ⟨⟨h1, h2, h3, h4, h5, h6⟩, -⟩ := hc
    exact ⟨h1, h2, h5, ho⟩
  · obtain ⟨⟨h1, h2, h3, h4, h5, h6⟩, -⟩ := hc
    exact ⟨h1, h2, h5, ho⟩
  · obtain ⟨⟨h1, h2, h3, h4, h5, h6⟩, -⟩ := hc
    exact ⟨h1, h2, h5, ho⟩
  · obtain ⟨⟨h1, h2, h3, h4, h5, h6⟩, -⟩ := hc
    exact ⟨h1, h2, h5, ho⟩
  · obtain ⟨⟨h1, h2, h3, h4, h5, h6⟩, -⟩ := hc
    exact ⟨h1, h2, h5, ho⟩
  · obtain ⟨⟨h1, h2, h3, h4, h5, h6⟩, -⟩ := hc
    exact ⟨h1, h2, h5, ho⟩
  · obtain ⟨⟨h1, h2, h3, h4, h5, h6⟩, -⟩ := hc
    exact ⟨h1, h2, h5, ho⟩
  · obtain ⟨hj, bb, w1, -⟩ := wz
    have := Wt_rt w1
    have hb : rtk a = j := hb
    omega
theorem nx_fnd {b : Nat} : ∀ l : TR, LL l → ((fnd V (tks l) b).isSome = true ↔ nxX V l b ≠ none) := by
  refine LL_ind ⟨fun h => (by cases h), fun h => absurd rfl h⟩ (fun p x r _ ih => ?_)
  show (if V p = V b then some p else fnd V (tks r) b).isSome = true ↔ (if V p = V b then some x else nxX V r b) ≠ none
  by_cases c : V p = V b
  · rw [if_pos c, if_pos c]
    exact ⟨fun _ => Option.some_ne_none _, fun _ => rfl⟩
  · rw [if_neg c, if_neg c]
    exact ih
/-- what the graph has of a first value -/
def GFc (V : Nat → Int64) (S : im_S) (N L : Nat → Nat) (j R : Nat) (o : TR) (p : Nat) (x : TR) : Prop := vr V S N p ∧ N (rtk x) < N (rtk x + 1) ∧ S.1 10 (N p) = nI (N j) ∧ S.1 12 (N p) = nI (N (rtk x)) ∧ S.1 10 (N (rtk x)) = nI (N j) ∧ S.1 11 (N (rtk x)) = nI (N p) ∧ (nxX V o p ≠ none → S.1 9 (N (rtk x)) = 5 ∧ S.1 17 (N p) = nI (L j)) ∧ (nxX V o p = none → S.1 9 (N (rtk x)) = 4 ∧ S.1 17 (N p) = S.1 27 R)
theorem GF_at {j R : Nat} {o : TR} (ho : LL o) {S : im_S} {b : Nat} : ∀ l : TR, LL l → GF V S N L j R o l → b ∈ tks l → ∃ x, rwX l b = some x ∧ GFc V S N L j R o b x := by
  refine LL_ind (fun _ h => absurd h List.not_mem_nil) (fun p x r _ ih h hb => ?_)
  obtain ⟨⟨h1, h2, h3, h4, h5, h6, h7, h8⟩, hr⟩ := h
  by_cases c : p = b
  · subst c
    refine ⟨x, if_pos rfl, h1, h2, h3, h4, h6, h7, fun q => ?_, fun q => ?_⟩
    · rw [if_pos ((nx_fnd o ho).mpr q)] at h8
      exact ⟨h8.2.1, h8.2.2⟩
    · rw [if_neg (fun q' => (nx_fnd o ho).mp q' q)] at h8
      exact ⟨h8.2.1, h8.2.2⟩
  · rcases List.mem_cons.mp hb with q | q
    · exact absurd q.symm c
    · obtain ⟨x', u1, u2⟩ := ih hr q
      exact ⟨x', (if_neg c).trans u1, u2⟩
theorem fu_rg {p e : Nat} (w : PW K y p e) : ∀ q cnt x, (q, cnt, x) ∈ fuP y → q + 2 + 2 * cnt ≤ e := by
  refine PW_ind (K := K) (P := fun y p e => ∀ q cnt x, (q, cnt, x) ∈ fuP y → q + 2 + 2 * cnt ≤ e) ?_ ?_ (tsz y) y p e (Nat.le_refl _) w
  · intro p cnt x b e0 _ _ _ w1 hb q c' x' h
    have := Wt_lt w1
    have h := List.mem_singleton.mp h
    cases h
    omega
  · intro p cnt x r b e0 e _ _ _ w1 hb _ w2 ih q c' x' h
    have := Wt_lt w1
    have := PW_lt w2
    rcases List.mem_cons.mp h with h | h
    · cases h
      omega
    · exact ih q c' x' h
theorem pms_of : ∀ (k p z : Nat), z < k → p + 2 * z ∈ pms p k := by
  intro k
  induction k with
  | zero => intro p z h; omega
  | succ k ih =>
    intro p z h
    cases z with
    | zero => exact List.mem_cons_self
    | succ z =>
      have := ih (p + 2) z (by omega)
      rw [show p + 2 + 2 * z = p + 2 * (z + 1) by omega] at this
      exact List.mem_cons_of_mem _ this
/-- a variable's node -/
theorem VT_nd (C : CGd K pl V y e N M L n ρ τ G) (hL : ∀ j fs c ns g γ r, (.tag 7 (.tag j (.append fs (.append c (.append ns g)))), γ, r) ∈ scP y → LL fs ∧ LL ns) {F : TPth} {b : Nat} (h : VT V y F b) : N b < N (b + 1) ∧ b < e ∧ G.1 7 (N b) = 3 ∧ G.1 17 (N b) = nI (L (hdR F / 4)) := by
  have w := C.1
  rcases h with ⟨p, cnt, x, z, h1, h2, h3, h4⟩ | ⟨j, x, x', γ, r, P, h1, h2, h3, h4, h5⟩ | ⟨j, fs, c, ns, g, γ, r, h1, h2, h3⟩ | ⟨j, x, x', γ, r, h1, h2, h3⟩
  · obtain ⟨i, hi⟩ := List.getElem?_of_mem h1
    obtain ⟨-, -, -, -, -, -, -, -, f9, -⟩ := cf_P C hi
    have hb := f9 b (by rw [h3]; exact pms_of cnt (p + 2) z h2)
    have := fu_rg w p cnt x h1
    refine ⟨hb.1.1, by omega, hb.1.2.1, ?_⟩
    rw [hb.2, h4, show 4 * p / 4 = p by omega]
  · obtain ⟨-, f2, f3, -⟩ := cn_P C _ h1
    obtain ⟨⟨p', e', wz⟩, -, htr⟩ := (tl_P w) _ h1
    obtain ⟨hj, -, bb, w1, w2⟩ := wz
    have o1 := Wt_ot w1
    have hx := htr _ (mc _ (ml _ (hd_in w1 _ _)))
    have o2 := ((ou_P w).1 _ hx).2
    subst h2
    refine ⟨f2.1, ?_, f2.2.1, ?_⟩
    · have o2 : otk x < e := o2
      omega
    · rw [f3, h5]
      have := (tp_P C P h3).1
      rw [h4] at this
      exact this
  · obtain ⟨-, -, -, -, -, -, -, -, -, -, -, -, -, -, -, f16, -⟩ := cn_P C _ h1
    obtain ⟨⟨p', e', wz⟩, -, htr⟩ := (tl_P w) _ h1
    obtain ⟨hj, b1, d1, f1, n1, n2, w1, w2, w3, w4⟩ := wz
    have hc := htr _ (mc _ (mr _ (ml _ (hd_in w2 _ _))))
    have o1 := Wt_ot w2
    have o2 : otk c < e := ((ou_P w).1 _ hc).2
    have o3 := tks_in w1 b h2
    obtain ⟨l1, l2⟩ := hL _ _ _ _ _ _ _ h1
    obtain ⟨x, u1, v1, v2, v3, v4, v5, v6, v7, v8⟩ := GF_at l2 fs l1 f16 h2
    refine ⟨v1.1, by omega, v1.2.1, ?_⟩
    rcases h3 with ⟨h3, h4⟩ | ⟨h3, P, h4, h5, h6⟩
    · rw [(v7 h3).2, h4, show 4 * j / 4 = j by omega]
    · rw [(v8 h3).2, h6]
      have := (tp_P C P h4).1
      rw [h5] at this
      exact this
  · obtain ⟨-, -, -, -, f5, f6, -, -, -, -, -, -, -, f14, f15, -⟩ := cn_P C _ h1
    obtain ⟨⟨p', e', wz⟩, -, htr⟩ := (tl_P w) _ h1
    obtain ⟨hj, -, -, bb, w1, w2⟩ := wz
    have hx := htr _ (mc _ (ml _ (hd_in w1 _ _)))
    have o1 := Wt_ot w1
    have o2 : otk x < e := ((ou_P w).1 _ hx).2
    rcases h2 with h2 | h2
    · subst h2
      refine ⟨f6.1, by omega, f6.2.1, ?_⟩
      rw [f15, h3, show 4 * j / 4 = j by omega]
    · subst h2
      refine ⟨f5.1, by omega, f5.2.1, ?_⟩
      rw [f14, h3, show 4 * j / 4 = j by omega]
/-- a token that has a node in the frame's template -/
def TkF (N L : Nat → Nat) (e : Nat) (tO : Nat → Nat) (F : TPth) (t : Nat) : Prop := N t < N (t + 1) ∧ t < e ∧ tO (N t) = L (hdR F / 4)
theorem tk_n (C : CGd K pl V y e N M L n ρ τ G) (hS : SLy G n τ sl tO sO kO) {z : TR × List Nat × Nat} (hz : z ∈ scP y) (hb : rtk z.1 = otk z.1) {P : TPth} (hP : POk V y P) (hr : z.2.2 = hdR P) : TkF N L e tO (fpt y P) (otk z.1) ∧ kO (N (otk z.1)) = kdN z.1 := by
  obtain ⟨h1, h2, h3, h4⟩ := nd_P C hz hb
  have hn : N (otk z.1) < n := by
    have := Nt_lt C.2.1 h1 h4
    rw [C.2.2.1] at this
    exact this
  obtain ⟨k1, k2, k3, k4, k5, k6⟩ := hS.2.2.1 _ hn
  have hLt := (dp_P C P hP).2.2
  have ht := (tp_P C P hP).1
  have hτ := C.2.2.2.2.2.2.1
  have hkd : kdN z.1 < 100 := by
    have hs := ((tl_P C.1) z hz).2.1
    obtain ⟨x, γ, r⟩ := z
    have hs : shp x := hs
    rcases hs with ⟨j, rfl⟩ | ⟨j, rfl⟩ | ⟨j, rfl⟩ | ⟨j, as, rfl⟩ | ⟨j, a, b, rfl⟩ | ⟨j, a, b, d, rfl⟩ | ⟨j, fs, d, ns, g, rfl⟩ | ⟨j, a, rfl⟩ | ⟨j, a, b, rfl⟩ | ⟨j, a, b, rfl⟩ | ⟨j, a, b, rfl⟩ | ⟨j, a, rfl⟩ <;> exact Nat.le_of_ble_eq_true rfl
  refine ⟨⟨h1, h4, ?_⟩, ?_⟩
  · rw [k3, hr] at h3
    exact (nI_eq (by omega) (by omega)).mp (h3.trans ht)
  · exact (nI_eq (by omega) (by omega)).mp (k1.symm.trans h2)
theorem tk_v (C : CGd K pl V y e N M L n ρ τ G) (hS : SLy G n τ sl tO sO kO) (hL : ∀ j fs c ns g γ r, (.tag 7 (.tag j (.append fs (.append c (.append ns g)))), γ, r) ∈ scP y → LL fs ∧ LL ns) {F : TPth} {b : Nat} (h : VT V y F b) (hF : POk V y F) (hi : ifr y (hdR F)) : TkF N L e tO F b ∧ kO (N b) = 3 := by
  obtain ⟨h1, h2, h3, h4⟩ := VT_nd C hL h
  have hn : N b < n := by
    have := Nt_lt C.2.1 h1 h2
    rw [C.2.2.1] at this
    exact this
  obtain ⟨k1, k2, k3, k4, k5, k6⟩ := hS.2.2.1 _ hn
  have hfF : fpt y F = F := by
    cases F with
    | nil => exact hF.elim
    | cons c Q => exact fpt_y hi
  have hLt := (dp_P C F hF).2.2
  rw [hfF] at hLt
  have hτ := C.2.2.2.2.2.2.1
  refine ⟨⟨h1, h2, (nI_eq (by omega) (by omega)).mp (k3.symm.trans h4)⟩, (nI_eq (by omega) (by omega)).mp (k1.symm.trans h3)⟩
theorem tk_sl (C : CGd K pl V y e N M L n ρ τ G) (hS : SLy G n τ sl tO sO kO) {F : TPth} {t : Nat} (h : TkF N L e tO F t) : sO (N t) + wk (kO (N t)) ≤ sl (L (hdR F / 4)) ∧ N t < 500 ∧ G.1 18 (N t) = nI (sO (N t)) ∧ G.1 17 (N t) = nI (L (hdR F / 4)) ∧ L (hdR F / 4) < τ := by
  obtain ⟨h1, h2, h3⟩ := h
  have hn : N t < n := by
    have := Nt_lt C.2.1 h1 h2
    rw [C.2.2.1] at this
    exact this
  obtain ⟨k1, k2, k3, k4, k5, k6⟩ := hS.2.2.1 _ hn
  rw [← h3]
  have := C.2.2.2.2.2.1
  exact ⟨k6, by omega, k5, k3, k4⟩
/-- slots of one template are different -/
theorem tk_inj (C : CGd K pl V y e N M L n ρ τ G) (hS : SLy G n τ sl tO sO kO) {F : TPth} {t t' d d' : Nat} (h : TkF N L e tO F t) (h' : TkF N L e tO F t') (hd : d < wk (kO (N t))) (hd' : d' < wk (kO (N t'))) (q : sO (N t) + d = sO (N t') + d') : t = t' ∧ d = d' := by
  obtain ⟨h1, h2, h3⟩ := h
  obtain ⟨h1', h2', h3'⟩ := h'
  have hn : N t < n := by
    have := Nt_lt C.2.1 h1 h2
    rw [C.2.2.1] at this
    exact this
  have hn' : N t' < n := by
    have := Nt_lt C.2.1 h1' h2'
    rw [C.2.2.1] at this
    exact this
  rcases Nat.lt_trichotomy (N t) (N t') with c | c | c
  · rcases hS.2.2.2 _ _ c hn' (h3.trans h3'.symm) with u | u
    · omega
    · omega
  · have := Nt_inj C.2.1 h1 h1' h2 h2' c
    subst this
    exact ⟨rfl, by omega⟩
  · rcases hS.2.2.2 _ _ c hn (h3'.trans h3.symm) with u | u
    · omega
    · omega
theorem VT_no (C : CGd K pl V y e N M L n ρ τ G) (hL : ∀ j fs c ns g γ r, (.tag 7 (.tag j (.append fs (.append c (.append ns g)))), γ, r) ∈ scP y → LL fs ∧ LL ns) {F : TPth} {b : Nat} (h : VT V y F b) {z : TR × List Nat × Nat} (hz : z ∈ scP y) (hb : rtk z.1 = otk z.1) : otk z.1 ≠ b := fun q => by
  obtain ⟨-, -, h3, -⟩ := VT_nd C hL h
  obtain ⟨-, h2, -, -⟩ := nd_P C hz hb
  rw [q, h3] at h2
  have hs := ((tl_P C.1) z hz).2.1
  obtain ⟨x, γ, r⟩ := z
  have hs : shp x := hs
  rcases hs with ⟨j, rfl⟩ | ⟨j, rfl⟩ | ⟨j, rfl⟩ | ⟨j, as, rfl⟩ | ⟨j, a, b, rfl⟩ | ⟨j, a, b, d, rfl⟩ | ⟨j, fs, d, ns, g, rfl⟩ | ⟨j, a, rfl⟩ | ⟨j, a, b, rfl⟩ | ⟨j, a, b, rfl⟩ | ⟨j, a, b, rfl⟩ | ⟨j, a, rfl⟩ <;> first | exact absurd h2 (show ¬ (3 : Int32) = nI 1 by decide) | exact absurd h2 (show ¬ (3 : Int32) = nI 2 by decide) | exact absurd h2 (show ¬ (3 : Int32) = nI 8 by decide) | exact absurd h2 (show ¬ (3 : Int32) = nI 11 by decide) | exact absurd h2 (show ¬ (3 : Int32) = nI 7 by decide) | exact absurd h2 (show ¬ (3 : Int32) = nI 9 by decide) | exact absurd h2 (show ¬ (3 : Int32) = nI 4 by decide) | exact absurd h2 (show ¬ (3 : Int32) = nI 5 by decide) | exact absurd h2 (show ¬ (3 : Int32) = nI 6 by decide) | exact absurd h2 (show ¬ (3 : Int32) = nI 10 by decide) | exact absurd h2 (show ¬ (3 : Int32) = nI 0 by decide)
theorem VT_B {P F : TPth} {z : TR × List Nat × Nat} {b : Nat} (hs : shp z.1) (hz : z ∈ scP y) (hr : z.2.2 = hdR P) (hP : POk V y P) (h : Bnd V y P z F b) : VT V y F b := by
  obtain ⟨x, γ, r⟩ := z
  have hs : shp x := hs
  rcases hs with ⟨j, rfl⟩ | ⟨j, rfl⟩ | ⟨j, rfl⟩ | ⟨j, as, rfl⟩ | ⟨j, a, b1, rfl⟩ | ⟨j, a, b1, c, rfl⟩ | ⟨j, fs, c, ns, g, rfl⟩ | ⟨j, a, rfl⟩ | ⟨j, a, b1, rfl⟩ | ⟨j, a, b1, rfl⟩ | ⟨j, a, b1, rfl⟩ | ⟨j, a, rfl⟩
  · exact h.elim
  · exact h.elim
  · exact h.elim
  · obtain ⟨i, p, cnt, xf, zf, u1, u2, u3, u4, u5⟩ := h
    exact .inl ⟨p, cnt, xf, zf, List.mem_of_getElem? u2, u3, u5, by rw [u4]; rfl⟩
  · exact .inr (.inl ⟨j, a, b1, γ, r, P, hz, h.2, hP, hr.symm, h.1⟩)
  · exact h.elim
  · refine .inr (.inr (.inl ⟨j, fs, c, ns, g, γ, r, hz, h.1, ?_⟩))
    rcases h.2 with ⟨q1, i, q2⟩ | ⟨q1, q2⟩
    · exact .inl ⟨q1, by rw [q2]; rfl⟩
    · exact .inr ⟨q1, P, hP, hr.symm, q2⟩
  · exact h.elim
  · exact h.elim
  · exact h.elim
  · obtain ⟨h1, i, h2⟩ := h
    exact .inr (.inr (.inr ⟨j, a, b1, γ, r, hz, h1, by rw [h2]; rfl⟩))
  · exact h.elim
end SLS
