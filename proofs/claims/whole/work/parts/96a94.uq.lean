/-! who takes a value: only one -/
def PLq (l : List (TR × List Nat × Nat)) (R T : Nat → Prop) : Prop := (∀ t, T t → R t) ∧ (∀ z k x1 r1, z ∈ l → Chd z k x1 r1 → R (rtk x1) ∧ ¬ T (rtk x1)) ∧ ∀ z z' k k' x1 x1' r1 r1', z ∈ l → z' ∈ l → Chd z k x1 r1 → Chd z' k' x1' r1' → rtk x1 = rtk x1' → otk z.1 = otk z'.1
section PLS
variable {K : Nat → Nat} {V : Nat → Int64} {y : TR} {e0 : Nat}
theorem pl_nil : PLq [] (fun _ => False) (fun _ => False) := ⟨fun _ h => h, fun _ _ _ _ h => absurd h List.not_mem_nil, fun _ _ _ _ _ _ _ _ h => absurd h List.not_mem_nil⟩
theorem pl_ap {l1 l2 : List (TR × List Nat × Nat)} {R1 T1 R2 T2 : Nat → Prop} (h1 : PLq l1 R1 T1) (h2 : PLq l2 R2 T2) (hd : ∀ t, R1 t → ¬ R2 t) : PLq (l1 ++ l2) (fun t => R1 t ∨ R2 t) (fun t => T1 t ∨ T2 t) := by
  refine ⟨fun t q => q.imp (h1.1 t) (h2.1 t), fun z k x1 r1 hz hc => ?_, fun z z' k k' x1 x1' r1 r1' hz hz' hc hc' he => ?_⟩
  · rcases List.mem_append.mp hz with hz | hz
    · obtain ⟨a, b⟩ := h1.2.1 z k x1 r1 hz hc
      exact ⟨.inl a, fun q => q.elim b (fun q => hd _ a (h2.1 _ q))⟩
    · obtain ⟨a, b⟩ := h2.2.1 z k x1 r1 hz hc
      exact ⟨.inr a, fun q => q.elim (fun q => hd _ (h1.1 _ q) a) b⟩
  · rcases List.mem_append.mp hz with hz | hz
    · rcases List.mem_append.mp hz' with hz' | hz'
      · exact h1.2.2 z z' k k' x1 x1' r1 r1' hz hz' hc hc' he
      · have a := (h1.2.1 z k x1 r1 hz hc).1
        have b := (h2.2.1 z' k' x1' r1' hz' hc').1
        rw [he] at a
        exact absurd b (hd _ a)
    · rcases List.mem_append.mp hz' with hz' | hz'
      · have a := (h2.2.1 z k x1 r1 hz hc).1
        have b := (h1.2.1 z' k' x1' r1' hz' hc').1
        rw [he] at a
        exact absurd a (hd _ b)
      · exact h2.2.2 z z' k k' x1 x1' r1 r1' hz hz' hc hc' he
theorem pl_cg {l : List (TR × List Nat × Nat)} {R T R' T' : Nat → Prop} (h : PLq l R T) (hR : ∀ t, R t → R' t) (hT : ∀ t, T' t ↔ T t) : PLq l R' T' := by
  refine ⟨fun t q => hR t (h.1 t ((hT t).mp q)), fun z k x1 r1 hz hc => ?_, h.2.2⟩
  obtain ⟨a, b⟩ := h.2.1 z k x1 r1 hz hc
  exact ⟨hR _ a, fun q => b ((hT _).mp q)⟩
theorem pl_hd {X : TR} {γ : List Nat} {r p e : Nat} {l : List (TR × List Nat × Nat)} {R T : Nat → Prop} (h : PLq l R T) (hs : sbc X γ r = (X, γ, r) :: l) (hp : shp X) (hc : ∀ k x1 r1, Chd (X, γ, r) k x1 r1 → T (rtk x1)) (hR : ∀ t, R t → p ≤ t ∧ t < e) (h0 : p ≤ rtk X ∧ rtk X < e) (hn : ¬ R (rtk X)) : PLq (sbc X γ r) (fun t => p ≤ t ∧ t < e) (fun t => ∃ x', tpL X x' ∧ rtk x' = t) := by
  have ht : ∀ t, (∃ x', tpL X x' ∧ rtk x' = t) ↔ t = rtk X := fun t => ⟨fun ⟨x', q1, q2⟩ => by rw [← q2, ← tp_x hp q1], fun q => ⟨X, tp_s hp, q.symm⟩⟩
  rw [hs]
  refine pl_cg (R := fun t => p ≤ t ∧ t < e) (T := fun t => t = rtk X) ⟨fun t q => by rw [q]; exact h0, fun z k x1 r1 hz hk => ?_, fun z z' k k' x1 x1' r1 r1' hz hz' hk hk' he => ?_⟩ (fun _ q => q) ht
  · rcases List.mem_cons.mp hz with rfl | hz
    · have a := h.1 _ (hc k x1 r1 hk)
      exact ⟨hR _ a, fun q => hn (by rw [← q]; exact a)⟩
    · obtain ⟨a, b⟩ := h.2.1 z k x1 r1 hz hk
      exact ⟨hR _ a, fun q => hn (by rw [← q]; exact a)⟩
  · rcases List.mem_cons.mp hz with rfl | hz
    · rcases List.mem_cons.mp hz' with rfl | hz'
      · rfl
      · have a := hc k x1 r1 hk
        rw [he] at a
        exact absurd a (h.2.1 z' k' x1' r1' hz' hk').2
    · rcases List.mem_cons.mp hz' with rfl | hz'
      · have a := hc k' x1' r1' hk'
        rw [← he] at a
        exact absurd a (h.2.1 z k x1 r1 hz hk).2
      · exact h.2.2 z z' k k' x1 x1' r1 r1' hz hz' hk hk' he
def tpT (x : TR) (t : Nat) : Prop := ∃ x', tpL x x' ∧ rtk x' = t
theorem tpT_s {x : TR} {p e : Nat} (w : Wt K x p e 0) : tpT x (rtk x) := ⟨x, tp_s (W_shp w), rfl⟩
theorem pr_W {x : TR} {p e md : Nat} (w : Wt K x p e md) : ∀ (γ : List Nat) (r : Nat), PLq (sbc x γ r) (fun t => p ≤ t ∧ t < e) (tpT x) := by
  have nf : ∀ {Q : Prop}, False → Q := fun h => h.elim
  refine Wt_ind (K := K) (P := fun x p e md => ∀ (γ : List Nat) (r : Nat), PLq (sbc x γ r) (fun t => p ≤ t ∧ t < e) (tpT x)) ?_ ?_ ?_ ?_ ?_ ?_ ?_ ?_ ?_ ?_ ?_ ?_ ?_ ?_ ?_ (tsz x) x p e md (Nat.le_refl _) w
  · intro p md _ γ r; exact pl_hd pl_nil rfl (.inl ⟨_, rfl⟩) (fun k x1 r1 q => q.elim) (fun t q => q.elim) ⟨Nat.le_refl p, Nat.lt_succ_self p⟩ id
  · intro p md _ γ r; exact pl_hd pl_nil rfl (.inr (.inl ⟨_, rfl⟩)) (fun k x1 r1 q => q.elim) (fun t q => q.elim) ⟨Nat.le_refl p, Nat.lt_succ_self p⟩ id
  · intro p md _ γ r; exact pl_hd pl_nil rfl (.inr (.inr (.inl ⟨_, rfl⟩))) (fun k x1 r1 q => q.elim) (fun t q => q.elim) ⟨Nat.le_refl p, Nat.lt_succ_self p⟩ id
  · intro p md _ γ r
    refine pl_hd (X := aCal p .nil) pl_nil rfl (.inr (.inr (.inr (.inl ⟨_, _, rfl⟩)))) (fun k x1 r1 q => ?_) (fun t q => q.elim) ⟨Nat.le_refl p, show p < p + 3 by omega⟩ id
    have q : tpL .nil x1 := q.2.1
    have q1 : shp .nil := q.2
    rcases q1 with ⟨j, h⟩ | ⟨j, h⟩ | ⟨j, h⟩ | ⟨j, as, h⟩ | ⟨j, a, b, h⟩ | ⟨j, a, b, c, h⟩ | ⟨j, fs, c, ns, g, h⟩ | ⟨j, a, h⟩ | ⟨j, a, b, h⟩ | ⟨j, a, b, h⟩ | ⟨j, a, b, h⟩ | ⟨j, a, h⟩ <;> cases h
  · intro p as b md _ _ w1 ih γ r
    have := Wt_lt w1
    exact pl_hd (X := aCal p as) (ih γ r) rfl (.inr (.inr (.inr (.inl ⟨_, _, rfl⟩)))) (fun k x1 r1 q => ⟨x1, q.2.1, rfl⟩) (fun t q => by omega) ⟨Nat.le_refl p, show p < b + 1 by omega⟩ (show ¬ (p + 2 ≤ p ∧ p < b) by omega)
  · intro p x y b e md _ w1 w2 i1 i2 γ r
    have := Wt_lt w1
    have := Wt_lt w2
    refine pl_hd (X := aLet p x y) (pl_ap (i1 _ _) (i2 _ _) (fun t q1 q2 => by omega)) rfl (.inr (.inr (.inr (.inr (.inl ⟨_, _, _, rfl⟩))))) (fun k x1 r1 q => ?_) (fun t q => by omega) ⟨Nat.le_refl p, show p < e by omega⟩ (show ¬ ((p + 3 ≤ p ∧ p < b) ∨ (b + 1 ≤ p ∧ p < e)) by omega)
    rcases q with ⟨-, q, -⟩ | ⟨-, q, -⟩
    · rw [q]; exact .inl (tpT_s w1)
    · rw [q]; exact .inr (tpT_s w2)
  · intro p x y z b c e md w1 w2 w3 i1 i2 i3 γ r
    have := Wt_lt w1
    have := Wt_lt w2
    have := Wt_lt w3
    refine pl_hd (X := aIf p x y z) (pl_ap (i1 _ _) (pl_ap (i2 _ _) (i3 _ _) (fun t q1 q2 => by omega)) (fun t q1 q2 => by omega)) rfl (.inr (.inr (.inr (.inr (.inr (.inl ⟨_, _, _, _, rfl⟩)))))) (fun k x1 r1 q => ?_) (fun t q => by omega) ⟨Nat.le_refl p, show p < e by omega⟩ (show ¬ ((p + 1 ≤ p ∧ p < b) ∨ (b + 1 ≤ p ∧ p < c) ∨ (c + 1 ≤ p ∧ p < e)) by omega)
    rcases q with ⟨-, q, -⟩ | ⟨-, q, -⟩ | ⟨-, q, -⟩
    · rw [q]; exact .inl (tpT_s w1)
    · rw [q]; exact .inr (.inl (tpT_s w2))
    · rw [q]; exact .inr (.inr (tpT_s w3))
  · intro p fs c ns g b d f e md _ _ w1 w2 w3 w4 i1 i2 i3 i4 γ r
    have := Wt_lt w1
    have := Wt_lt w2
    have := Wt_lt w3
    have := Wt_lt w4
    refine pl_hd (X := aLoop p fs c ns g) (pl_ap (i1 _ _) (pl_ap (i2 _ _) (pl_ap (i3 _ _) (i4 _ _) (fun t q1 q2 => by omega)) (fun t q1 q2 => by omega)) (fun t q1 q2 => by omega)) rfl (.inr (.inr (.inr (.inr (.inr (.inr (.inl ⟨_, _, _, _, _, rfl⟩))))))) (fun k x1 r1 q => ?_) (fun t q => by omega) ⟨Nat.le_refl p, show p < e by omega⟩ (show ¬ ((p + 1 ≤ p ∧ p < b) ∨ (b + 1 ≤ p ∧ p < d) ∨ (d + 1 ≤ p ∧ p < f) ∨ (f + 1 ≤ p ∧ p < e)) by omega)
    rcases q with ⟨-, q, -⟩ | ⟨-, q, -⟩ | ⟨-, q, -⟩ | ⟨-, q, -⟩
    · exact .inl ⟨x1, q, rfl⟩
    · rw [q]; exact .inr (.inl (tpT_s w2))
    · exact .inr (.inr (.inl ⟨x1, q, rfl⟩))
    · rw [q]; exact .inr (.inr (.inr (tpT_s w4)))
  · intro p x e md _ w1 ih γ r
    have := Wt_lt w1
    refine pl_hd (X := aSig p x) (ih γ r) rfl (.inr (.inr (.inr (.inr (.inr (.inr (.inr (.inl ⟨_, _, rfl⟩)))))))) (fun k x1 r1 q => ?_) (fun t q => by omega) ⟨Nat.le_refl p, show p < e by omega⟩ (show ¬ (p + 1 ≤ p ∧ p < e) by omega)
    rw [q.2.1]
    exact tpT_s w1
  · intro p j x y e md _ w1 w2 i1 i2 γ r
    have := Wt_lt w1
    have := Wt_lt w2
    refine pl_hd (X := aBin j x y) (pl_ap (i1 _ _) (i2 _ _) (fun t q1 q2 => by omega)) rfl (.inr (.inr (.inr (.inr (.inr (.inr (.inr (.inr (.inl ⟨_, _, _, rfl⟩))))))))) (fun k x1 r1 q => ?_) (fun t q => by omega) (show p ≤ j ∧ j < e by omega) (show ¬ ((p ≤ j ∧ j < j) ∨ (j + 1 ≤ j ∧ j < e)) by omega)
    rcases q with ⟨-, q | q, -⟩
    · rw [q]; exact .inl (tpT_s w1)
    · rw [q]; exact .inr (tpT_s w2)
  · intro p j x y b md w1 w2 i1 i2 γ r
    have := Wt_lt w1
    have := Wt_lt w2
    refine pl_hd (X := aCel j x y) (pl_ap (i1 _ _) (i2 _ _) (fun t q1 q2 => by omega)) rfl (.inr (.inr (.inr (.inr (.inr (.inr (.inr (.inr (.inr (.inl ⟨_, _, _, rfl⟩)))))))))) (fun k x1 r1 q => ?_) (fun t q => by omega) (show p ≤ j ∧ j < b + 1 by omega) (show ¬ ((p ≤ j ∧ j < j) ∨ (j + 1 ≤ j ∧ j < b)) by omega)
    rcases q with ⟨-, q | q, -⟩
    · rw [q]; exact .inl (tpT_s w1)
    · rw [q]; exact .inr (tpT_s w2)
  · intro p x y b e md _ _ w1 w2 i1 i2 γ r
    have := Wt_lt w1
    have := Wt_lt w2
    refine pl_hd (X := aTab p x y) (pl_ap (i1 _ _) (i2 _ _) (fun t q1 q2 => by omega)) rfl (.inr (.inr (.inr (.inr (.inr (.inr (.inr (.inr (.inr (.inr (.inl ⟨_, _, _, rfl⟩))))))))))) (fun k x1 r1 q => ?_) (fun t q => by omega) ⟨Nat.le_refl p, show p < e by omega⟩ (show ¬ ((p + 5 ≤ p ∧ p < b) ∨ (b + 2 ≤ p ∧ p < e)) by omega)
    rcases q with ⟨-, q, -⟩ | ⟨-, q, -⟩
    · rw [q]; exact .inl (tpT_s w1)
    · rw [q]; exact .inr (tpT_s w2)
  · intro p x b md w1 ih γ r
    have hp : shp (aBrk p x) := .inr (.inr (.inr (.inr (.inr (.inr (.inr (.inr (.inr (.inr (.inr ⟨_, _, rfl⟩))))))))))
    have hx := W_shp w1
    have i1 := ih γ r
    have ht : ∀ t, tpT (aBrk p x) t ↔ tpT x t := fun t => ⟨fun ⟨x', q1, q2⟩ => ⟨x, tp_s hx, by rw [← tp_x hp q1] at q2; exact q2⟩, fun ⟨x', q1, q2⟩ => ⟨aBrk p x, tp_s hp, by rw [← tp_x hx q1] at q2; exact q2⟩⟩
    have i1 := pl_cg i1 (R' := fun t => p ≤ t ∧ t < b + 1) (fun t q => by omega) ht
    refine ⟨i1.1, fun z k x1 r1 hz hk => ?_, fun z z' k k' x1 x1' r1 r1' hz hz' hk hk' he => ?_⟩
    · rcases List.mem_cons.mp hz with rfl | hz
      · exact hk.elim
      · exact i1.2.1 z k x1 r1 hz hk
    · rcases List.mem_cons.mp hz with rfl | hz
      · exact hk.elim
      · rcases List.mem_cons.mp hz' with rfl | hz'
        · exact hk'.elim
        · exact i1.2.2 z z' k k' x1 x1' r1 r1' hz hz' hk hk' he
  · intro p x b md hmd _ w1 ih γ r
    have hx := W_shp w1
    have := Wt_lt w1
    have g0 : p ≤ (if md = 101 then p else p + 2) := by split <;> omega
    refine pl_cg (pl_ap (ih γ r) pl_nil (fun t _ q => q)) (fun t q => ?_) (fun t => ⟨fun ⟨x', q1, q2⟩ => ?_, fun q => ?_⟩)
    · rcases q with q | q
      · omega
      · exact q.elim
    · rcases q1 with q1 | q1
      · exact .inl ⟨x, tp_s hx, by rw [q1]; exact q2⟩
      · have q1 : shp .nil := q1.2
        rcases q1 with ⟨j, h⟩ | ⟨j, h⟩ | ⟨j, h⟩ | ⟨j, as, h⟩ | ⟨j, a, b, h⟩ | ⟨j, a, b, c, h⟩ | ⟨j, fs, c, ns, g, h⟩ | ⟨j, a, h⟩ | ⟨j, a, b, h⟩ | ⟨j, a, b, h⟩ | ⟨j, a, b, h⟩ | ⟨j, a, h⟩ <;> cases h
    · rcases q with ⟨x', q1, q2⟩ | q
      · exact ⟨x', .inl (tp_x hx q1), q2⟩
      · exact q.elim
  · intro p x l b e md hmd _ _ w1 w2 i1 i2 γ r
    have hx := W_shp w1
    have := Wt_lt w1
    have := Wt_lt w2
    have g0 : p ≤ (if md = 101 then p else p + 2) := by split <;> omega
    refine pl_cg (pl_ap (i1 γ r) (i2 γ r) (fun t q1 q2 => by omega)) (fun t q => ?_) (fun t => ⟨fun ⟨x', q1, q2⟩ => ?_, fun q => ?_⟩)
    · omega
    · rcases q1 with q1 | q1
      · exact .inl ⟨x, tp_s hx, by rw [q1]; exact q2⟩
      · exact .inr ⟨x', q1, q2⟩
    · rcases q with ⟨x', q1, q2⟩ | ⟨x', q1, q2⟩
      · exact ⟨x', .inl (tp_x hx q1), q2⟩
      · exact ⟨x', .inr q1, q2⟩
theorem pr_PW {p e : Nat} (w : PW K y p e) : PLq (scP y) (fun t => p ≤ t ∧ t < e) (fun t => ∃ q cnt x, (q, cnt, x) ∈ fuP y ∧ rtk x = t) := by
  refine PW_ind (K := K) (P := fun y p e => PLq (scP y) (fun t => p ≤ t ∧ t < e) (fun t => ∃ q cnt x, (q, cnt, x) ∈ fuP y ∧ rtk x = t)) ?_ ?_ (tsz y) y p e (Nat.le_refl _) w
  · intro p cnt x b e0 _ _ _ w1 hb
    have hx := W_shp w1
    have := Wt_lt w1
    refine pl_cg (pl_ap (pr_W w1 (pms (p + 2) cnt).reverse (4 * p)) pl_nil (fun t _ q => q)) (fun t q => ?_) (fun t => ⟨fun ⟨q, c', x', q1, q2⟩ => ?_, fun q => ?_⟩)
    · rcases q with q | q
      · omega
      · exact q.elim
    · have q1 := List.mem_singleton.mp q1
      cases q1
      exact .inl ⟨x, tp_s hx, q2⟩
    · rcases q with ⟨x', q1, q2⟩ | q
      · exact ⟨p, cnt, x, List.mem_cons_self, by rw [tp_x hx q1]; exact q2⟩
      · exact q.elim
  · intro p cnt x r b e0 e _ _ _ w1 hb _ w2 ih
    have hx := W_shp w1
    have := Wt_lt w1
    have hw := PW_lt w2
    refine pl_cg (pl_ap (pr_W w1 (pms (p + 2) cnt).reverse (4 * p)) ih (fun t q1 q2 => by omega)) (fun t q => ?_) (fun t => ⟨fun ⟨q, c', x', q1, q2⟩ => ?_, fun q => ?_⟩)
    · omega
    · rcases List.mem_cons.mp q1 with q1 | q1
      · cases q1
        exact .inl ⟨x, tp_s hx, q2⟩
      · exact .inr ⟨q, c', x', q1, q2⟩
    · rcases q with ⟨x', q1, q2⟩ | ⟨q, c', x', q1, q2⟩
      · exact ⟨p, cnt, x, List.mem_cons_self, by rw [tp_x hx q1]; exact q2⟩
      · exact ⟨q, c', x', List.mem_cons_of_mem _ q1, q2⟩
theorem ag_tp {xz : TR} : ∀ as : TR, LL as → ∀ z, agX as z = some xz → tpL as xz := by
  refine LL_ind (fun z h => by cases h) (fun p x r _ ih z h => ?_)
  cases z with
  | zero => cases h; exact .inl rfl
  | succ z => exact .inr (ih z h)
theorem rw_tp {xz : TR} {b : Nat} : ∀ x : TR, LL x → rwX x b = some xz → tpL x xz := by
  refine LL_ind (fun h => by cases h) (fun p x r _ ih h => ?_)
  have h : (if p = b then some x else rwX r b) = some xz := h
  by_cases c : p = b
  · rw [if_pos c] at h
    cases h
    exact .inl rfl
  · rw [if_neg c] at h
    exact .inr (ih h)
theorem nx_tp {xz : TR} {b : Nat} : ∀ x : TR, LL x → nxX V x b = some xz → tpL x xz := by
  refine LL_ind (fun h => by cases h) (fun p x r _ ih h => ?_)
  have h : (if V p = V b then some x else nxX V r b) = some xz := h
  by_cases c : V p = V b
  · rw [if_pos c] at h
    cases h
    exact .inl rfl
  · rw [if_neg c] at h
    exact .inr (ih h)
theorem Inp_own {f : Nat} {W : Nat → Int32 × Int32 × Int32} {ν : Nat → Nat} (B : SBd K V y e0 f W ν) {P P' : TPth} {z : TR × List Nat × Nat} {t' : Nat} (hz : z ∈ scP y) (hr : z.2.2 = hdR P) (h : Inp V y P z P' t') :
    (∃ k x r1, Chd z k x r1 ∧ rtk x = t' ∧ (P' = P ∨ (own y P' = (P, otk z.1) ∧ hdR P' / 4 = otk z.1))) ∨ ∃ q cnt x, (q, cnt, x) ∈ fuP y ∧ rtk x = t' ∧ own y P' = (P, otk z.1) := by
  obtain ⟨w, hf, hW, hν, hL, hG, hAs⟩ := id B
  have hs := ((tl_P w) z hz).2.1
  obtain ⟨x, γ, r⟩ := z
  have hs : shp x := hs
  rcases hs with ⟨j, rfl⟩ | ⟨j, rfl⟩ | ⟨j, rfl⟩ | ⟨j, as, rfl⟩ | ⟨j, a, b, rfl⟩ | ⟨j, a, b, c, rfl⟩ | ⟨j, fs, c, ns, g, rfl⟩ | ⟨j, a, rfl⟩ | ⟨j, a, b, rfl⟩ | ⟨j, a, b, rfl⟩ | ⟨j, a, b, rfl⟩ | ⟨j, a, rfl⟩
  · exact h.elim
  · exact h.elim
  · exact h.elim
  · rcases h with ⟨z, xz, h1, h2, h3⟩ | ⟨i, p, cnt, xf, h1, h2, h3, h4⟩
    · exact .inl ⟨5, xz, r, ⟨rfl, ag_tp _ (hAs _ _ _ _ hz) z h1, rfl⟩, h3.symm, .inl h2⟩
    · refine .inr ⟨p, cnt, xf, List.mem_of_getElem? h2, h4.symm, ?_⟩
      rw [h3]
      exact own_call w (List.mem_of_getElem? h2) j P
  · obtain ⟨h1, h2 | h2⟩ := h
    · exact .inl ⟨4, a, r, .inl ⟨rfl, rfl, rfl⟩, h2.symm, .inl h1⟩
    · exact .inl ⟨3, b, r, .inr ⟨rfl, rfl, rfl⟩, h2.symm, .inl h1⟩
  · rcases h with ⟨h1, h2⟩ | ⟨h1, h2⟩ | ⟨h1, h2⟩
    · exact .inl ⟨1, a, r, .inl ⟨rfl, rfl, rfl⟩, h2.symm, .inl h1⟩
    · refine .inl ⟨3, b, 4 * j, .inr (.inl ⟨rfl, rfl, rfl⟩), h2.symm, .inr ⟨?_, ?_⟩⟩
      · rw [h1]; exact own_nd w hz (k := 0) (by omega) (.inr rfl) P
      · rw [h1]; show 4 * j / 4 = j; omega
    · refine .inl ⟨3, c, 4 * j + 1, .inr (.inr ⟨rfl, rfl, rfl⟩), h2.symm, .inr ⟨?_, ?_⟩⟩
      · rw [h1]; exact own_nd w hz (k := 1) (by omega) (.inl rfl) P
      · rw [h1]; show (4 * j + 1) / 4 = j; omega
  · rcases h with ⟨b, xb, h0, h1, h2, h3⟩ | ⟨i, h1, h2⟩ | ⟨i, b, xb, h0, h1, h2, h3⟩ | ⟨i, h1, h2⟩
    · exact .inl ⟨0, xb, r, .inl ⟨rfl, rw_tp _ (hL _ _ _ _ _ _ _ hz).1 h1, rfl⟩, h3.symm, .inl h2⟩
    · refine .inl ⟨1, c, 4 * j, .inr (.inl ⟨rfl, rfl, rfl⟩), h2.symm, .inr ⟨?_, ?_⟩⟩
      · rw [h1]; exact own_nd w hz (k := 0) (by omega) (.inr rfl) P
      · rw [h1]; show 4 * j / 4 = j; omega
    · refine .inl ⟨6, xb, 4 * j + 1, .inr (.inr (.inl ⟨rfl, nx_tp _ (hL _ _ _ _ _ _ _ hz).2 h1, rfl⟩)), h3.symm, .inr ⟨?_, ?_⟩⟩
      · rw [h2]; exact own_lp w hz (k := 1) (by omega) (by omega) rfl P
      · rw [h2]; show (4 * j + 1) / 4 = j; omega
    · refine .inl ⟨7, g, 4 * j + 2, .inr (.inr (.inr ⟨rfl, rfl, rfl⟩)), h2.symm, .inr ⟨?_, ?_⟩⟩
      · rw [h1]; exact own_lp w hz (k := 2) (by omega) (by omega) rfl P
      · rw [h1]; show (4 * j + 2) / 4 = j; omega
  · exact .inl ⟨1, a, r, ⟨rfl, rfl, rfl⟩, h.2.symm, .inl h.1⟩
  · obtain ⟨h1, h2 | h2⟩ := h
    · exact .inl ⟨2, a, r, ⟨rfl, .inl rfl, rfl⟩, h2.symm, .inl h1⟩
    · exact .inl ⟨2, b, r, ⟨rfl, .inr rfl, rfl⟩, h2.symm, .inl h1⟩
  · obtain ⟨h1, h2 | h2⟩ := h
    · exact .inl ⟨2, a, r, ⟨rfl, .inl rfl, rfl⟩, h2.symm, .inl h1⟩
    · exact .inl ⟨2, b, r, ⟨rfl, .inr rfl, rfl⟩, h2.symm, .inl h1⟩
  · exact .inl ⟨1, a, r, .inl ⟨rfl, rfl, rfl⟩, h.2.symm, .inl h.1⟩
  · exact h.elim
/-- a place has one consumer -/
theorem Inp_uq {f : Nat} {W : Nat → Int32 × Int32 × Int32} {ν : Nat → Nat} (B : SBd K V y e0 f W ν) {P P' P0 : TPth} {z z' : TR × List Nat × Nat} {t0 : Nat} (hz : z ∈ scP y) (hr : z.2.2 = hdR P) (hz' : z' ∈ scP y) (hr' : z'.2.2 = hdR P') (h : Inp V y P z P0 t0) (h' : Inp V y P' z' P0 t0) : P = P' ∧ otk z.1 = otk z'.1 := by
  obtain ⟨p1, p2, p3⟩ := pr_PW B.1
  rcases Inp_own B hz hr h with ⟨k, x, r1, a1, a2, a3⟩ | ⟨q, cnt, x, a1, a2, a3⟩
  · rcases Inp_own B hz' hr' h' with ⟨k', x', r1', b1, b2, b3⟩ | ⟨q', cnt', x', b1, b2, b3⟩
    · have ho := p3 z z' k k' x x' r1 r1' hz hz' a1 b1 (a2.trans b2.symm)
      have he := (ou_P B.1).2 z hz z' hz' ho
      subst he
      refine ⟨?_, rfl⟩
      have hl := rg_lt B.1 z hz
      rcases a3 with a3 | ⟨a3, a4⟩
      · rcases b3 with b3 | ⟨b3, b4⟩
        · rw [← a3, ← b3]
        · rw [a3, ← hr] at b4
          omega
      · rcases b3 with b3 | ⟨b3, b4⟩
        · rw [b3, ← hr'] at a4
          omega
        · rw [a3] at b3
          exact congrArg Prod.fst b3
    · exact absurd ⟨q', cnt', x', b1, b2.trans a2.symm⟩ (p2 z k x r1 hz a1).2
  · rcases Inp_own B hz' hr' h' with ⟨k', x', r1', b1, b2, b3⟩ | ⟨q', cnt', x', b1, b2, b3⟩
    · exact absurd ⟨q, cnt, x, a1, a2.trans b2.symm⟩ (p2 z' k' x' r1' hz' b1).2
    · rw [a3] at b3
      exact ⟨congrArg Prod.fst b3, congrArg Prod.snd b3⟩
end PLS
