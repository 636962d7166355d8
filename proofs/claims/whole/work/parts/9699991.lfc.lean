/-! the faults that the reference looks for, as a function of trees -/
/-- the parameters of the first function with a name -/
def pmF (V : Nat → Int64) : List (Nat × Nat) → Nat → Option (List Nat)
  | [], _ => none
  | (p, cnt) :: ft, j => if V p = V j then some (pms (p + 2) cnt) else pmF V ft j
def lfc (K pl : Nat → Nat) (V : Nat → Int64) (ft : List (Nat × Nat)) : TR → List Nat → Nat → List Nat → List Nat → Nat
  | .tag 3 (.tag j _), γ, _, _, _ => if (fnd V γ j).isSome then 4000 else 4 * pl j + 2
  | .tag 4 (.tag j as), γ, _, _, _ => min (if (pmF V ft j).isSome ∧ ((pmF V ft j).getD []).length = (rts as).length then 4000 else 4 * pl j + 2) (lfc K pl V ft as γ 101 [] ((pmF V ft j).getD []))
  | .tag 5 (.tag j (.append x y)), γ, _, _, _ => min (kb pl V γ (j + 1)) (min (lfc K pl V ft x γ 0 [] []) (min (ckX K pl V x (tvV (V (j + 1)))) (lfc K pl V ft y ((j + 1) :: γ) 0 [] [])))
  | .tag 6 (.tag _ (.append x (.append y z))), γ, _, _, _ => min (lfc K pl V ft x γ 0 [] []) (min (ckX K pl V x 2) (min (lfc K pl V ft y γ 0 [] []) (min (lfc K pl V ft z γ 0 [] []) (ckX K pl V z (tyk K (fun i => tvV (V i)) y)))))
  | .tag 7 (.tag _ (.append fs (.append c (.append ns g)))), γ, _, _, _ => min (lfc K pl V ft fs γ 102 [] []) (min (lfc K pl V ft c (bnd fs γ) 0 [] []) (min (ckX K pl V c 2) (min (lfc K pl V ft ns (bnd fs γ) 105 [] (tks fs)) (lfc K pl V ft g (bnd fs γ) 0 [] []))))
  | .tag 8 (.tag j x), γ, _, _, _ => min (lfc K pl V ft x γ 0 [] []) (ckX K pl V x (if K j = 45 then 1 else 2))
  | .tag 9 (.tag j (.append x y)), γ, _, _, _ => min (lfc K pl V ft x γ 0 [] []) (min (ckX K pl V x (if stg (K j) ≤ 2 then 2 else 1)) (min (lfc K pl V ft y γ 0 [] []) (ckX K pl V y (if stg (K j) ≤ 2 then 2 else 1))))
  | .tag 10 (.tag _ (.append x y)), γ, _, _, _ => min (lfc K pl V ft x γ 0 [] []) (min (ckX K pl V x 3) (min (lfc K pl V ft y γ 0 [] []) (ckX K pl V y 1)))
  | .tag 11 (.tag j (.append x y)), γ, _, _, _ => min (kb pl V γ (j + 1)) (min (ctk pl V (j + 1) 3) (min (kb pl V ((j + 1) :: γ) (j + 3)) (min (ctk pl V (j + 3) 1) (min (lfc K pl V ft x γ 0 [] []) (min (ckX K pl V x 1) (min (lfc K pl V ft y ((j + 3) :: (j + 1) :: γ) 0 [] []) (ckX K pl V y 1)))))))
  | .tag 12 (.tag _ x), γ, _, _, _ => lfc K pl V ft x γ 0 [] []
  | .append (.tag p x) r, γ, md, pre, l =>
    if md = 101 then min (lfc K pl V ft x γ 0 [] []) (min (match l with | b :: _ => ckX K pl V x (tvV (V b)) | [] => 4000) (lfc K pl V ft r γ 101 [] l.tail))
    else if md = 102 then min (if (fnd V pre p).isSome ∨ (fnd V γ p).isSome then 4 * pl p + 2 else 4000) (min (lfc K pl V ft x γ 0 [] []) (min (ckX K pl V x (tvV (V p))) (lfc K pl V ft r γ 102 (p :: pre) [])))
    else min (if (fnd V l p).isSome ∧ ¬ (fnd V pre p).isSome then 4000 else 4 * pl p + 2) (min (lfc K pl V ft x γ 0 [] []) (min (ckX K pl V x (tvV (V p))) (lfc K pl V ft r γ 105 (p :: pre) l)))
  | _, _, _, _, _ => 4000
section LFC
variable {K pl : Nat → Nat} {V : Nat → Int64} {m : Nat} {ft : List (Nat × Nat)}
theorem cfL_4 : ∀ cl : List (Nat × TR), cfL K pl V ft cl ≤ 4000 := by
  intro cl
  induction cl with
  | nil => exact Nat.le_refl _
  | cons d cl ih => exact Nat.le_trans (Nat.min_le_right _ _) ih
theorem cfL_app : ∀ l1 l2 : List (Nat × TR), cfL K pl V ft (l1 ++ l2) = min (cfL K pl V ft l1) (cfL K pl V ft l2) := by
  intro l1
  induction l1 with
  | nil => intro l2; exact (Nat.min_eq_right (cfL_4 l2)).symm
  | cons d l1 ih =>
    intro l2
    show min (cfC K pl V ft d.1 d.2) (cfL K pl V ft (l1 ++ l2)) = min (min (cfC K pl V ft d.1 d.2) (cfL K pl V ft l1)) (cfL K pl V ft l2)
    rw [ih, Nat.min_assoc]
theorem cfC_pmF (j : Nat) (as : TR) : ∀ ft : List (Nat × Nat), cfC K pl V ft j as = if (pmF V ft j).isSome ∧ ((pmF V ft j).getD []).length = (rts as).length then cfa K pl V as ((pmF V ft j).getD []) else 4 * pl j + 2 := by
  intro ft
  induction ft with
  | nil => exact (if_neg (fun z => absurd (show false = true from z.1) (by decide))).symm
  | cons c ft ih =>
    obtain ⟨p, cnt⟩ := c
    by_cases hv : V p = V j
    · have e1 : pmF V ((p, cnt) :: ft) j = some (pms (p + 2) cnt) := by
        show (if V p = V j then _ else _) = _
        rw [if_pos hv]
      have e2 : cfC K pl V ((p, cnt) :: ft) j as = (if cnt = (rts as).length then cfa K pl V as (pms (p + 2) cnt) else 4 * pl j + 2) := by
        show (if V p = V j then _ else _) = _
        rw [if_pos hv]
      rw [e1, e2]
      have e3 : ((some (pms (p + 2) cnt)).getD []).length = cnt := pms_len cnt (p + 2)
      rw [e3]
      by_cases hc : cnt = (rts as).length
      · rw [if_pos hc, if_pos ⟨rfl, hc⟩]; rfl
      · rw [if_neg hc, if_neg (fun z => hc z.2)]
    · have e1 : pmF V ((p, cnt) :: ft) j = pmF V ft j := by
        show (if V p = V j then _ else _) = _
        rw [if_neg hv]
      have e2 : cfC K pl V ((p, cnt) :: ft) j as = cfC K pl V ft j as := by
        show (if V p = V j then _ else _) = _
        rw [if_neg hv]
      rw [e1, e2]
      exact ih
theorem TH.mono (T : TH K pl V m) : ∀ {i j : Nat}, i ≤ j → j ≤ m → pl i ≤ pl j := by
  intro i j
  induction j with
  | zero => intro h1 h2; rw [show i = 0 by omega]; exact Nat.le_refl _
  | succ j ih =>
    intro h1 h2
    rcases Nat.lt_or_ge i (j + 1) with z | z
    · have := T.lt_ (show j < m by omega)
      have := ih (by omega) (by omega)
      omega
    · rw [show i = j + 1 by omega]; exact Nat.le_refl _
theorem cfa_ge (T : TH K pl V m) {as : TR} {p e md : Nat} (w : Wt K as p e md) : md = 101 → e ≤ m → ∀ ps : List Nat, 4 * pl p + 2 ≤ cfa K pl V as ps := by
  have h4 : ∀ q, q ≤ m → 4 * pl q + 2 ≤ 4000 := fun q hq => by have := T.pl_ hq; omega
  have hck : ∀ (x : TR) (a b t q : Nat), Wt K x a b 0 → q ≤ a → b ≤ m → 4 * pl q + 2 ≤ ckX K pl V x t := fun x a b t q wx hq hb => by
    have hr := Wt_rt wx
    have := T.mono (show q ≤ bgk x by omega) (show bgk x ≤ m by omega)
    have h5 := T.pl_ (show q ≤ m by omega)
    unfold ckX chk
    split <;> omega
  refine Wt_ind (K := K) (P := fun as p e md => md = 101 → e ≤ m → ∀ ps : List Nat, 4 * pl p + 2 ≤ cfa K pl V as ps) ?_ ?_ ?_ ?_ ?_ ?_ ?_ ?_ ?_ ?_ ?_ ?_ ?_ ?_ ?_ (tsz as) as p e md (Nat.le_refl _) w
  · intro p md _ _ he ps; exact h4 p (by omega)
  · intro p md _ _ he ps; exact h4 p (by omega)
  · intro p md _ _ he ps; exact h4 p (by omega)
  · intro p md _ _ he ps; exact h4 p (by omega)
  · intro p as b md _ _ w1 _ _ he ps; have := Wt_lt w1; exact h4 p (by omega)
  · intro p x y b e md _ w1 w2 _ _ _ he ps; have := Wt_lt w1; have := Wt_lt w2; exact h4 p (by omega)
  · intro p x y z b c e md w1 w2 w3 _ _ _ _ he ps; have := Wt_lt w1; have := Wt_lt w2; have := Wt_lt w3; exact h4 p (by omega)
  · intro p fs c ns g b d f e md _ _ w1 w2 w3 w4 _ _ _ _ _ he ps; have := Wt_lt w1; have := Wt_lt w2; have := Wt_lt w3; have := Wt_lt w4; exact h4 p (by omega)
  · intro p x e md _ w1 _ _ he ps; have := Wt_lt w1; exact h4 p (by omega)
  · intro p j x y e md _ w1 w2 _ _ _ he ps; have := Wt_lt w1; have := Wt_lt w2; exact h4 p (by omega)
  · intro p j x y b md w1 w2 _ _ _ he ps; have := Wt_lt w1; have := Wt_lt w2; exact h4 p (by omega)
  · intro p x y b e md _ _ w1 w2 _ _ _ he ps; have := Wt_lt w1; have := Wt_lt w2; exact h4 p (by omega)
  · intro p x b md w1 _ _ he ps; have := Wt_lt w1; exact h4 p (by omega)
  · intro p x b md _ _ w1 _ hmd he ps
    rw [if_pos hmd] at w1
    have := Wt_lt w1
    cases ps with
    | nil => exact h4 p (by omega)
    | cons c ps =>
      show 4 * pl p + 2 ≤ min (ckX K pl V x (tvV (V c))) 4000
      exact Nat.le_min.mpr ⟨hck x p b _ p w1 (Nat.le_refl _) (by omega), h4 p (by omega)⟩
  · intro p x r b e md _ _ _ w1 w2 _ ih hmd he ps
    rw [if_pos hmd] at w1
    have := Wt_lt w1
    have := Wt_lt w2
    cases ps with
    | nil => exact h4 p (by omega)
    | cons c ps =>
      show 4 * pl p + 2 ≤ min (ckX K pl V x (tvV (V c))) (cfa K pl V r ps)
      have h1 := ih hmd he ps
      have h2 := T.mono (show p ≤ b + 1 by omega) (show b + 1 ≤ m by omega)
      exact Nat.le_min.mpr ⟨hck x p b _ p w1 (Nat.le_refl _) (by omega), by omega⟩
/-- the minimum is the same -/
def E0 (K pl : Nat → Nat) (V : Nat → Int64) (ft : List (Nat × Nat)) (x : TR) : Prop := ∀ (γ : List Nat) (md : Nat) (pre l : List Nat), lfc K pl V ft x γ md pre l = min (pfc K pl V x γ 0 [] []) (cfL K pl V ft (cls x)) ∧ pfc K pl V x γ md pre l = pfc K pl V x γ 0 [] [] ∧ cfa K pl V x l = 4000
def E1 (K pl : Nat → Nat) (V : Nat → Int64) (ft : List (Nat × Nat)) (x : TR) : Prop := ∀ (γ ps : List Nat), lfc K pl V ft x γ 101 [] ps = min (min (pfc K pl V x γ 101 [] []) (cfL K pl V ft (cls x))) (cfa K pl V x ps)
def E2 (K pl : Nat → Nat) (V : Nat → Int64) (ft : List (Nat × Nat)) (x : TR) : Prop := (∀ (γ pre : List Nat), lfc K pl V ft x γ 102 pre [] = min (pfc K pl V x γ 102 pre []) (cfL K pl V ft (cls x))) ∧ ∀ (γ pre l : List Nat), lfc K pl V ft x γ 105 pre l = min (pfc K pl V x γ 105 pre l) (cfL K pl V ft (cls x))
theorem E0_1 {x : TR} (h : E0 K pl V ft x) : E1 K pl V ft x := fun γ ps => by
  obtain ⟨h1, h2, h3⟩ := h γ 101 [] ps
  obtain ⟨-, h4, -⟩ := h γ 101 [] []
  rw [h1, h3, h4, Nat.min_assoc, Nat.min_eq_left (cfL_4 (cls x))]
theorem E0_2 {x : TR} (h : E0 K pl V ft x) : E2 K pl V ft x := ⟨fun γ pre => by obtain ⟨h1, h2, -⟩ := h γ 102 pre []; rw [h1, h2], fun γ pre l => by obtain ⟨h1, h2, -⟩ := h γ 105 pre l; rw [h1, h2]⟩
theorem lfc_eq0 (T : TH K pl V m) {x : TR} {p e md : Nat} (w : Wt K x p e md) : e ≤ m → (E0 K pl V ft x ∨ (md = 101 ∧ E1 K pl V ft x) ∨ (md = 102 ∧ E2 K pl V ft x)) := by
  have h0 : ∀ {x : TR}, (E0 K pl V ft x ∨ ((0 : Nat) = 101 ∧ E1 K pl V ft x) ∨ ((0 : Nat) = 102 ∧ E2 K pl V ft x)) → ∀ γ, lfc K pl V ft x γ 0 [] [] = min (pfc K pl V x γ 0 [] []) (cfL K pl V ft (cls x)) := fun {x} h γ => by
    rcases h with h | ⟨h, -⟩ | ⟨h, -⟩
    · exact (h γ 0 [] []).1
    · omega
    · omega
  have hA : ∀ {x : TR}, (E0 K pl V ft x ∨ ((101 : Nat) = 101 ∧ E1 K pl V ft x) ∨ ((101 : Nat) = 102 ∧ E2 K pl V ft x)) → E1 K pl V ft x := fun {x} h => by
    rcases h with h | ⟨-, h⟩ | ⟨h, -⟩
    · exact E0_1 h
    · exact h
    · omega
  have hB : ∀ {x : TR}, (E0 K pl V ft x ∨ ((102 : Nat) = 101 ∧ E1 K pl V ft x) ∨ ((102 : Nat) = 102 ∧ E2 K pl V ft x)) → E2 K pl V ft x := fun {x} h => by
    rcases h with h | ⟨h, -⟩ | ⟨-, h⟩
    · exact E0_2 h
    · omega
    · exact h
  refine Wt_ind (K := K) (P := fun x p e md => e ≤ m → (E0 K pl V ft x ∨ (md = 101 ∧ E1 K pl V ft x) ∨ (md = 102 ∧ E2 K pl V ft x))) ?_ ?_ ?_ ?_ ?_ ?_ ?_ ?_ ?_ ?_ ?_ ?_ ?_ ?_ ?_ (tsz x) x p e md (Nat.le_refl _) w
  · intro p md _ _; exact Or.inl (fun γ md pre l => ⟨rfl, rfl, rfl⟩)
  · intro p md _ _; exact Or.inl (fun γ md pre l => ⟨rfl, rfl, rfl⟩)
  · intro p md _ he
    refine Or.inl (fun γ md pre l => ⟨?_, rfl, rfl⟩)
    show (if (fnd V γ p).isSome then 4000 else 4 * pl p + 2) = min (if (fnd V γ p).isSome then 4000 else 4 * pl p + 2) 4000
    have := T.pl_ (show p ≤ m by omega)
    refine (Nat.min_eq_left ?_).symm
    split <;> omega
  · intro p md _ he
    refine Or.inl (fun γ md pre l => ⟨?_, rfl, rfl⟩)
    show min (if (pmF V ft p).isSome ∧ ((pmF V ft p).getD []).length = (rts .nil).length then 4000 else 4 * pl p + 2) 4000 = min 4000 (min (cfC K pl V ft p .nil) 4000)
    rw [cfC_pmF]
    have hc : cfa K pl V .nil ((pmF V ft p).getD []) = 4000 := rfl
    rw [hc]
    have := T.pl_ (show p ≤ m by omega)
    split <;> omega
  · intro p as b md _ _ w1 ih he
    have hw := Wt_lt w1
    have h1 := hA (ih (by omega))
    refine Or.inl (fun γ md pre l => ⟨?_, rfl, rfl⟩)
    show min (if (pmF V ft p).isSome ∧ ((pmF V ft p).getD []).length = (rts as).length then 4000 else 4 * pl p + 2) (lfc K pl V ft as γ 101 [] ((pmF V ft p).getD [])) = min (pfc K pl V as γ 101 [] []) (min (cfC K pl V ft p as) (cfL K pl V ft (cls as)))
    rw [h1, cfC_pmF]
    have h2 := cfa_ge T w1 rfl (by omega) ((pmF V ft p).getD [])
    have h3 := T.mono (show p ≤ p + 2 by omega) (show p + 2 ≤ m by omega)
    have h4 := cfL_4 (K := K) (pl := pl) (V := V) (ft := ft) (cls as)
    split <;> omega
  · intro p x y b e md _ w1 w2 ix iy he
    have := Wt_lt w1; have := Wt_lt w2
    have hx := h0 (ix (by omega)); have hy := h0 (iy (by omega))
    refine Or.inl (fun γ md pre l => ⟨?_, rfl, rfl⟩)
    show min (kb pl V γ (p + 1)) (min (lfc K pl V ft x γ 0 [] []) (min (ckX K pl V x (tvV (V (p + 1)))) (lfc K pl V ft y ((p + 1) :: γ) 0 [] []))) = min (min (kb pl V γ (p + 1)) (min (pfc K pl V x γ 0 [] []) (min (ckX K pl V x (tvV (V (p + 1)))) (pfc K pl V y ((p + 1) :: γ) 0 [] [])))) (cfL K pl V ft (cls x ++ cls y))
    rw [hx, hy, cfL_app]
    ac_rfl
  · intro p x y z b c e md w1 w2 w3 ix iy iz he
    have := Wt_lt w1; have := Wt_lt w2; have := Wt_lt w3
    have hx := h0 (ix (by omega)); have hy := h0 (iy (by omega)); have hz := h0 (iz (by omega))
    refine Or.inl (fun γ md pre l => ⟨?_, rfl, rfl⟩)
    show min (lfc K pl V ft x γ 0 [] []) (min (ckX K pl V x 2) (min (lfc K pl V ft y γ 0 [] []) (min (lfc K pl V ft z γ 0 [] []) (ckX K pl V z (tyk K (fun i => tvV (V i)) y))))) = min (min (pfc K pl V x γ 0 [] []) (min (ckX K pl V x 2) (min (pfc K pl V y γ 0 [] []) (min (pfc K pl V z γ 0 [] []) (ckX K pl V z (tyk K (fun i => tvV (V i)) y)))))) (cfL K pl V ft (cls x ++ (cls y ++ cls z)))
    rw [hx, hy, hz, cfL_app, cfL_app]
    ac_rfl
  · intro p fs c ns g b d f e md _ _ w1 w2 w3 w4 i1 i2 i3 i4 he
    have := Wt_lt w1; have := Wt_lt w2; have := Wt_lt w3; have := Wt_lt w4
    have h1 := hB (i1 (by omega)); have h2 := h0 (i2 (by omega)); have h3 := hB (i3 (by omega)); have h4 := h0 (i4 (by omega))
    refine Or.inl (fun γ md pre l => ⟨?_, rfl, rfl⟩)
    show min (lfc K pl V ft fs γ 102 [] []) (min (lfc K pl V ft c (bnd fs γ) 0 [] []) (min (ckX K pl V c 2) (min (lfc K pl V ft ns (bnd fs γ) 105 [] (tks fs)) (lfc K pl V ft g (bnd fs γ) 0 [] [])))) = min (min (pfc K pl V fs γ 102 [] []) (min (pfc K pl V c (bnd fs γ) 0 [] []) (min (ckX K pl V c 2) (min (pfc K pl V ns (bnd fs γ) 105 [] (tks fs)) (pfc K pl V g (bnd fs γ) 0 [] []))))) (cfL K pl V ft (cls fs ++ (cls c ++ (cls ns ++ cls g))))
    rw [h1.1, h2, h3.2, h4, cfL_app, cfL_app, cfL_app]
    ac_rfl
  · intro p x e md _ w1 ix he
    have := Wt_lt w1
    have hx := h0 (ix (by omega))
    refine Or.inl (fun γ md pre l => ⟨?_, rfl, rfl⟩)
    show min (lfc K pl V ft x γ 0 [] []) (ckX K pl V x (if K p = 45 then 1 else 2)) = min (min (pfc K pl V x γ 0 [] []) (ckX K pl V x (if K p = 45 then 1 else 2))) (cfL K pl V ft (cls x))
    rw [hx]
    ac_rfl
  · intro p j x y e md _ w1 w2 ix iy he
    have := Wt_lt w1; have := Wt_lt w2
    have hx := h0 (ix (by omega)); have hy := h0 (iy (by omega))
    refine Or.inl (fun γ md pre l => ⟨?_, rfl, rfl⟩)
    show min (lfc K pl V ft x γ 0 [] []) (min (ckX K pl V x (if stg (K j) ≤ 2 then 2 else 1)) (min (lfc K pl V ft y γ 0 [] []) (ckX K pl V y (if stg (K j) ≤ 2 then 2 else 1)))) = min (min (pfc K pl V x γ 0 [] []) (min (ckX K pl V x (if stg (K j) ≤ 2 then 2 else 1)) (min (pfc K pl V y γ 0 [] []) (ckX K pl V y (if stg (K j) ≤ 2 then 2 else 1))))) (cfL K pl V ft (cls x ++ cls y))
    rw [hx, hy, cfL_app]
    ac_rfl
  · intro p j x y b md w1 w2 ix iy he
    have := Wt_lt w1; have := Wt_lt w2
    have hx := h0 (ix (by omega)); have hy := h0 (iy (by omega))
    refine Or.inl (fun γ md pre l => ⟨?_, rfl, rfl⟩)
    show min (lfc K pl V ft x γ 0 [] []) (min (ckX K pl V x 3) (min (lfc K pl V ft y γ 0 [] []) (ckX K pl V y 1))) = min (min (pfc K pl V x γ 0 [] []) (min (ckX K pl V x 3) (min (pfc K pl V y γ 0 [] []) (ckX K pl V y 1)))) (cfL K pl V ft (cls x ++ cls y))
    rw [hx, hy, cfL_app]
    ac_rfl
  · intro p x y b e md _ _ w1 w2 ix iy he
    have := Wt_lt w1; have := Wt_lt w2
    have hx := h0 (ix (by omega)); have hy := h0 (iy (by omega))
    refine Or.inl (fun γ md pre l => ⟨?_, rfl, rfl⟩)
    show min (kb pl V γ (p + 1)) (min (ctk pl V (p + 1) 3) (min (kb pl V ((p + 1) :: γ) (p + 3)) (min (ctk pl V (p + 3) 1) (min (lfc K pl V ft x γ 0 [] []) (min (ckX K pl V x 1) (min (lfc K pl V ft y ((p + 3) :: (p + 1) :: γ) 0 [] []) (ckX K pl V y 1))))))) = min (min (kb pl V γ (p + 1)) (min (ctk pl V (p + 1) 3) (min (kb pl V ((p + 1) :: γ) (p + 3)) (min (ctk pl V (p + 3) 1) (min (pfc K pl V x γ 0 [] []) (min (ckX K pl V x 1) (min (pfc K pl V y ((p + 3) :: (p + 1) :: γ) 0 [] []) (ckX K pl V y 1)))))))) (cfL K pl V ft (cls x ++ cls y))
    rw [hx, hy, cfL_app]
    ac_rfl
  · intro p x b md w1 ix he
    have := Wt_lt w1
    have hx := h0 (ix (by omega))
    refine Or.inl (fun γ md pre l => ⟨?_, rfl, rfl⟩)
    show lfc K pl V ft x γ 0 [] [] = min (pfc K pl V x γ 0 [] []) (cfL K pl V ft (cls x))
    exact hx γ
  · intro p x b md hmd _ w1 ix he
    have hx := h0 (ix (by omega))
    rcases hmd with hmd | hmd
    · refine Or.inr (Or.inl ⟨hmd, fun γ ps => ?_⟩)
      show min (lfc K pl V ft x γ 0 [] []) (min (match ps with | b :: _ => ckX K pl V x (tvV (V b)) | [] => 4000) 4000) = min (min (min (pfc K pl V x γ 0 [] []) 4000) (cfL K pl V ft (cls x ++ []))) (cfa K pl V (.append (.tag p x) .nil) ps)
      rw [hx, List.append_nil]
      have h4 := cfL_4 (K := K) (pl := pl) (V := V) (ft := ft) (cls x)
      cases ps with
      | nil =>
        show min (min (pfc K pl V x γ 0 [] []) (cfL K pl V ft (cls x))) (min 4000 4000) = min (min (min (pfc K pl V x γ 0 [] []) 4000) (cfL K pl V ft (cls x))) 4000
        omega
      | cons c ps =>
        show min (min (pfc K pl V x γ 0 [] []) (cfL K pl V ft (cls x))) (min (ckX K pl V x (tvV (V c))) 4000) = min (min (min (pfc K pl V x γ 0 [] []) 4000) (cfL K pl V ft (cls x))) (min (ckX K pl V x (tvV (V c))) 4000)
        omega
    · refine Or.inr (Or.inr ⟨hmd, fun γ pre => ?_, fun γ pre l => ?_⟩)
      · show min (if (fnd V pre p).isSome ∨ (fnd V γ p).isSome then 4 * pl p + 2 else 4000) (min (lfc K pl V ft x γ 0 [] []) (min (ckX K pl V x (tvV (V p))) 4000)) = min (min (if (fnd V pre p).isSome ∨ (fnd V γ p).isSome then 4 * pl p + 2 else 4000) (min (pfc K pl V x γ 0 [] []) (min (ckX K pl V x (tvV (V p))) 4000))) (cfL K pl V ft (cls x ++ []))
        rw [hx, List.append_nil]
        ac_rfl
      · show min (if (fnd V l p).isSome ∧ ¬ (fnd V pre p).isSome then 4000 else 4 * pl p + 2) (min (lfc K pl V ft x γ 0 [] []) (min (ckX K pl V x (tvV (V p))) 4000)) = min (min (if (fnd V l p).isSome ∧ ¬ (fnd V pre p).isSome then 4000 else 4 * pl p + 2) (min (pfc K pl V x γ 0 [] []) (min (ckX K pl V x (tvV (V p))) 4000))) (cfL K pl V ft (cls x ++ []))
        rw [hx, List.append_nil]
        ac_rfl
  · intro p x r b e md hmd _ _ w1 w2 ix ir he
    have hw2 := Wt_lt w2
    have hx := h0 (ix (by omega))
    have hr := ir he
    rcases hmd with hmd | hmd
    · subst hmd
      have hr := hA hr
      refine Or.inr (Or.inl ⟨rfl, fun γ ps => ?_⟩)
      show min (lfc K pl V ft x γ 0 [] []) (min (match ps with | b :: _ => ckX K pl V x (tvV (V b)) | [] => 4000) (lfc K pl V ft r γ 101 [] ps.tail)) = min (min (min (pfc K pl V x γ 0 [] []) (pfc K pl V r γ 101 [] [])) (cfL K pl V ft (cls x ++ cls r))) (cfa K pl V (.append (.tag p x) r) ps)
      rw [hx, hr, cfL_app]
      have h4 := cfL_4 (K := K) (pl := pl) (V := V) (ft := ft) (cls x)
      cases ps with
      | nil =>
        have hcr : cfa K pl V r [] = 4000 := by
          cases r with
          | append a b => cases a <;> rfl
          | _ => rfl
        show min (min (pfc K pl V x γ 0 [] []) (cfL K pl V ft (cls x))) (min 4000 (min (min (pfc K pl V r γ 101 [] []) (cfL K pl V ft (cls r))) (cfa K pl V r []))) = min (min (min (pfc K pl V x γ 0 [] []) (pfc K pl V r γ 101 [] [])) (min (cfL K pl V ft (cls x)) (cfL K pl V ft (cls r)))) 4000
        rw [hcr]
        ac_rfl
      | cons c ps =>
        show min (min (pfc K pl V x γ 0 [] []) (cfL K pl V ft (cls x))) (min (ckX K pl V x (tvV (V c))) (min (min (pfc K pl V r γ 101 [] []) (cfL K pl V ft (cls r))) (cfa K pl V r ps))) = min (min (min (pfc K pl V x γ 0 [] []) (pfc K pl V r γ 101 [] [])) (min (cfL K pl V ft (cls x)) (cfL K pl V ft (cls r)))) (min (ckX K pl V x (tvV (V c))) (cfa K pl V r ps))
        ac_rfl
    · subst hmd
      have hr := hB hr
      refine Or.inr (Or.inr ⟨rfl, fun γ pre => ?_, fun γ pre l => ?_⟩)
      · show min (if (fnd V pre p).isSome ∨ (fnd V γ p).isSome then 4 * pl p + 2 else 4000) (min (lfc K pl V ft x γ 0 [] []) (min (ckX K pl V x (tvV (V p))) (lfc K pl V ft r γ 102 (p :: pre) []))) = min (min (if (fnd V pre p).isSome ∨ (fnd V γ p).isSome then 4 * pl p + 2 else 4000) (min (pfc K pl V x γ 0 [] []) (min (ckX K pl V x (tvV (V p))) (pfc K pl V r γ 102 (p :: pre) [])))) (cfL K pl V ft (cls x ++ cls r))
        rw [hx, hr.1, cfL_app]
        ac_rfl
      · show min (if (fnd V l p).isSome ∧ ¬ (fnd V pre p).isSome then 4000 else 4 * pl p + 2) (min (lfc K pl V ft x γ 0 [] []) (min (ckX K pl V x (tvV (V p))) (lfc K pl V ft r γ 105 (p :: pre) l))) = min (min (if (fnd V l p).isSome ∧ ¬ (fnd V pre p).isSome then 4000 else 4 * pl p + 2) (min (pfc K pl V x γ 0 [] []) (min (ckX K pl V x (tvV (V p))) (pfc K pl V r γ 105 (p :: pre) l)))) (cfL K pl V ft (cls x ++ cls r))
        rw [hx, hr.2, cfL_app]
        ac_rfl
theorem lfc_eq (T : TH K pl V m) {x : TR} {p e : Nat} (w : Wt K x p e 0) (he : e ≤ m) (γ : List Nat) : lfc K pl V ft x γ 0 [] [] = min (pfc K pl V x γ 0 [] []) (cfL K pl V ft (cls x)) := by
  rcases lfc_eq0 (ft := ft) T w he with h | ⟨h, -⟩ | ⟨h, -⟩
  · exact (h γ 0 [] []).1
  · omega
  · omega
end LFC
