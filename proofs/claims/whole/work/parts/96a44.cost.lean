/-! what entering a region costs, with the loops that begin by themselves -/
def cw (u v : Nat) : TR → Nat
  | .tag 1 _ => u
  | .tag 2 _ => u
  | .tag 3 _ => u
  | .tag 4 (.tag _ as) => cw u v as + u
  | .tag 5 (.tag _ (.append x y)) => cw u v x + (cw u v y + u)
  | .tag 6 (.tag _ (.append x _)) => cw u v x + u
  | .tag 7 (.tag _ (.append fs (.append c _))) => cw u v fs + (u + (v + cw u v c))
  | .tag 8 (.tag _ x) => cw u v x + u
  | .tag 9 (.tag _ (.append x y)) => cw u v x + (cw u v y + u)
  | .tag 10 (.tag _ (.append x y)) => cw u v x + (cw u v y + u)
  | .tag 11 (.tag _ (.append x _)) => cw u v x + u
  | .tag 12 (.tag _ x) => cw u v x + u
  | .append (.tag _ x) l => cw u v x + cw u v l
  | _ => 0
/-- what a loop still has to enter by itself -/
def pcw (u v : Nat) : TR → Nat
  | .tag 7 (.tag _ (.append _ (.append c _))) => v + cw u v c
  | _ => 0
def pcT (u v : Nat) (l : List (TR × List Nat × Nat)) (t : Nat) : Nat := ((l.find? (fun z => otk z.1 == t)).map (fun z => pcw u v z.1)).getD 0
def tot (f : Nat → Nat) : Nat → Nat
  | 0 => 0
  | n + 1 => tot f n + f n
theorem tot_cg {f g : Nat → Nat} : ∀ n, (∀ i, i < n → f i = g i) → tot f n = tot g n := by
  intro n
  induction n with
  | zero => intro _; rfl
  | succ n ih => intro h; show tot f n + f n = tot g n + g n; rw [ih (fun i hi => h i (by omega)), h n (by omega)]
theorem tot_add {f : Nat → Nat} (n : Nat) : ∀ k, tot f (n + k) = tot f n + tot (fun i => f (n + i)) k := by
  intro k
  induction k with
  | zero => rfl
  | succ k ih => show tot f (n + k) + f (n + k) = tot f n + (tot (fun i => f (n + i)) k + f (n + k)); rw [ih]; omega
theorem tot_up {f g : Nat → Nat} {s : Nat} : ∀ n, s < n → (∀ i, i < n → i ≠ s → g i = f i) → tot g n + f s = tot f n + g s := by
  intro n
  induction n with
  | zero => intro h; omega
  | succ n ih =>
    intro h hq
    show tot g n + g n + f s = tot f n + f n + g s
    by_cases e : s = n
    · subst e
      rw [tot_cg s (fun i hi => hq i (by omega) (by omega))]
      omega
    · have := ih (by omega) (fun i hi => hq i (by omega))
      have := hq n (by omega) (by omega)
      omega
theorem tot_le {f : Nat → Nat} : ∀ n, (∀ i, i < n → f i ≤ 1) → tot f n ≤ n := by
  intro n
  induction n with
  | zero => intro _; exact Nat.le_refl _
  | succ n ih => intro h; have := ih (fun i hi => h i (by omega)); have := h n (by omega); show tot f n + f n ≤ n + 1; omega
def sumL : List Nat → Nat
  | [] => 0
  | a :: l => a + sumL l
theorem sumL_app : ∀ l1 l2 : List Nat, sumL (l1 ++ l2) = sumL l1 + sumL l2 := by
  intro l1
  induction l1 with
  | nil => intro l2; show sumL l2 = 0 + sumL l2; omega
  | cons a l1 ih => intro l2; show a + sumL (l1 ++ l2) = a + sumL l1 + sumL l2; rw [ih]; omega
theorem tot_list {g : Nat → Nat} : ∀ l : List Nat, tot (fun i => ((l[i]?).map g).getD 0) l.length = sumL (l.map g) := by
  intro l
  induction l with
  | nil => rfl
  | cons a l ih =>
    show tot (fun i => (((a :: l)[i]?).map g).getD 0) (l.length + 1) = g a + sumL (l.map g)
    rw [Nat.add_comm, tot_add 1 l.length, ← ih]
    show tot _ 0 + g a + _ = _
    have : tot (fun i => (((a :: l)[1 + i]?).map g).getD 0) l.length = tot (fun i => ((l[i]?).map g).getD 0) l.length := tot_cg _ (fun i _ => by rw [Nat.add_comm 1 i]; rfl)
    rw [this]
    show 0 + g a + _ = _
    omega
section CST
variable {K : Nat → Nat} {u v : Nat}
theorem cw_nd {f : Nat → Nat} {x : TR} {p e md : Nat} (w : Wt K x p e md) : ∀ (γ : List Nat) (r : Nat), (∀ z, z ∈ sbc x γ r → f (otk z.1) = pcw u v z.1) → u * (nds x).length + sumL ((nds x).map f) = cw u v x := by
  have l1 : ∀ {t : Nat} {l : List Nat}, u * (l ++ [t]).length + sumL ((l ++ [t]).map f) = u * l.length + sumL (l.map f) + (u + f t) := fun {t l} => by
    rw [List.map_append, sumL_app, List.length_append, Nat.mul_add]
    show u * l.length + u * 1 + (sumL (l.map f) + (f t + 0)) = _
    omega
  have l2 : ∀ {l l' : List Nat}, u * (l ++ l').length + sumL ((l ++ l').map f) = u * l.length + sumL (l.map f) + (u * l'.length + sumL (l'.map f)) := fun {l l'} => by
    rw [List.map_append, sumL_app, List.length_append, Nat.mul_add]
    omega
  have l3 : ∀ {t : Nat}, u * [t].length + sumL ([t].map f) = u + f t := fun {t} => by
    show u * 1 + (f t + 0) = u + f t
    omega
  refine Wt_ind (K := K) (P := fun x p e md => ∀ (γ : List Nat) (r : Nat), (∀ z, z ∈ sbc x γ r → f (otk z.1) = pcw u v z.1) → u * (nds x).length + sumL ((nds x).map f) = cw u v x) ?_ ?_ ?_ ?_ ?_ ?_ ?_ ?_ ?_ ?_ ?_ ?_ ?_ ?_ ?_ (tsz x) x p e md (Nat.le_refl _) w
  · intro p md _ γ r h
    have h0 : f p = 0 := h _ List.mem_cons_self
    show u * [p].length + sumL ([p].map f) = u
    rw [l3, h0]; omega
  · intro p md _ γ r h
    have h0 : f p = 0 := h _ List.mem_cons_self
    show u * [p].length + sumL ([p].map f) = u
    rw [l3, h0]; omega
  · intro p md _ γ r h
    have h0 : f p = 0 := h _ List.mem_cons_self
    show u * [p].length + sumL ([p].map f) = u
    rw [l3, h0]; omega
  · intro p md _ γ r h
    have h0 : f p = 0 := h _ List.mem_cons_self
    show u * [p].length + sumL ([p].map f) = 0 + u
    rw [l3, h0]; omega
  · intro p as b md _ _ w1 ih γ r h
    have h0 : f p = 0 := h _ List.mem_cons_self
    show u * (nds as ++ [p]).length + sumL ((nds as ++ [p]).map f) = cw u v as + u
    rw [l1, ih γ r (fun z hz => h z (mc _ hz)), h0]; omega
  · intro p x y b e md _ w1 w2 i1 i2 γ r h
    have h0 : f p = 0 := h _ List.mem_cons_self
    show u * (nds x ++ (nds y ++ [p])).length + sumL ((nds x ++ (nds y ++ [p])).map f) = cw u v x + (cw u v y + u)
    rw [l2, l1, i1 γ r (fun z hz => h z (mc _ (ml _ hz))), i2 _ r (fun z hz => h z (mc _ (mr _ hz))), h0]; omega
  · intro p x y z b c e md w1 w2 w3 i1 i2 i3 γ r h
    have h0 : f p = 0 := h _ List.mem_cons_self
    show u * (nds x ++ [p]).length + sumL ((nds x ++ [p]).map f) = cw u v x + u
    rw [l1, i1 γ r (fun z hz => h z (mc _ (ml _ hz))), h0]; omega
  · intro p fs c ns g b d f' e md _ _ w1 w2 w3 w4 i1 i2 i3 i4 γ r h
    have h0 : f p = v + cw u v c := h _ List.mem_cons_self
    show u * (nds fs ++ [p]).length + sumL ((nds fs ++ [p]).map f) = cw u v fs + (u + (v + cw u v c))
    rw [l1, i1 γ r (fun z hz => h z (mc _ (ml _ hz))), h0]
  · intro p x e md _ w1 ih γ r h
    have h0 : f p = 0 := h _ List.mem_cons_self
    show u * (nds x ++ [p]).length + sumL ((nds x ++ [p]).map f) = cw u v x + u
    rw [l1, ih γ r (fun z hz => h z (mc _ hz)), h0]; omega
  · intro p j x y e md _ w1 w2 i1 i2 γ r h
    have h0 : f j = 0 := h _ List.mem_cons_self
    show u * (nds x ++ (nds y ++ [j])).length + sumL ((nds x ++ (nds y ++ [j])).map f) = cw u v x + (cw u v y + u)
    rw [l2, l1, i1 γ r (fun z hz => h z (mc _ (ml _ hz))), i2 _ r (fun z hz => h z (mc _ (mr _ hz))), h0]; omega
  · intro p j x y b md w1 w2 i1 i2 γ r h
    have h0 : f j = 0 := h _ List.mem_cons_self
    show u * (nds x ++ (nds y ++ [j])).length + sumL ((nds x ++ (nds y ++ [j])).map f) = cw u v x + (cw u v y + u)
    rw [l2, l1, i1 γ r (fun z hz => h z (mc _ (ml _ hz))), i2 _ r (fun z hz => h z (mc _ (mr _ hz))), h0]; omega
  · intro p x y b e md _ _ w1 w2 i1 i2 γ r h
    have h0 : f p = 0 := h _ List.mem_cons_self
    show u * (nds x ++ [p]).length + sumL ((nds x ++ [p]).map f) = cw u v x + u
    rw [l1, i1 γ r (fun z hz => h z (mc _ (ml _ hz))), h0]; omega
  · intro p x b md w1 ih γ r h
    have h0 : f p = 0 := h _ List.mem_cons_self
    show u * (nds x ++ [p]).length + sumL ((nds x ++ [p]).map f) = cw u v x + u
    rw [l1, ih γ r (fun z hz => h z (mc _ hz)), h0]; omega
  · intro p x b md hmd _ w1 ih γ r h
    show u * (nds x ++ []).length + sumL ((nds x ++ []).map f) = cw u v x + 0
    rw [List.append_nil, ih γ r (fun z hz => h z (ml _ hz))]; omega
  · intro p x l b e md hmd _ _ w1 w2 i1 i2 γ r h
    show u * (nds x ++ nds l).length + sumL ((nds x ++ nds l).map f) = cw u v x + cw u v l
    rw [l2, i1 γ r (fun z hz => h z (ml _ hz)), i2 γ r (fun z hz => h z (mr _ hz))]
theorem cw_le {x : TR} {p e md : Nat} (w : Wt K x p e md) : cw 1 0 x + p ≤ e := by
  refine Wt_ind (K := K) (P := fun x p e md => cw 1 0 x + p ≤ e) ?_ ?_ ?_ ?_ ?_ ?_ ?_ ?_ ?_ ?_ ?_ ?_ ?_ ?_ ?_ (tsz x) x p e md (Nat.le_refl _) w
  · intro p md _; show 1 + p ≤ p + 1; omega
  · intro p md _; show 1 + p ≤ p + 1; omega
  · intro p md _; show 1 + p ≤ p + 1; omega
  · intro p md _; show 0 + 1 + p ≤ p + 3; omega
  · intro p as b md _ _ w1 ih; show cw 1 0 as + 1 + p ≤ b + 1; omega
  · intro p x y b e md _ w1 w2 i1 i2; show cw 1 0 x + (cw 1 0 y + 1) + p ≤ e; omega
  · intro p x y z b c e md w1 w2 w3 i1 i2 i3; have := Wt_lt w2; have := Wt_lt w3; show cw 1 0 x + 1 + p ≤ e; omega
  · intro p fs c ns g b d f' e md _ _ w1 w2 w3 w4 i1 i2 i3 i4; have := Wt_lt w3; have := Wt_lt w4; show cw 1 0 fs + (1 + (0 + cw 1 0 c)) + p ≤ e; omega
  · intro p x e md _ w1 ih; show cw 1 0 x + 1 + p ≤ e; omega
  · intro p j x y e md _ w1 w2 i1 i2; show cw 1 0 x + (cw 1 0 y + 1) + p ≤ e; omega
  · intro p j x y b md w1 w2 i1 i2; show cw 1 0 x + (cw 1 0 y + 1) + p ≤ b + 1; omega
  · intro p x y b e md _ _ w1 w2 i1 i2; have := Wt_lt w2; show cw 1 0 x + 1 + p ≤ e; omega
  · intro p x b md w1 ih; show cw 1 0 x + 1 + p ≤ b + 1; omega
  · intro p x b md hmd _ w1 ih
    have g0 : p ≤ (if md = 101 then p else p + 2) := by split <;> omega
    show cw 1 0 x + 0 + p ≤ b; omega
  · intro p x l b e md hmd _ _ w1 w2 i1 i2
    have g0 : p ≤ (if md = 101 then p else p + 2) := by split <;> omega
    show cw 1 0 x + cw 1 0 l + p ≤ e; omega
theorem pcT_at {y : TR} {p e : Nat} (w : PW K y p e) {z : TR × List Nat × Nat} (hz : z ∈ scP y) : pcT u v (scP y) (otk z.1) = pcw u v z.1 := by
  unfold pcT
  cases h : (scP y).find? (fun z' => otk z'.1 == otk z.1) with
  | none =>
    have := List.find?_eq_none.mp h z hz
    exact absurd (beq_self_eq_true _) this
  | some z' =>
    have h1 := List.mem_of_find?_eq_some h
    have h2 := List.find?_some h
    have h2 : otk z'.1 = otk z.1 := eq_of_beq h2
    have := (ou_P w).2 z' h1 z hz h2
    subst this
    rfl
end CST
