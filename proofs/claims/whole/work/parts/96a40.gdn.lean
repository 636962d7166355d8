/-! a program without faults: every name is known, every call fits, every type is right -/
abbrev tyV (K : Nat → Nat) (V : Nat → Int64) (x : TR) : Nat := tyk K (fun i => tvV (V i)) x
def RwT (K : Nat → Nat) (V : Nat → Int64) : TR → Prop
  | .append (.tag p x) r => tyV K V x = tvV (V p) ∧ RwT K V r
  | _ => True
def AgT (K : Nat → Nat) (V : Nat → Int64) : TR → List Nat → Prop
  | .append (.tag _ x) r, b :: l => tyV K V x = tvV (V b) ∧ AgT K V r l
  | _, _ => True
def DsF (V : Nat → Int64) : TR → List Nat → Prop
  | .append (.tag p _) r, pre => (fnd V pre p).isSome = false ∧ DsF V r (p :: pre)
  | _, _ => True
def NsF (V : Nat → Int64) (l : List Nat) : TR → List Nat → Prop
  | .append (.tag p _) r, pre => (fnd V l p).isSome = true ∧ (fnd V pre p).isSome = false ∧ NsF V l r (p :: pre)
  | _, _ => True
def GdN (K : Nat → Nat) (V : Nat → Int64) (ft : List (Nat × Nat)) : TR × List Nat × Nat → Prop
  | (.tag 3 (.tag j _), γ, _) => ∃ b, fnd V γ j = some b
  | (.tag 4 (.tag j as), _, _) => ∃ l, pmF V ft j = some l ∧ l.length = (rts as).length ∧ AgT K V as l
  | (.tag 5 (.tag j (.append x _)), _, _) => tyV K V x = tvV (V (j + 1))
  | (.tag 6 (.tag _ (.append x (.append y z))), _, _) => tyV K V x = 2 ∧ tyV K V z = tyV K V y
  | (.tag 7 (.tag _ (.append fs (.append c (.append ns _)))), _, _) => tyV K V c = 2 ∧ RwT K V fs ∧ DsF V fs [] ∧ RwT K V ns ∧ NsF V (tks fs) ns []
  | (.tag 8 (.tag j x), _, _) => tyV K V x = if K j = 45 then 1 else 2
  | (.tag 9 (.tag j (.append x y)), _, _) => tyV K V x = (if stg (K j) ≤ 2 then 2 else 1) ∧ tyV K V y = if stg (K j) ≤ 2 then 2 else 1
  | (.tag 10 (.tag _ (.append x y)), _, _) => tyV K V x = 3 ∧ tyV K V y = 1
  | (.tag 11 (.tag j (.append x y)), _, _) => tvV (V (j + 1)) = 3 ∧ tvV (V (j + 3)) = 1 ∧ tyV K V x = 1 ∧ tyV K V y = 1
  | _ => True
section GDN
variable {K pl : Nat → Nat} {V : Nat → Int64} {m : Nat} {ft : List (Nat × Nat)}
theorem ck_ok (T : TH K pl V m) {x : TR} {p e t : Nat} (w : Wt K x p e 0) (he : e ≤ m) (h : 4000 ≤ ckX K pl V x t) : tyV K V x = t := by
  unfold ckX chk at h
  by_cases q : tyk K (fun i => tvV (V i)) x = t
  · exact q
  · rw [if_neg q] at h
    have hr := Wt_rt w
    have := T.pl_ (show bgk x ≤ m by omega)
    omega
theorem if_ok {c : Prop} {_ : Decidable c} {j : Nat} (h : 4000 ≤ if c then 4000 else 4 * pl j + 2) (hj : pl j ≤ 500) : c := by
  by_cases q : c
  · exact q
  · rw [if_neg q] at h
    omega
theorem if_no {c : Prop} {_ : Decidable c} {j : Nat} (h : 4000 ≤ if c then 4 * pl j + 2 else 4000) (hj : pl j ≤ 500) : ¬ c := by
  intro q
  rw [if_pos q] at h
  omega
def GdS (K pl : Nat → Nat) (V : Nat → Int64) (m : Nat) (ft : List (Nat × Nat)) (x : TR) (e md : Nat) : Prop := ∀ (γ : List Nat) (md' : Nat) (pre l : List Nat) (r : Nat), e ≤ m → 4000 ≤ lfc K pl V ft x γ md' pre l → (∀ z, z ∈ sbc x γ r → GdN K V ft z) ∧ (md = 102 → md' = 102 → RwT K V x ∧ DsF V x pre) ∧ (md = 102 → md' = 105 → RwT K V x ∧ NsF V l x pre) ∧ (md = 101 → md' = 101 → AgT K V x l)
theorem gd_hd {X : TR} {γ : List Nat} {r : Nat} {l : List (TR × List Nat × Nat)} (hs : sbc X γ r = (X, γ, r) :: l) (h0 : GdN K V ft (X, γ, r)) (h : ∀ z, z ∈ l → GdN K V ft z) : ∀ z, z ∈ sbc X γ r → GdN K V ft z := fun z hz => by
  rw [hs] at hz
  rcases List.mem_cons.mp hz with rfl | hz
  · exact h0
  · exact h z hz
theorem gd_ap {l1 l2 : List (TR × List Nat × Nat)} (h1 : ∀ z, z ∈ l1 → GdN K V ft z) (h2 : ∀ z, z ∈ l2 → GdN K V ft z) : ∀ z, z ∈ l1 ++ l2 → GdN K V ft z := fun z hz => by
  rcases List.mem_append.mp hz with hz | hz
  · exact h1 z hz
  · exact h2 z hz
theorem gd_W (T : TH K pl V m) {x : TR} {p e md : Nat} (w : Wt K x p e md) : GdS K pl V m ft x e md := by
  have tv : ∀ {q : Nat}, q ≤ m → pl q ≤ 500 := fun h => T.pl_ h
  have nl : ∀ z : TR × List Nat × Nat, z ∈ ([] : List (TR × List Nat × Nat)) → GdN K V ft z := fun z h => absurd h List.not_mem_nil
  refine Wt_ind (K := K) (P := fun x p e md => GdS K pl V m ft x e md) ?_ ?_ ?_ ?_ ?_ ?_ ?_ ?_ ?_ ?_ ?_ ?_ ?_ ?_ ?_ (tsz x) x p e md (Nat.le_refl _) w
  · intro p md _ γ md' pre l r he h
    exact ⟨gd_hd rfl trivial nl, fun _ _ => ⟨trivial, trivial⟩, fun _ _ => ⟨trivial, trivial⟩, fun _ _ => trivial⟩
  · intro p md _ γ md' pre l r he h
    exact ⟨gd_hd rfl trivial nl, fun _ _ => ⟨trivial, trivial⟩, fun _ _ => ⟨trivial, trivial⟩, fun _ _ => trivial⟩
  · intro p md _ γ md' pre l r he h
    refine ⟨gd_hd rfl ?_ nl, fun _ _ => ⟨trivial, trivial⟩, fun _ _ => ⟨trivial, trivial⟩, fun _ _ => trivial⟩
    have := if_ok (pl := pl) (j := p) h (tv (by omega))
    exact Option.isSome_iff_exists.mp this
  · intro p md _ γ md' pre l r he h
    refine ⟨gd_hd rfl ?_ nl, fun _ _ => ⟨trivial, trivial⟩, fun _ _ => ⟨trivial, trivial⟩, fun _ _ => trivial⟩
    have h : 4000 ≤ min (if (pmF V ft p).isSome ∧ ((pmF V ft p).getD []).length = (rts .nil).length then 4000 else 4 * pl p + 2) _ := h
    obtain ⟨q1, q2⟩ := if_ok (pl := pl) (j := p) (Nat.le_min.mp h).1 (tv (by omega))
    obtain ⟨a, ha⟩ := Option.isSome_iff_exists.mp q1
    rw [ha] at q2
    exact ⟨a, ha, q2, trivial⟩
  · intro p as b md _ _ w1 ih γ md' pre l r he h
    have h : 4000 ≤ min (if (pmF V ft p).isSome ∧ ((pmF V ft p).getD []).length = (rts as).length then 4000 else 4 * pl p + 2) (lfc K pl V ft as γ 101 [] ((pmF V ft p).getD [])) := h
    have := Wt_lt w1
    obtain ⟨q1, q2⟩ := if_ok (pl := pl) (j := p) (Nat.le_min.mp h).1 (tv (by omega))
    obtain ⟨a, ha⟩ := Option.isSome_iff_exists.mp q1
    rw [ha] at q2 h
    obtain ⟨i1, -, -, i4⟩ := ih γ 101 [] a r (by omega) (Nat.le_min.mp h).2
    exact ⟨gd_hd rfl ⟨a, ha, q2, i4 rfl rfl⟩ i1, fun _ _ => ⟨trivial, trivial⟩, fun _ _ => ⟨trivial, trivial⟩, fun _ _ => trivial⟩
  · intro p x y b e md _ w1 w2 i1 i2 γ md' pre l r he h
    have := Wt_lt w1; have := Wt_lt w2
    have h : 4000 ≤ min (kb pl V γ (p + 1)) (min (lfc K pl V ft x γ 0 [] []) (min (ckX K pl V x (tvV (V (p + 1)))) (lfc K pl V ft y ((p + 1) :: γ) 0 [] []))) := h
    simp only [Nat.le_min] at h
    obtain ⟨h1, h2, h3, h4⟩ := h
    exact ⟨gd_hd rfl (ck_ok T w1 (by omega) h3) (gd_ap (i1 _ _ _ _ r (by omega) h2).1 (i2 _ _ _ _ r (by omega) h4).1), fun _ _ => ⟨trivial, trivial⟩, fun _ _ => ⟨trivial, trivial⟩, fun _ _ => trivial⟩
  · intro p x y z b c e md w1 w2 w3 i1 i2 i3 γ md' pre l r he h
    have := Wt_lt w1; have := Wt_lt w2; have := Wt_lt w3
    have h : 4000 ≤ min (lfc K pl V ft x γ 0 [] []) (min (ckX K pl V x 2) (min (lfc K pl V ft y γ 0 [] []) (min (lfc K pl V ft z γ 0 [] []) (ckX K pl V z (tyk K (fun i => tvV (V i)) y))))) := h
    simp only [Nat.le_min] at h
    obtain ⟨h1, h2, h3, h4, h5⟩ := h
    exact ⟨gd_hd rfl ⟨ck_ok T w1 (by omega) h2, ck_ok T w3 (by omega) h5⟩ (gd_ap (i1 _ _ _ _ r (by omega) h1).1 (gd_ap (i2 _ _ _ _ _ (by omega) h3).1 (i3 _ _ _ _ _ (by omega) h4).1)), fun _ _ => ⟨trivial, trivial⟩, fun _ _ => ⟨trivial, trivial⟩, fun _ _ => trivial⟩
  · intro p fs c ns g b d f e md _ _ w1 w2 w3 w4 i1 i2 i3 i4 γ md' pre l r he h
    have := Wt_lt w1; have := Wt_lt w2; have := Wt_lt w3; have := Wt_lt w4
    have h : 4000 ≤ min (lfc K pl V ft fs γ 102 [] []) (min (lfc K pl V ft c (bnd fs γ) 0 [] []) (min (ckX K pl V c 2) (min (lfc K pl V ft ns (bnd fs γ) 105 [] (tks fs)) (lfc K pl V ft g (bnd fs γ) 0 [] [])))) := h
    simp only [Nat.le_min] at h
    obtain ⟨h1, h2, h3, h4, h5⟩ := h
    obtain ⟨a1, a2, -, -⟩ := i1 _ _ _ _ r (by omega) h1
    obtain ⟨b1, -, b2, -⟩ := i3 _ _ _ _ (4 * p + 1) (by omega) h4
    exact ⟨gd_hd rfl ⟨ck_ok T w2 (by omega) h3, (a2 rfl rfl).1, (a2 rfl rfl).2, (b2 rfl rfl).1, (b2 rfl rfl).2⟩ (gd_ap a1 (gd_ap (i2 _ _ _ _ _ (by omega) h2).1 (gd_ap b1 (i4 _ _ _ _ _ (by omega) h5).1))), fun _ _ => ⟨trivial, trivial⟩, fun _ _ => ⟨trivial, trivial⟩, fun _ _ => trivial⟩
  · intro p x e md _ w1 ih γ md' pre l r he h
    have h : 4000 ≤ min (lfc K pl V ft x γ 0 [] []) (ckX K pl V x (if K p = 45 then 1 else 2)) := h
    simp only [Nat.le_min] at h
    exact ⟨gd_hd rfl (ck_ok T w1 he h.2) (ih _ _ _ _ r he h.1).1, fun _ _ => ⟨trivial, trivial⟩, fun _ _ => ⟨trivial, trivial⟩, fun _ _ => trivial⟩
  · intro p j x y e md _ w1 w2 i1 i2 γ md' pre l r he h
    have := Wt_lt w1; have := Wt_lt w2
    have h : 4000 ≤ min (lfc K pl V ft x γ 0 [] []) (min (ckX K pl V x (if stg (K j) ≤ 2 then 2 else 1)) (min (lfc K pl V ft y γ 0 [] []) (ckX K pl V y (if stg (K j) ≤ 2 then 2 else 1)))) := h
    simp only [Nat.le_min] at h
    obtain ⟨h1, h2, h3, h4⟩ := h
    exact ⟨gd_hd rfl ⟨ck_ok T w1 (by omega) h2, ck_ok T w2 he h4⟩ (gd_ap (i1 _ _ _ _ r (by omega) h1).1 (i2 _ _ _ _ r he h3).1), fun _ _ => ⟨trivial, trivial⟩, fun _ _ => ⟨trivial, trivial⟩, fun _ _ => trivial⟩
  · intro p j x y b md w1 w2 i1 i2 γ md' pre l r he h
    have := Wt_lt w1; have := Wt_lt w2
    have h : 4000 ≤ min (lfc K pl V ft x γ 0 [] []) (min (ckX K pl V x 3) (min (lfc K pl V ft y γ 0 [] []) (ckX K pl V y 1))) := h
    simp only [Nat.le_min] at h
    obtain ⟨h1, h2, h3, h4⟩ := h
    exact ⟨gd_hd rfl ⟨ck_ok T w1 (by omega) h2, ck_ok T w2 (by omega) h4⟩ (gd_ap (i1 _ _ _ _ r (by omega) h1).1 (i2 _ _ _ _ r (by omega) h3).1), fun _ _ => ⟨trivial, trivial⟩, fun _ _ => ⟨trivial, trivial⟩, fun _ _ => trivial⟩
  · intro p x y b e md _ _ w1 w2 i1 i2 γ md' pre l r he h
    have := Wt_lt w1; have := Wt_lt w2
    have h : 4000 ≤ min (kb pl V γ (p + 1)) (min (ctk pl V (p + 1) 3) (min (kb pl V ((p + 1) :: γ) (p + 3)) (min (ctk pl V (p + 3) 1) (min (lfc K pl V ft x γ 0 [] []) (min (ckX K pl V x 1) (min (lfc K pl V ft y ((p + 3) :: (p + 1) :: γ) 0 [] []) (ckX K pl V y 1))))))) := h
    simp only [Nat.le_min] at h
    obtain ⟨h1, h2, h3, h4, h5, h6, h7, h8⟩ := h
    have ct : ∀ {q t : Nat}, q ≤ m → 4000 ≤ ctk pl V q t → tvV (V q) = t := fun {q t} hq u => by
      unfold ctk at u
      by_cases z : tvV (V q) = t
      · exact z
      · rw [if_neg z] at u
        have := tv hq
        omega
    exact ⟨gd_hd rfl ⟨ct (by omega) h2, ct (by omega) h4, ck_ok T w1 (by omega) h6, ck_ok T w2 he h8⟩ (gd_ap (i1 _ _ _ _ r (by omega) h5).1 (i2 _ _ _ _ _ he h7).1), fun _ _ => ⟨trivial, trivial⟩, fun _ _ => ⟨trivial, trivial⟩, fun _ _ => trivial⟩
  · intro p x b md w1 ih γ md' pre l r he h
    exact ⟨gd_hd rfl trivial (ih _ _ _ _ r (by omega) h).1, fun _ _ => ⟨trivial, trivial⟩, fun _ _ => ⟨trivial, trivial⟩, fun _ _ => trivial⟩
  · intro p x b md hmd _ w1 ih γ md' pre l r he h
    have hpb := Wt_lt w1
    have hp : p ≤ m := by
      have : p ≤ (if md = 101 then p else p + 2) := by split <;> omega
      omega
    by_cases e1 : md' = 101
    · subst e1
      cases l with
      | nil =>
        have h : 4000 ≤ min (lfc K pl V ft x γ 0 [] []) (min 4000 (lfc K pl V ft .nil γ 101 [] [])) := h
        simp only [Nat.le_min] at h
        exact ⟨gd_ap (ih _ _ _ _ r he h.1).1 nl, fun _ q => absurd q (by decide), fun _ q => absurd q (by decide), fun _ _ => trivial⟩
      | cons a l =>
        have h : 4000 ≤ min (lfc K pl V ft x γ 0 [] []) (min (ckX K pl V x (tvV (V a))) (lfc K pl V ft .nil γ 101 [] l)) := h
        simp only [Nat.le_min] at h
        exact ⟨gd_ap (ih _ _ _ _ r he h.1).1 nl, fun _ q => absurd q (by decide), fun _ q => absurd q (by decide), fun _ _ => ⟨ck_ok T w1 he h.2.1, trivial⟩⟩
    by_cases e2 : md' = 102
    · subst e2
      have h : 4000 ≤ min (if (fnd V pre p).isSome ∨ (fnd V γ p).isSome then 4 * pl p + 2 else 4000) (min (lfc K pl V ft x γ 0 [] []) (min (ckX K pl V x (tvV (V p))) (lfc K pl V ft .nil γ 102 (p :: pre) []))) := h
      simp only [Nat.le_min] at h
      have g := if_no (pl := pl) (j := p) h.1 (tv hp)
      refine ⟨gd_ap (ih _ _ _ _ r he h.2.1).1 nl, fun _ _ => ⟨⟨ck_ok T w1 he h.2.2.1, trivial⟩, ⟨?_, trivial⟩⟩, fun _ q => absurd q (by decide), fun _ q => absurd q (by decide)⟩
      exact Bool.not_eq_true _ ▸ (fun z => g (.inl z))
    · have h : 4000 ≤ (if md' = 101 then _ else if md' = 102 then _ else min (if (fnd V l p).isSome ∧ ¬ (fnd V pre p).isSome then 4000 else 4 * pl p + 2) (min (lfc K pl V ft x γ 0 [] []) (min (ckX K pl V x (tvV (V p))) (lfc K pl V ft .nil γ 105 (p :: pre) l)))) := h
      rw [if_neg e1, if_neg e2] at h
      simp only [Nat.le_min] at h
      have g := if_ok (pl := pl) (j := p) h.1 (tv hp)
      refine ⟨gd_ap (ih _ _ _ _ r he h.2.1).1 nl, fun _ q => absurd q e2, fun _ _ => ⟨⟨ck_ok T w1 he h.2.2.1, trivial⟩, ⟨g.1, ?_, trivial⟩⟩, fun _ q => absurd q e1⟩
      exact Bool.not_eq_true _ ▸ g.2
  · intro p x rs b e md hmd _ _ w1 w2 i1 i2 γ md' pre l r he h
    have hpb := Wt_lt w1
    have hpe := Wt_lt w2
    have hp : p ≤ m := by
      have : p ≤ (if md = 101 then p else p + 2) := by split <;> omega
      omega
    by_cases e1 : md' = 101
    · subst e1
      cases l with
      | nil =>
        have h : 4000 ≤ min (lfc K pl V ft x γ 0 [] []) (min 4000 (lfc K pl V ft rs γ 101 [] [])) := h
        simp only [Nat.le_min] at h
        obtain ⟨j1, -, -, j4⟩ := i2 _ _ _ _ r he h.2.2
        exact ⟨gd_ap (i1 _ _ _ _ r (by omega) h.1).1 j1, fun _ q => absurd q (by decide), fun _ q => absurd q (by decide), fun _ _ => trivial⟩
      | cons a l =>
        have h : 4000 ≤ min (lfc K pl V ft x γ 0 [] []) (min (ckX K pl V x (tvV (V a))) (lfc K pl V ft rs γ 101 [] l)) := h
        simp only [Nat.le_min] at h
        obtain ⟨j1, -, -, j4⟩ := i2 _ _ _ _ r he h.2.2
        exact ⟨gd_ap (i1 _ _ _ _ r (by omega) h.1).1 j1, fun _ q => absurd q (by decide), fun _ q => absurd q (by decide), fun q _ => ⟨ck_ok T w1 (by omega) h.2.1, j4 q rfl⟩⟩
    by_cases e2 : md' = 102
    · subst e2
      have h : 4000 ≤ min (if (fnd V pre p).isSome ∨ (fnd V γ p).isSome then 4 * pl p + 2 else 4000) (min (lfc K pl V ft x γ 0 [] []) (min (ckX K pl V x (tvV (V p))) (lfc K pl V ft rs γ 102 (p :: pre) []))) := h
      simp only [Nat.le_min] at h
      have g := if_no (pl := pl) (j := p) h.1 (tv hp)
      obtain ⟨j1, j2, -, -⟩ := i2 _ _ _ _ r he h.2.2.2
      refine ⟨gd_ap (i1 _ _ _ _ r (by omega) h.2.1).1 j1, fun q _ => ⟨⟨ck_ok T w1 (by omega) h.2.2.1, (j2 q rfl).1⟩, ⟨?_, (j2 q rfl).2⟩⟩, fun _ q => absurd q (by decide), fun _ q => absurd q (by decide)⟩
      exact Bool.not_eq_true _ ▸ (fun z => g (.inl z))
    · have h : 4000 ≤ (if md' = 101 then _ else if md' = 102 then _ else min (if (fnd V l p).isSome ∧ ¬ (fnd V pre p).isSome then 4000 else 4 * pl p + 2) (min (lfc K pl V ft x γ 0 [] []) (min (ckX K pl V x (tvV (V p))) (lfc K pl V ft rs γ 105 (p :: pre) l)))) := h
      rw [if_neg e1, if_neg e2] at h
      simp only [Nat.le_min] at h
      have g := if_ok (pl := pl) (j := p) h.1 (tv hp)
      obtain ⟨j1, -, j3, -⟩ := i2 _ _ _ _ r he h.2.2.2
      refine ⟨gd_ap (i1 _ _ _ _ r (by omega) h.2.1).1 j1, fun _ q => absurd q e2, fun q _ => ⟨⟨ck_ok T w1 (by omega) h.2.2.1, (j3 q rfl).1⟩, ⟨g.1, ?_, (j3 q rfl).2⟩⟩, fun _ q => absurd q e1⟩
      exact Bool.not_eq_true _ ▸ g.2
/-- the whole program -/
theorem gd_P (T : TH K pl V m) {y : TR} {p e : Nat} (w : PW K y p e) : ∀ fns, e ≤ m → 4000 ≤ rP K pl V ft y fns → (∀ z, z ∈ scP y → GdN K V ft z) ∧ ∀ q cnt x, (q, cnt, x) ∈ fuP y → tyV K V x = tvV (V q) := by
  refine PW_ind (K := K) (P := fun y p e => ∀ fns, e ≤ m → 4000 ≤ rP K pl V ft y fns → (∀ z, z ∈ scP y → GdN K V ft z) ∧ ∀ q cnt x, (q, cnt, x) ∈ fuP y → tyV K V x = tvV (V q)) ?_ ?_ (tsz y) y p e (Nat.le_refl _) w
  · intro p cnt x b e0 _ _ _ w1 hb fns he h
    have h : 4000 ≤ min (min (ffd pl V fns p) (min (fpa pl V [] (p + 2) cnt) (min (lfc K pl V ft x (pms (p + 2) cnt).reverse 0 [] []) (ckX K pl V x (tvV (V p)))))) _ := h
    simp only [Nat.le_min] at h
    obtain ⟨⟨h1, h2, h3, h4⟩, h5⟩ := h
    refine ⟨gd_ap (gd_W T w1 _ _ _ _ _ (by omega) h3).1 (fun z hz => absurd hz List.not_mem_nil), fun q cnt' x' hq => ?_⟩
    have hq := List.mem_singleton.mp hq
    cases hq
    exact ck_ok T w1 (by omega) h4
  · intro p cnt x r b e0 e _ _ _ w1 hb _ w2 ih fns he h
    have := PW_lt w2
    have h : 4000 ≤ min (min (ffd pl V fns p) (min (fpa pl V [] (p + 2) cnt) (min (lfc K pl V ft x (pms (p + 2) cnt).reverse 0 [] []) (ckX K pl V x (tvV (V p)))))) (rP K pl V ft r (fns ++ [p])) := h
    simp only [Nat.le_min] at h
    obtain ⟨⟨h1, h2, h3, h4⟩, h5⟩ := h
    obtain ⟨j1, j2⟩ := ih _ he h5
    refine ⟨gd_ap (gd_W T w1 _ _ _ _ _ (by omega) h3).1 j1, fun q cnt' x' hq => ?_⟩
    rcases List.mem_cons.mp hq with hq | hq
    · cases hq
      exact ck_ok T w1 (by omega) h4
    · exact j2 q cnt' x' hq
/-- what a call calls -/
theorem pm_fu {y : TR} {p e : Nat} (w : PW K y p e) : ∀ j l, pmF V (ftP y) j = some l → ∃ i q cnt x, idx V ((ftP y).map Prod.fst) j = some i ∧ (fuP y)[i]? = some (q, cnt, x) ∧ l = pms (q + 2) cnt ∧ V q = V j := by
  refine PW_ind (K := K) (P := fun y p e => ∀ j l, pmF V (ftP y) j = some l → ∃ i q cnt x, idx V ((ftP y).map Prod.fst) j = some i ∧ (fuP y)[i]? = some (q, cnt, x) ∧ l = pms (q + 2) cnt ∧ V q = V j) ?_ ?_ (tsz y) y p e (Nat.le_refl _) w
  · intro p cnt x b e0 _ _ _ w1 hb j l h
    have h : (if V p = V j then some (pms (p + 2) cnt) else none) = some l := h
    by_cases q : V p = V j
    · rw [if_pos q] at h
      cases h
      exact ⟨0, p, cnt, x, if_pos q, rfl, rfl, q⟩
    · rw [if_neg q] at h
      cases h
  · intro p cnt x r b e0 e _ _ _ w1 hb _ w2 ih j l h
    have h : (if V p = V j then some (pms (p + 2) cnt) else pmF V (ftP r) j) = some l := h
    by_cases q : V p = V j
    · rw [if_pos q] at h
      cases h
      exact ⟨0, p, cnt, x, if_pos q, rfl, rfl, q⟩
    · rw [if_neg q] at h
      obtain ⟨i, q', cnt', x', a1, a2, a3, a4⟩ := ih j l h
      refine ⟨i + 1, q', cnt', x', ?_, a2, a3, a4⟩
      show (if V p = V j then some 0 else (idx V ((ftP r).map Prod.fst) j).map (· + 1)) = some (i + 1)
      rw [if_neg q, a1]
      rfl
end GDN
