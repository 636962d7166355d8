/-! the regions of nodes; paths as runs make them; names are bound around -/
def inR (g : List (Nat × List Nat × Option Nat)) : TR → Prop
  | .tag 6 (.tag j (.append _ (.append b c))) => (4 * j, nds b, some (otk b)) ∈ g ∧ (4 * j + 1, nds c, some (otk c)) ∈ g
  | .tag 7 (.tag j (.append _ (.append c (.append ns h)))) => (4 * j, nds c, some (otk c)) ∈ g ∧ (4 * j + 1, nds ns, none) ∈ g ∧ (4 * j + 2, nds h, some (otk h)) ∈ g
  | .tag 11 (.tag j (.append _ b)) => (4 * j, nds b, some (otk b)) ∈ g
  | _ => True
theorem inR_mono {g g' : List (Nat × List Nat × Option Nat)} (h : ∀ a, a ∈ g → a ∈ g') {x : TR} (hs : shp x) (q : inR g x) : inR g' x := by
  rcases hs with ⟨j, rfl⟩ | ⟨j, rfl⟩ | ⟨j, rfl⟩ | ⟨j, as, rfl⟩ | ⟨j, a, b, rfl⟩ | ⟨j, a, b, c, rfl⟩ | ⟨j, fs, c, ns, g, rfl⟩ | ⟨j, a, rfl⟩ | ⟨j, a, b, rfl⟩ | ⟨j, a, b, rfl⟩ | ⟨j, a, b, rfl⟩ | ⟨j, a, rfl⟩
  · trivial
  · trivial
  · trivial
  · trivial
  · trivial
  · exact ⟨h _ q.1, h _ q.2⟩
  · exact ⟨h _ q.1, h _ q.2.1, h _ q.2.2⟩
  · trivial
  · trivial
  · trivial
  · exact h _ q
  · trivial
def RLs (x : TR) : Prop := ∀ (γ : List Nat) (r : Nat) (z : TR × List Nat × Nat), z ∈ sbc x γ r → shp z.1 ∧ inR (rgs x) z.1
section RLS
variable {K : Nat → Nat}
theorem RL_up {X x : TR} (h : RLs x) (hs : ∀ g, g ∈ rgs x → g ∈ rgs X) : ∀ (γ : List Nat) (r : Nat) (z : TR × List Nat × Nat), z ∈ sbc x γ r → shp z.1 ∧ inR (rgs X) z.1 := fun γ r z hz => ⟨(h γ r z hz).1, inR_mono hs (h γ r z hz).1 (h γ r z hz).2⟩
theorem rl_ap {G : List (Nat × List Nat × Option Nat)} {l1 l2 : List (TR × List Nat × Nat)} (h1 : ∀ z : TR × List Nat × Nat, z ∈ l1 → shp z.1 ∧ inR G z.1) (h2 : ∀ z : TR × List Nat × Nat, z ∈ l2 → shp z.1 ∧ inR G z.1) : ∀ z : TR × List Nat × Nat, z ∈ l1 ++ l2 → shp z.1 ∧ inR G z.1 := fun z hz => by
  rcases List.mem_append.mp hz with hz | hz
  · exact h1 z hz
  · exact h2 z hz
theorem rl_hd {X : TR} {γ : List Nat} {r : Nat} {l : List (TR × List Nat × Nat)} (hs : sbc X γ r = (X, γ, r) :: l) (h : TL K (sbc X γ r)) (h0 : inR (rgs X) X) (h2 : ∀ z : TR × List Nat × Nat, z ∈ l → shp z.1 ∧ inR (rgs X) z.1) : ∀ z : TR × List Nat × Nat, z ∈ sbc X γ r → shp z.1 ∧ inR (rgs X) z.1 := fun z hz => by
  refine ⟨(h z hz).2.1, ?_⟩
  rw [hs] at hz
  rcases List.mem_cons.mp hz with rfl | hz
  · exact h0
  · exact (h2 z hz).2
theorem rl_W {x : TR} {p e md : Nat} (w : Wt K x p e md) : RLs x := by
  have nl : ∀ {G : List (Nat × List Nat × Option Nat)} (z : TR × List Nat × Nat), z ∈ ([] : List (TR × List Nat × Nat)) → shp z.1 ∧ inR G z.1 := fun z h => absurd h List.not_mem_nil
  have sf : ∀ {α : Type} {l : List α} (t : α), t ∈ l → t ∈ l := fun _ h => h
  refine Wt_ind (K := K) (P := fun x p e md => Wt K x p e md → RLs x) ?_ ?_ ?_ ?_ ?_ ?_ ?_ ?_ ?_ ?_ ?_ ?_ ?_ ?_ ?_ (tsz x) x p e md (Nat.le_refl _) w w
  · intro p md _ w γ r; exact rl_hd rfl (tl_W w γ r) trivial nl
  · intro p md _ w γ r; exact rl_hd rfl (tl_W w γ r) trivial nl
  · intro p md _ w γ r; exact rl_hd rfl (tl_W w γ r) trivial nl
  · intro p md _ w γ r; exact rl_hd rfl (tl_W w γ r) trivial nl
  · intro p as b md _ _ w1 ih w γ r; exact rl_hd rfl (tl_W w γ r) trivial (RL_up (X := aCal p as) (ih w1) sf _ _)
  · intro p x y b e md _ w1 w2 i1 i2 w γ r; exact rl_hd rfl (tl_W w γ r) trivial (rl_ap (RL_up (X := aLet p x y) (i1 w1) ml _ _) (RL_up (X := aLet p x y) (i2 w2) mr _ _))
  · intro p x y z b c e md w1 w2 w3 i1 i2 i3 w γ r
    refine rl_hd rfl (tl_W w γ r) ⟨?_, ?_⟩ (rl_ap (RL_up (X := aIf p x y z) (i1 w1) ml _ _) (rl_ap (RL_up (X := aIf p x y z) (i2 w2) (mco mc (mco ml mr)) _ _) (RL_up (X := aIf p x y z) (i3 w3) (mco mc (mco mr mr)) _ _)))
    · exact mr _ (ml _ List.mem_cons_self)
    · exact mr _ (mr _ List.mem_cons_self)
  · intro p fs c ns g b d f e md _ _ w1 w2 w3 w4 i1 i2 i3 i4 w γ r
    refine rl_hd rfl (tl_W w γ r) ⟨?_, ?_, ?_⟩ (rl_ap (RL_up (X := aLoop p fs c ns g) (i1 w1) ml _ _) (rl_ap (RL_up (X := aLoop p fs c ns g) (i2 w2) (mco mc (mco ml mr)) _ _) (rl_ap (RL_up (X := aLoop p fs c ns g) (i3 w3) (mco mc (mco ml (mco mr mr))) _ _) (RL_up (X := aLoop p fs c ns g) (i4 w4) (mco mc (mco mr (mco mr mr))) _ _))))
    · exact mr _ (ml _ List.mem_cons_self)
    · exact mr _ (mr _ (ml _ List.mem_cons_self))
    · exact mr _ (mr _ (mr _ List.mem_cons_self))
  · intro p x e md _ w1 ih w γ r; exact rl_hd rfl (tl_W w γ r) trivial (RL_up (X := aSig p x) (ih w1) sf _ _)
  · intro p j x y e md _ w1 w2 i1 i2 w γ r; exact rl_hd rfl (tl_W w γ r) trivial (rl_ap (RL_up (X := aBin j x y) (i1 w1) ml _ _) (RL_up (X := aBin j x y) (i2 w2) mr _ _))
  · intro p j x y b md w1 w2 i1 i2 w γ r; exact rl_hd rfl (tl_W w γ r) trivial (rl_ap (RL_up (X := aCel j x y) (i1 w1) ml _ _) (RL_up (X := aCel j x y) (i2 w2) mr _ _))
  · intro p x y b e md _ _ w1 w2 i1 i2 w γ r
    refine rl_hd rfl (tl_W w γ r) ?_ (rl_ap (RL_up (X := aTab p x y) (i1 w1) ml _ _) (RL_up (X := aTab p x y) (i2 w2) (mco mc mr) _ _))
    exact mr _ List.mem_cons_self
  · intro p x b md w1 ih w γ r; exact rl_hd rfl (tl_W w γ r) trivial (RL_up (X := aBrk p x) (ih w1) sf _ _)
  · intro p x b md hmd _ w1 ih w γ r
    exact rl_ap (RL_up (X := .append (.tag p x) .nil) (ih w1) ml _ _) nl
  · intro p x l b e md hmd _ _ w1 w2 i1 i2 w γ r
    exact rl_ap (RL_up (X := .append (.tag p x) l) (i1 w1) ml _ _) (RL_up (X := .append (.tag p x) l) (i2 w2) mr _ _)
theorem in_P {y : TR} {p e : Nat} (w : PW K y p e) : ∀ z, z ∈ scP y → inR (rgP y) z.1 := by
  refine PW_ind (K := K) (P := fun y p e => ∀ z, z ∈ scP y → inR (rgP y) z.1) ?_ ?_ (tsz y) y p e (Nat.le_refl _) w
  · intro p cnt x b e0 _ _ _ w1 hb z hz
    rcases List.mem_append.mp hz with hz | hz
    · obtain ⟨a, b⟩ := rl_W w1 _ _ z hz
      exact inR_mono (fun g hg => List.mem_append_left _ (List.mem_cons_of_mem _ hg)) a b
    · exact absurd hz List.not_mem_nil
  · intro p cnt x r b e0 e _ _ _ w1 hb _ w2 ih z hz
    rcases List.mem_append.mp hz with hz | hz
    · obtain ⟨a, b⟩ := rl_W w1 _ _ z hz
      exact inR_mono (fun g hg => List.mem_append_left _ (List.mem_cons_of_mem _ hg)) a b
    · exact inR_mono (fun g hg => List.mem_append_right _ hg) ((tl_P w2) z hz).2.1 (ih z hz)
/-- each region has its own number -/
theorem mp_inj {ρ : Nat → Nat} {rg : List (Nat × List Nat × Option Nat)} (h : mpR ρ rg 0) {g g' : Nat × List Nat × Option Nat} (hg : g ∈ rg) (hg' : g' ∈ rg) (q : ρ g.1 = ρ g'.1) : g = g' := by
  obtain ⟨i, hi⟩ := List.getElem?_of_mem hg
  obtain ⟨i', hi'⟩ := List.getElem?_of_mem hg'
  have e1 : (rg.map (fun g => ρ g.1))[i]? = some (ρ g.1) := by rw [List.getElem?_map, hi]; rfl
  have e2 : (rg.map (fun g => ρ g.1))[i']? = some (ρ g'.1) := by rw [List.getElem?_map, hi']; rfl
  have l1 := (List.getElem?_eq_some_iff.mp hi).1
  have l2 := (List.getElem?_eq_some_iff.mp hi').1
  unfold mpR at h
  rw [h, List.getElem?_range' (by omega)] at e1 e2
  have e1 := Option.some.inj e1
  have e2 := Option.some.inj e2
  have : i = i' := by omega
  subst this
  rw [hi] at hi'
  exact Option.some.inj hi'
theorem mp_lt {ρ : Nat → Nat} {rg : List (Nat × List Nat × Option Nat)} (h : mpR ρ rg 0) {g : Nat × List Nat × Option Nat} (hg : g ∈ rg) : ρ g.1 < rg.length := by
  obtain ⟨i, hi⟩ := List.getElem?_of_mem hg
  have e1 : (rg.map (fun g => ρ g.1))[i]? = some (ρ g.1) := by rw [List.getElem?_map, hi]; rfl
  have l1 := (List.getElem?_eq_some_iff.mp hi).1
  unfold mpR at h
  rw [h, List.getElem?_range' (by omega)] at e1
  have e1 := Option.some.inj e1
  omega
end RLS
/-- region c lies in region r -/
def ParN (c r : Nat) : TR × List Nat × Nat → Prop
  | (.tag 6 (.tag j _), _, r') => (c = 4 * j ∨ c = 4 * j + 1) ∧ r = r'
  | (.tag 7 (.tag j _), _, r') => (c = 4 * j ∧ r = r') ∨ ((c = 4 * j + 1 ∨ c = 4 * j + 2) ∧ r = 4 * j)
  | (.tag 11 (.tag j _), _, r') => c = 4 * j ∧ r = r'
  | _ => False
/-- a function is called there -/
def CalR (V : Nat → Int64) (y : TR) (c : Nat × Nat) (r : Nat) : Prop := ∃ as γ i q cnt x, (.tag 4 (.tag c.2 as), γ, r) ∈ scP y ∧ idx V ((ftP y).map Prod.fst) c.2 = some i ∧ (fuP y)[i]? = some (q, cnt, x) ∧ c.1 = 4 * q
def POk (V : Nat → Int64) (y : TR) : TPth → Prop
  | [] => False
  | [c] => ∃ q cnt x, (q, cnt, x) ∈ fuP y ∧ c = (4 * q, 0)
  | c :: c' :: Q => (CalR V y c c'.1 ∨ ∃ z, z ∈ scP y ∧ ParN c.1 c'.1 z) ∧ POk V y (c' :: Q)
/-- up to the function at most -/
def upF (y : TR) (r0 : Nat) : TPth → TPth
  | [] => []
  | c :: Q => if c.1 = r0 then c :: Q else if c.1 / 4 ∈ (ftP y).map Prod.fst then [] else upF y r0 Q
def VrS (y : TR) (P : TPth) (b : Nat) : Prop :=
  (∃ p cnt x z, (p, cnt, x) ∈ fuP y ∧ z < cnt ∧ b = p + 2 + 2 * z ∧ upF y (4 * p) P ≠ []) ∨
  (∃ j x x' γ r, (.tag 5 (.tag j (.append x x')), γ, r) ∈ scP y ∧ b = j + 1 ∧ upF y r P ≠ []) ∨
  (∃ j fs c ns g γ r, (.tag 7 (.tag j (.append fs (.append c (.append ns g)))), γ, r) ∈ scP y ∧ b ∈ tks fs ∧ upF y (4 * j) P ≠ []) ∨
  (∃ j x x' γ r, (.tag 11 (.tag j (.append x x')), γ, r) ∈ scP y ∧ b = j + 3 ∧ upF y (4 * j) P ≠ []) ∨
  (∃ j x x' γ r, (.tag 11 (.tag j (.append x x')), γ, r) ∈ scP y ∧ b = j + 1 ∧ upF y r P ≠ [] ∧ upF y (4 * j) P ≠ [])
section VRS
variable {K : Nat → Nat} {V : Nat → Int64} {y : TR}
theorem upF_up {r0 : Nat} : ∀ P : TPth, upF y r0 P ≠ [] → upP r0 P = upF y r0 P ∧ ∃ i Q, upF y r0 P = (r0, i) :: Q := by
  intro P
  induction P with
  | nil => intro h; exact absurd rfl h
  | cons c Q ih =>
    intro h
    by_cases h1 : c.1 = r0
    · have e1 : upF y r0 (c :: Q) = c :: Q := if_pos h1
      refine ⟨(if_pos h1).trans e1.symm, c.2, Q, ?_⟩
      rw [e1, ← h1]
    · by_cases h2 : c.1 / 4 ∈ (ftP y).map Prod.fst
      · exact absurd ((if_neg h1).trans (if_pos h2)) h
      · have e1 : upF y r0 (c :: Q) = upF y r0 Q := (if_neg h1).trans (if_neg h2)
        rw [e1] at h ⊢
        obtain ⟨a, b⟩ := ih h
        exact ⟨(if_neg h1).trans a, b⟩
theorem upF_hd {r0 i : Nat} {Q : TPth} : upF y r0 ((r0, i) :: Q) ≠ [] := by
  rw [show upF y r0 ((r0, i) :: Q) = (r0, i) :: Q from if_pos rfl]
  exact List.cons_ne_nil _ _
theorem upF_cn {r0 : Nat} {c : Nat × Nat} {Q : TPth} (hc : ¬ c.1 / 4 ∈ (ftP y).map Prod.fst) (h : upF y r0 Q ≠ []) : upF y r0 (c :: Q) ≠ [] := by
  by_cases h1 : c.1 = r0
  · rw [show upF y r0 (c :: Q) = c :: Q from if_pos h1]
    exact List.cons_ne_nil _ _
  · rw [show upF y r0 (c :: Q) = upF y r0 Q from (if_neg h1).trans (if_neg hc)]
    exact h
theorem VrS_cn {b : Nat} {c : Nat × Nat} {Q : TPth} (hc : ¬ c.1 / 4 ∈ (ftP y).map Prod.fst) (h : VrS y Q b) : VrS y (c :: Q) b := by
  rcases h with ⟨p, cnt, x, z, a1, a2, a3, a4⟩ | ⟨j, x, x', γ, r, a1, a2, a3⟩ | ⟨j, fs, c', ns, g, γ, r, a1, a2, a3⟩ | ⟨j, x, x', γ, r, a1, a2, a3⟩ | ⟨j, x, x', γ, r, a1, a2, a3⟩
  · exact .inl ⟨p, cnt, x, z, a1, a2, a3, upF_cn hc a4⟩
  · exact .inr (.inl ⟨j, x, x', γ, r, a1, a2, upF_cn hc a3⟩)
  · exact .inr (.inr (.inl ⟨j, fs, c', ns, g, γ, r, a1, a2, upF_cn hc a3⟩))
  · exact .inr (.inr (.inr (.inl ⟨j, x, x', γ, r, a1, a2, upF_cn hc a3⟩)))
  · exact .inr (.inr (.inr (.inr ⟨j, x, x', γ, r, a1, a2, upF_cn hc a3.1, upF_cn hc a3.2⟩)))
/-- whose region it is -/
theorem par_ot {c r : Nat} {z : TR × List Nat × Nat} (hs : shp z.1) (h : ParN c r z) : c / 4 = otk z.1 := by
  obtain ⟨x, γ, r'⟩ := z
  rcases hs with ⟨j, rfl⟩ | ⟨j, rfl⟩ | ⟨j, rfl⟩ | ⟨j, as, rfl⟩ | ⟨j, a, b, rfl⟩ | ⟨j, a, b, c, rfl⟩ | ⟨j, fs, c, ns, g, rfl⟩ | ⟨j, a, rfl⟩ | ⟨j, a, b, rfl⟩ | ⟨j, a, b, rfl⟩ | ⟨j, a, b, rfl⟩ | ⟨j, a, rfl⟩
  · exact absurd h id
  · exact absurd h id
  · exact absurd h id
  · exact absurd h id
  · exact absurd h id
  · rcases h with ⟨rfl | rfl, -⟩
    · show 4 * j / 4 = j; omega
    · show (4 * j + 1) / 4 = j; omega
  · rcases h with ⟨rfl, -⟩ | ⟨rfl | rfl, -⟩
    · show 4 * j / 4 = j; omega
    · show (4 * j + 1) / 4 = j; omega
    · show (4 * j + 2) / 4 = j; omega
  · exact absurd h id
  · exact absurd h id
  · exact absurd h id
  · obtain ⟨rfl, -⟩ := h
    show 4 * j / 4 = j; omega
  · exact absurd h id
/-- what is around a region of a node -/
theorem P_par {e : Nat} (w : PW K y 0 e) {z : TR × List Nat × Nat} (hz : z ∈ scP y) {k i : Nat} (hk : k < 4) {Q : TPth} (h : POk V y ((4 * otk z.1 + k, i) :: Q)) : ∃ c' Q', Q = c' :: Q' ∧ ParN (4 * otk z.1 + k) c'.1 z ∧ POk V y Q ∧ ¬ (4 * otk z.1 + k) / 4 ∈ (ftP y).map Prod.fst := by
  have hn : ¬ (4 * otk z.1 + k) / 4 ∈ (ftP y).map Prod.fst := by
    rw [show (4 * otk z.1 + k) / 4 = otk z.1 by omega]
    exact fun q => (ft_fu w).2.2 _ q z hz rfl
  cases Q with
  | nil =>
    obtain ⟨q, cnt, x, h1, h2⟩ := h
    have h2 : 4 * otk z.1 + k = 4 * q := congrArg Prod.fst h2
    exact absurd (by rw [h2, show 4 * q / 4 = q by omega]; exact fu_ft w h1) hn
  | cons c' Q' =>
    refine ⟨c', Q', rfl, ?_, h.2, hn⟩
    rcases h.1 with ⟨as, γ, i', q, cnt, x, h1, h2, h3, h4⟩ | ⟨z', h1, h2⟩
    · have h4 : 4 * otk z.1 + k = 4 * q := h4
      exact absurd (by rw [h4, show 4 * q / 4 = q by omega]; exact fu_ft w (List.mem_of_getElem? h3)) hn
    · have e1 := par_ot ((tl_P w) z' h1).2.1 h2
      have e1 : (4 * otk z.1 + k) / 4 = otk z'.1 := e1
      have := (ou_P w).2 z' h1 z hz (by omega)
      rw [this] at h2
      exact h2
end VRS
