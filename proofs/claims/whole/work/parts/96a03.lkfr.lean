/-! while the reference looks: what stays -/
def FLk (pl : Nat → Nat) (S S' : im_S) (p e n : Nat) : Prop :=
  (∀ a i : Nat, (a = 75 → i ≠ 3 ∧ i ≠ 4 ∧ i ≠ 52) → a ≠ 88 → (a = 84 → S.1 81 i ≠ 4 ∨ ∀ j, p ≤ j → j < e → S.1 82 i ≠ nI (pl j)) → (113 ≤ a → a ≤ 115 → ∀ j, p ≤ j → j < e → S.1 82 i ≠ nI (pl j)) → (117 ≤ a → a ≤ 119 → i < n) → S'.1 a i = S.1 a i) ∧ ∀ a i : Nat, (a = 116 → i < n) → S'.2.1 a i = S.2.1 a i
def WbL (W : Nat → Int32 × Int32 × Int32) (w : Int32) : TR → Nat → Prop
  | .append (.tag p _) l, i => W p = (3, w, nI i) ∧ WbL W w l (i + 1)
  | _, _ => True
/-- by what each name is bound -/
def WN (W : Nat → Int32 × Int32 × Int32) (ν : Nat → Nat) : TR → Prop
  | .tag 5 (.tag j _) => W (j + 1) = (2, nI (ν j), 0)
  | .tag 7 (.tag j (.append fs _)) => WbL W (nI (ν j)) fs 0
  | .tag 11 (.tag j _) => W (j + 1) = (5, nI (ν j), 0) ∧ W (j + 3) = (4, nI (ν j), 0)
  | _ => True
def WOKs (W : Nat → Int32 × Int32 × Int32) (ν : Nat → Nat) (x : TR) : Prop := ∀ y, y ∈ sbs x → WN W ν y
/-- what look leaves at a name and at a call -/
def BN (V : Nat → Int64) (W : Nat → Int32 × Int32 × Int32) (fr : Nat) (ft : List (Nat × Nat)) (ν : Nat → Nat) (S : im_S) (c : TR × List Nat × Nat) : Prop := match c.1 with
  | .tag 3 (.tag j _) => ∀ b, fnd V c.2.1 j = some b → S.1 113 (ν j) = (W b).1 ∧ S.1 114 (ν j) = (W b).2.1 ∧ S.1 115 (ν j) = (W b).2.2
  | .tag 4 (.tag j _) => ∀ k, idx V (ft.map Prod.fst) j = some k → S.1 84 (ν j) = nI (fr + k)
  | _ => True
def BL (V : Nat → Int64) (W : Nat → Int32 × Int32 × Int32) (fr : Nat) (ft : List (Nat × Nat)) (ν : Nat → Nat) (S : im_S) (x : TR) (γ : List Nat) : Prop := ∀ (r : Nat) (c : TR × List Nat × Nat), c ∈ sbc x γ r → BN V W fr ft ν S c
section LKF
variable {K pl : Nat → Nat} {V : Nat → Int64} {m fu fr : Nat} {ft : List (Nat × Nat)} {W : Nat → Int32 × Int32 × Int32} {S S' S1 S2 : im_S} {lo hi rlo rhi p e n : Nat} {ν : Nat → Nat}
theorem FLk_refl (S : im_S) (p e n : Nat) : FLk pl S S p e n := ⟨fun _ _ _ _ _ _ _ => rfl, fun _ _ _ => rfl⟩
theorem FLk_pl {a i : Nat} (F : FLk pl S S' p e n) (h : a = 81 ∨ a = 82) : S'.1 a i = S.1 a i := F.1 a i (by omega) (by omega) (by omega) (by omega) (by omega)
theorem FLk_trans {p1 e1 n1 p2 e2 n2 : Nat} (F : FLk pl S S1 p1 e1 n1) (F2 : FLk pl S1 S2 p2 e2 n2) (h1 : p ≤ p1) (h2 : e1 ≤ e) (h3 : p ≤ p2) (h4 : e2 ≤ e) (h5 : n ≤ n1) (h6 : n ≤ n2) : FLk pl S S2 p e n := by
  refine ⟨fun a i q1 q2 q3 q4 q5 => ?_, fun a i q => ?_⟩
  · have E81 := FLk_pl (a := 81) (i := i) F (by omega)
    have E82 := FLk_pl (a := 82) (i := i) F (by omega)
    have g1 : S1.1 a i = S.1 a i := F.1 a i q1 q2 (fun z => (q3 z).imp id (fun u j w1 w2 => u j (by omega) (by omega))) (fun z1 z2 j w1 w2 => q4 z1 z2 j (by omega) (by omega)) (fun z1 z2 => by have := q5 z1 z2; omega)
    rw [← g1]
    refine F2.1 a i q1 q2 (fun z => ?_) (fun z1 z2 j w1 w2 => ?_) (fun z1 z2 => by have := q5 z1 z2; omega)
    · rw [E81, E82]; exact (q3 z).imp id (fun u j w1 w2 => u j (by omega) (by omega))
    · rw [E82]; exact q4 z1 z2 j (by omega) (by omega)
  · rw [F2.2 a i (fun z => by have := q z; omega), F.2 a i (fun z => by have := q z; omega)]
theorem FLk_wk {p1 e1 n1 : Nat} (F : FLk pl S S1 p1 e1 n1) (h1 : p ≤ p1) (h2 : e1 ≤ e) (h5 : n ≤ n1) : FLk pl S S1 p e n := FLk_trans F (FLk_refl S1 p e n) h1 h2 (Nat.le_refl _) (Nat.le_refl _) h5 (Nat.le_refl _)
/-- a step that changes the fault alone, the number of known names and what lies above -/
theorem FLk_s (h1 : ∀ a i : Nat, (a = 75 → i ≠ 3 ∧ i ≠ 4 ∧ i ≠ 52) → a ≠ 88 → (117 ≤ a → a ≤ 119 → i < n) → S'.1 a i = S.1 a i) (h2 : ∀ a i : Nat, (a = 116 → i < n) → S'.2.1 a i = S.2.1 a i) : FLk pl S S' p e n := ⟨fun a i q1 q2 _ _ q5 => h1 a i q1 q2 q5, h2⟩
theorem FLk_ag (F : FLk pl S S' p e n) (k rl rh : Nat) : AgL S S' 0 k rl rh := ⟨fun a i q1 q2 q3 _ _ q6 => F.1 a i (by omega) q3 (fun z => by rcases q6 with u | u; exact absurd z u; exact Or.inl u) (by omega) (by omega), fun i _ _ => F.2 87 i (by omega), fun i _ _ => ⟨F.1 94 i (by omega) (by omega) (by omega) (by omega) (by omega), F.1 95 i (by omega) (by omega) (by omega) (by omega) (by omega), F.2 93 i (by omega)⟩⟩
theorem RwA_fl (F : FLk pl S S' p e n) : ∀ (x : TR) (i : Nat), RwA S rlo rhi ν x i → RwA S' rlo rhi ν x i := by
  intro x
  induction x with
  | append a l iha ihl =>
    intro i h
    cases a with
    | tag q y =>
      obtain ⟨h1, h2, h3, h4⟩ := h
      exact ⟨h1, h2, by rw [F.1 95 i (by omega) (by omega) (by omega) (by omega) (by omega)]; exact h3, ihl _ h4⟩
    | _ => exact trivial
  | _ => intro _ _; exact trivial
theorem RwB_fl (F : FLk pl S S' p e n) : ∀ (x : TR) (i : Nat), RwB pl V S rlo rhi ν x i → RwB pl V S' rlo rhi ν x i := by
  intro x
  induction x with
  | append a l iha ihl =>
    intro i h
    cases a with
    | tag q y =>
      obtain ⟨h1, h2, h3, h4, h5, h6⟩ := h
      exact ⟨h1, h2, by rw [F.2 93 i (by omega)]; exact h3, by rw [F.1 94 i (by omega) (by omega) (by omega) (by omega) (by omega)]; exact h4, by rw [F.1 95 i (by omega) (by omega) (by omega) (by omega) (by omega)]; exact h5, ihl _ h6⟩
    | _ => exact trivial
  | _ => intro _ _; exact trivial
set_option maxHeartbeats 1000000 in
theorem RN_fl (F : FLk pl S S' p e n) {y : TR} (h : RN K pl V S rlo rhi ν y) : RN K pl V S' rlo rhi ν y := by
  have hn : ∀ {c j k : Nat}, ndD K pl V S c j k → ndD K pl V S' c j k := fun {c j k} q => ndL_ag (FLk_ag F (k + 1) 0 0) (by omega) (by omega) q
  have h0 : ∀ {a k : Nat}, a = 82 ∨ a = 83 ∨ a = 85 ∨ (89 ≤ a ∧ a ≤ 95) → S'.1 a k = S.1 a k := fun {a k} q => F.1 a k (by omega) (by omega) (by omega) (by omega) (by omega)
  have h4 : ∀ {c j k : Nat}, ndD K pl V S c j k → c ≤ 12 → ¬ c = 4 → S'.1 84 k = S.1 84 k := fun {c j k} q u1 u2 => F.1 84 k (by omega) (by omega) (fun _ => Or.inl (L81 q u1 u2)) (by omega) (by omega)
  have hJ : ∀ {a k : Nat}, a ≠ 116 → S'.2.1 a k = S.2.1 a k := fun {a k} q => F.2 a k (by omega)
  unfold RN at h ⊢
  split at h
  · obtain ⟨a1, a2, a3⟩ := h
    exact ⟨hn a1, by rw [h0 (by omega)]; exact a2, by rw [h4 a1 (by omega) (by omega)]; exact a3⟩
  · obtain ⟨a1, a2, a3⟩ := h
    exact ⟨hn a1, by rw [h0 (by omega)]; exact a2, by rw [h4 a1 (by omega) (by omega)]; exact a3⟩
  · obtain ⟨a1, a2, a3⟩ := h
    exact ⟨hn a1, by rw [h0 (by omega)]; exact a2, by rw [h4 a1 (by omega) (by omega)]; exact a3⟩
  · obtain ⟨a1, i, a2, a3, a4⟩ := h
    exact ⟨hn a1, i, by rw [h0 (by omega)]; exact a2, by rw [h0 (by omega)]; exact a3, RwA_fl F _ _ a4.1, a4.2⟩
  · obtain ⟨a1, a2, a3⟩ := h
    exact ⟨hn a1, by rw [h0 (by omega)]; exact a2, by rw [h4 a1 (by omega) (by omega)]; exact a3⟩
  · obtain ⟨a1, a2, a3, a4⟩ := h
    exact ⟨hn a1, by rw [h0 (by omega)]; exact a2, by rw [h4 a1 (by omega) (by omega)]; exact a3, by rw [h0 (by omega)]; exact a4⟩
  · obtain ⟨a1, ⟨i, a2, a3, a4⟩, a5, ⟨i', a6, a7, a8⟩, a9⟩ := h
    exact ⟨hn a1, ⟨i, by rw [h0 (by omega)]; exact a2, by rw [h0 (by omega)]; exact a3, RwB_fl F _ _ a4.1, a4.2⟩, by rw [h0 (by omega)]; exact a5, ⟨i', by rw [h0 (by omega)]; exact a6, by rw [h0 (by omega)]; exact a7, RwB_fl F _ _ a8.1, a8.2⟩, by rw [h4 a1 (by omega) (by omega)]; exact a9⟩
  · obtain ⟨a1, a2, a3⟩ := h
    exact ⟨hn a1, by rw [h4 a1 (by omega) (by omega)]; exact a2, by rw [h0 (by omega)]; exact a3⟩
  · obtain ⟨a1, a2, a3, a4⟩ := h
    exact ⟨hn a1, by rw [h0 (by omega)]; exact a2, by rw [h4 a1 (by omega) (by omega)]; exact a3, by rw [h0 (by omega), h0 (by omega)]; exact a4⟩
  · obtain ⟨a1, a2, a3, a4⟩ := h
    exact ⟨hn a1, by rw [h0 (by omega)]; exact a2, by rw [h4 a1 (by omega) (by omega)]; exact a3, by rw [h0 (by omega), h0 (by omega)]; exact a4⟩
  · obtain ⟨a1, a2, a3, i, a4, a5, a6, a7, a8, a9, a10⟩ := h
    exact ⟨hn a1, by rw [h0 (by omega)]; exact a2, by rw [h4 a1 (by omega) (by omega)]; exact a3, i, by rw [h0 (by omega)]; exact a4, a5, a6, by rw [hJ (by omega)]; exact a7, by rw [h0 (by omega)]; exact a8, by rw [hJ (by omega)]; exact a9, by rw [h0 (by omega)]; exact a10⟩
  · obtain ⟨a1, a2, a3⟩ := h
    exact ⟨hn a1, by rw [h4 a1 (by omega) (by omega)]; exact a2, by rw [h0 (by omega)]; exact a3⟩
  · exact h.elim
theorem OKs_fl (F : FLk pl S S' p e n) {x : TR} (h : OKs K pl V S lo hi rlo rhi ν x) : OKs K pl V S' lo hi rlo rhi ν x := fun y hy => ⟨RN_fl F (h y hy).1, (h y hy).2⟩
theorem sbs_in {x : TR} {p e md : Nat} (w : Wt K x p e md) : ∀ y, y ∈ sbs x → p ≤ otk y ∧ otk y < e := by
  refine Wt_ind (K := K) (P := fun x p e md => ∀ y, y ∈ sbs x → p ≤ otk y ∧ otk y < e) ?_ ?_ ?_ ?_ ?_ ?_ ?_ ?_ ?_ ?_ ?_ ?_ ?_ ?_ ?_ (tsz x) x p e md (Nat.le_refl _) w
  · intro p md _; refine fm_1.mpr ?_; show p ≤ p ∧ p < _; omega
  · intro p md _; refine fm_1.mpr ?_; show p ≤ p ∧ p < _; omega
  · intro p md _; refine fm_1.mpr ?_; show p ≤ p ∧ p < _; omega
  · intro p md _; refine fm_1.mpr ?_; show p ≤ p ∧ p < _; omega
  · intro p as b md _ _ w1 ih
    have := Wt_lt w1
    refine fm_c.mpr ⟨?_, fun y hy => ?_⟩
    · show p ≤ p ∧ p < _; omega
    · have := ih y hy; omega
  · intro p x y b e md _ w1 w2 i1 i2
    have := Wt_lt w1; have := Wt_lt w2
    refine fm_c.mpr ⟨?_, fm_a.mpr ⟨fun y hy => ?_, fun y hy => ?_⟩⟩
    · show p ≤ p ∧ p < _; omega
    · have := i1 y hy; omega
    · have := i2 y hy; omega
  · intro p x y z b c e md w1 w2 w3 i1 i2 i3
    have := Wt_lt w1; have := Wt_lt w2; have := Wt_lt w3
    refine fm_c.mpr ⟨?_, fm_a.mpr ⟨fun y hy => ?_, fm_a.mpr ⟨fun y hy => ?_, fun y hy => ?_⟩⟩⟩
    · show p ≤ p ∧ p < _; omega
    · have := i1 y hy; omega
    · have := i2 y hy; omega
    · have := i3 y hy; omega
  · intro p fs c ns g b d f e md _ _ w1 w2 w3 w4 i1 i2 i3 i4
    have := Wt_lt w1; have := Wt_lt w2; have := Wt_lt w3; have := Wt_lt w4
    refine fm_c.mpr ⟨?_, fm_a.mpr ⟨fun y hy => ?_, fm_a.mpr ⟨fun y hy => ?_, fm_a.mpr ⟨fun y hy => ?_, fun y hy => ?_⟩⟩⟩⟩
    · show p ≤ p ∧ p < _; omega
    · have := i1 y hy; omega
    · have := i2 y hy; omega
    · have := i3 y hy; omega
    · have := i4 y hy; omega
  · intro p x e md _ w1 ih
    have := Wt_lt w1
    refine fm_c.mpr ⟨?_, fun y hy => ?_⟩
    · show p ≤ p ∧ p < _; omega
    · have := ih y hy; omega
  · intro p j x y e md _ w1 w2 i1 i2
    have := Wt_lt w1; have := Wt_lt w2
    refine fm_c.mpr ⟨?_, fm_a.mpr ⟨fun y hy => ?_, fun y hy => ?_⟩⟩
    · show p ≤ j ∧ j < _; omega
    · have := i1 y hy; omega
    · have := i2 y hy; omega
  · intro p j x y b md w1 w2 i1 i2
    have := Wt_lt w1; have := Wt_lt w2
    refine fm_c.mpr ⟨?_, fm_a.mpr ⟨fun y hy => ?_, fun y hy => ?_⟩⟩
    · show p ≤ j ∧ j < _; omega
    · have := i1 y hy; omega
    · have := i2 y hy; omega
  · intro p x y b e md _ _ w1 w2 i1 i2
    have := Wt_lt w1; have := Wt_lt w2
    refine fm_c.mpr ⟨?_, fm_a.mpr ⟨fun y hy => ?_, fun y hy => ?_⟩⟩
    · show p ≤ p ∧ p < _; omega
    · have := i1 y hy; omega
    · have := i2 y hy; omega
  · intro p x b md w1 ih
    have := Wt_lt w1
    refine fm_c.mpr ⟨?_, fun y hy => ?_⟩
    · show p ≤ p ∧ p < _; omega
    · have := ih y hy; omega
  · intro p x b md hmd _ w1 ih
    have g0 : p ≤ (if md = 101 then p else p + 2) := by split <;> omega
    refine fm_a.mpr ⟨fun y hy => ?_, fun y hy => absurd hy List.not_mem_nil⟩
    have := ih y hy; omega
  · intro p x l b e md hmd _ _ w1 w2 i1 i2
    have := Wt_lt w1; have := Wt_lt w2
    have g0 : p ≤ (if md = 101 then p else p + 2) := by split <;> omega
    refine fm_a.mpr ⟨fun y hy => ?_, fun y hy => ?_⟩
    · have := i1 y hy; omega
    · have := i2 y hy; omega
theorem TH.inj (T : TH K pl V m) {i j : Nat} (hi : i ≤ m) (hj : j ≤ m) (h : nI (pl i) = nI (pl j)) : i = j := by
  have h2 := (nI_eq (a := pl i) (b := pl j) (by have := T.pl_ hi; omega) (by have := T.pl_ hj; omega)).mp h
  rcases Nat.lt_trichotomy i j with q | q | q
  · have := T.mono (show i + 1 ≤ j by omega) hj
    have := T.lt_ (show i < m by omega)
    omega
  · exact q
  · have := T.mono (show j + 1 ≤ i by omega) hi
    have := T.lt_ (show j < m by omega)
    omega
theorem BL_fl (T : TH K pl V m) {x : TR} {p1 e1 md : Nat} {γ : List Nat} (w : Wt K x p1 e1 md) (o : OKs K pl V S lo hi rlo rhi ν x) (F : FLk pl S S' p e n) (hd : e1 ≤ p ∨ e ≤ p1) (h1 : e1 ≤ m) (h2 : e ≤ m) (h : BL V W fr ft ν S x γ) : BL V W fr ft ν S' x γ := by
  intro r c hc
  have hb := h r c hc
  have hs := sbc_sbs w γ r c hc
  have ht := sbs_in w _ hs
  have ho := (o _ hs).1
  obtain ⟨y, δ, r'⟩ := c
  simp only at hs ht ho
  unfold BN at hb ⊢
  simp only at hb ⊢
  split at hb
  · rename_i j f
    intro b hb2
    have ht : p1 ≤ j ∧ j < e1 := ht
    have ho : ndD K pl V S 3 j (ν j) ∧ _ := ho
    have h82 : S.1 82 (ν j) = nI (pl j) := ho.1.2.1 (by omega) (by omega)
    have hk : ∀ j', p ≤ j' → j' < e → S.1 82 (ν j) ≠ nI (pl j') := fun j' u1 u2 z => by rw [h82] at z; have := T.inj (by omega) (by omega) z; omega
    obtain ⟨b1, b2, b3⟩ := hb b hb2
    exact ⟨by rw [F.1 113 (ν j) (by omega) (by omega) (by omega) (fun _ _ => hk) (by omega)]; exact b1, by rw [F.1 114 (ν j) (by omega) (by omega) (by omega) (fun _ _ => hk) (by omega)]; exact b2, by rw [F.1 115 (ν j) (by omega) (by omega) (by omega) (fun _ _ => hk) (by omega)]; exact b3⟩
  · rename_i j f
    intro k hk2
    have ht : p1 ≤ j ∧ j < e1 := ht
    have ho : ndD K pl V S 4 j (ν j) ∧ _ := ho
    have h82 : S.1 82 (ν j) = nI (pl j) := ho.1.2.1 (by omega) (by omega)
    have hk : ∀ j', p ≤ j' → j' < e → S.1 82 (ν j) ≠ nI (pl j') := fun j' u1 u2 z => by rw [h82] at z; have := T.inj (by omega) (by omega) z; omega
    rw [F.1 84 (ν j) (by omega) (by omega) (fun _ => Or.inr hk) (by omega) (by omega)]
    exact hb k hk2
  · trivial
/-- the place of an X -/
theorem plc {x : TR} {p e : Nat} (w : Wt K x p e 0) (o : OKs K pl V S lo hi rlo rhi ν x) : S.1 82 (ν (otk x)) = nI (pl (bgk x)) := by
  refine Wt_ind (K := K) (P := fun x p e md => md = 0 → OKs K pl V S lo hi rlo rhi ν x → S.1 82 (ν (otk x)) = nI (pl (bgk x))) ?_ ?_ ?_ ?_ ?_ ?_ ?_ ?_ ?_ ?_ ?_ ?_ ?_ ?_ ?_ (tsz x) x p e 0 (Nat.le_refl _) w rfl o
  · intro p md _ _ o; exact (fm_1.mp o).1.1.2.1 (by omega) (by omega)
  · intro p md _ _ o; exact (fm_1.mp o).1.1.2.1 (by omega) (by omega)
  · intro p md _ _ o; exact (fm_1.mp o).1.1.2.1 (by omega) (by omega)
  · intro p md _ _ o; exact (fm_1.mp o).1.1.2.1 (by omega) (by omega)
  · intro p as b md _ _ _ _ _ o; exact (fm_c.mp o).1.1.1.2.1 (by omega) (by omega)
  · intro p x y b e md _ _ _ _ _ _ o; exact (fm_c.mp o).1.1.1.2.1 (by omega) (by omega)
  · intro p x y z b c e md _ _ _ _ _ _ _ o; exact (fm_c.mp o).1.1.1.2.1 (by omega) (by omega)
  · intro p fs c ns g b d f e md _ _ _ _ _ _ _ _ _ _ _ o; exact (fm_c.mp o).1.1.1.2.1 (by omega) (by omega)
  · intro p x e md _ _ _ _ o; exact (fm_c.mp o).1.1.1.2.1 (by omega) (by omega)
  · intro p j x y e md _ _ _ i1 _ _ o
    obtain ⟨⟨⟨_, _, _, q⟩, _⟩, o2⟩ := fm_c.mp o
    exact q.trans (i1 rfl (fm_a.mp o2).1)
  · intro p j x y b md _ _ i1 _ _ o
    obtain ⟨⟨⟨_, _, _, q⟩, _⟩, o2⟩ := fm_c.mp o
    exact q.trans (i1 rfl (fm_a.mp o2).1)
  · intro p x y b e md _ _ _ _ _ _ _ o; exact (fm_c.mp o).1.1.1.2.1 (by omega) (by omega)
  · intro p x b md _ _ _ o; exact (fm_c.mp o).1.1.1.2.1 (by omega) (by omega)
  · intro p x b md h1 _ _ _ h; omega
  · intro p x l b e md h1 _ _ _ _ _ _ h; omega
end LKF
