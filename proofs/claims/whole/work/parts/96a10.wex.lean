/-! by what each name is bound: a function of the binding token -/
def mgF {α : Type} (b : Nat) (f g : Nat → α) : Nat → α := fun i => if i < b then f i else g i
theorem mf_lo {α : Type} {b i : Nat} {f g : Nat → α} (h : i < b) : mgF b f g i = f i := if_pos h
theorem mf_hi {α : Type} {b i : Nat} {f g : Nat → α} (h : b ≤ i) : mgF b f g i = g i := if_neg (by omega)
section WEX
variable {K pl : Nat → Nat} {V : Nat → Int64} {m : Nat} {ν : Nat → Nat}
theorem WOK_cp {x : TR} {p e md : Nat} (w : Wt K x p e md) : ∀ W W' : Nat → Int32 × Int32 × Int32, (∀ i, p ≤ i → i < e → W' i = W i) → (WOKs W ν x → WOKs W' ν x) ∧ ∀ (u : Int32) (i : Nat), WbL W u x i → WbL W' u x i := by
  refine Wt_ind (K := K) (P := fun x p e md => ∀ W W' : Nat → Int32 × Int32 × Int32, (∀ i, p ≤ i → i < e → W' i = W i) → (WOKs W ν x → WOKs W' ν x) ∧ ∀ (u : Int32) (i : Nat), WbL W u x i → WbL W' u x i) ?_ ?_ ?_ ?_ ?_ ?_ ?_ ?_ ?_ ?_ ?_ ?_ ?_ ?_ ?_ (tsz x) x p e md (Nat.le_refl _) w
  · intro p md _ W W' h
    exact ⟨fun _ => fm_1.mpr trivial, fun _ _ _ => trivial⟩
  · intro p md _ W W' h
    exact ⟨fun _ => fm_1.mpr trivial, fun _ _ _ => trivial⟩
  · intro p md _ W W' h
    exact ⟨fun _ => fm_1.mpr trivial, fun _ _ _ => trivial⟩
  · intro p md _ W W' h
    exact ⟨fun _ => fm_1.mpr trivial, fun _ _ _ => trivial⟩
  · intro p as b md _ _ w1 ih W W' h
    obtain ⟨i1, -⟩ := ih W W' (fun i q1 q2 => h i (by omega) (by omega))
    exact ⟨fun o => fm_c.mpr ⟨trivial, i1 (fm_c.mp o).2⟩, fun _ _ _ => trivial⟩
  · intro p x y b e md _ w1 w2 ih1 ih2 W W' h
    have l1 := Wt_lt w1
    have l2 := Wt_lt w2
    obtain ⟨i1, -⟩ := ih1 W W' (fun i q1 q2 => h i (by omega) (by omega))
    obtain ⟨i2, -⟩ := ih2 W W' (fun i q1 q2 => h i (by omega) (by omega))
    refine ⟨fun o => ?_, fun _ _ _ => trivial⟩
    obtain ⟨o1, o2⟩ := fm_c.mp o
    obtain ⟨o2, o3⟩ := fm_a.mp o2
    exact fm_c.mpr ⟨(h (p + 1) (by omega) (by omega)).trans o1, fm_a.mpr ⟨i1 o2, i2 o3⟩⟩
  · intro p x y z b c e md w1 w2 w3 ih1 ih2 ih3 W W' h
    have l1 := Wt_lt w1
    have l2 := Wt_lt w2
    have l3 := Wt_lt w3
    obtain ⟨i1, -⟩ := ih1 W W' (fun i q1 q2 => h i (by omega) (by omega))
    obtain ⟨i2, -⟩ := ih2 W W' (fun i q1 q2 => h i (by omega) (by omega))
    obtain ⟨i3, -⟩ := ih3 W W' (fun i q1 q2 => h i (by omega) (by omega))
    refine ⟨fun o => ?_, fun _ _ _ => trivial⟩
    obtain ⟨o1, o2⟩ := fm_c.mp o
    obtain ⟨o2, o3⟩ := fm_a.mp o2
    obtain ⟨o3, o4⟩ := fm_a.mp o3
    exact fm_c.mpr ⟨trivial, fm_a.mpr ⟨i1 o2, fm_a.mpr ⟨i2 o3, i3 o4⟩⟩⟩
  · intro p fs c ns g b d f e md _ _ w1 w2 w3 w4 ih1 ih2 ih3 ih4 W W' h
    have l1 := Wt_lt w1
    have l2 := Wt_lt w2
    have l3 := Wt_lt w3
    have l4 := Wt_lt w4
    obtain ⟨i1, j1⟩ := ih1 W W' (fun i q1 q2 => h i (by omega) (by omega))
    obtain ⟨i2, -⟩ := ih2 W W' (fun i q1 q2 => h i (by omega) (by omega))
    obtain ⟨i3, -⟩ := ih3 W W' (fun i q1 q2 => h i (by omega) (by omega))
    obtain ⟨i4, -⟩ := ih4 W W' (fun i q1 q2 => h i (by omega) (by omega))
    refine ⟨fun o => ?_, fun _ _ _ => trivial⟩
    obtain ⟨o1, o2⟩ := fm_c.mp o
    obtain ⟨o2, o3⟩ := fm_a.mp o2
    obtain ⟨o3, o4⟩ := fm_a.mp o3
    obtain ⟨o4, o5⟩ := fm_a.mp o4
    exact fm_c.mpr ⟨j1 _ _ o1, fm_a.mpr ⟨i1 o2, fm_a.mpr ⟨i2 o3, fm_a.mpr ⟨i3 o4, i4 o5⟩⟩⟩⟩
  · intro p x e md _ w1 ih W W' h
    obtain ⟨i1, -⟩ := ih W W' (fun i q1 q2 => h i (by omega) (by omega))
    exact ⟨fun o => fm_c.mpr ⟨trivial, i1 (fm_c.mp o).2⟩, fun _ _ _ => trivial⟩
  · intro p j x y e md _ w1 w2 ih1 ih2 W W' h
    have l1 := Wt_lt w1
    have l2 := Wt_lt w2
    obtain ⟨i1, -⟩ := ih1 W W' (fun i q1 q2 => h i (by omega) (by omega))
    obtain ⟨i2, -⟩ := ih2 W W' (fun i q1 q2 => h i (by omega) (by omega))
    refine ⟨fun o => ?_, fun _ _ _ => trivial⟩
    obtain ⟨o1, o2⟩ := fm_c.mp o
    obtain ⟨o2, o3⟩ := fm_a.mp o2
    exact fm_c.mpr ⟨trivial, fm_a.mpr ⟨i1 o2, i2 o3⟩⟩
  · intro p j x y b md w1 w2 ih1 ih2 W W' h
    have l1 := Wt_lt w1
    have l2 := Wt_lt w2
    obtain ⟨i1, -⟩ := ih1 W W' (fun i q1 q2 => h i (by omega) (by omega))
    obtain ⟨i2, -⟩ := ih2 W W' (fun i q1 q2 => h i (by omega) (by omega))
    refine ⟨fun o => ?_, fun _ _ _ => trivial⟩
    obtain ⟨o1, o2⟩ := fm_c.mp o
    obtain ⟨o2, o3⟩ := fm_a.mp o2
    exact fm_c.mpr ⟨trivial, fm_a.mpr ⟨i1 o2, i2 o3⟩⟩
  · intro p x y b e md _ _ w1 w2 ih1 ih2 W W' h
    have l1 := Wt_lt w1
    have l2 := Wt_lt w2
    obtain ⟨i1, -⟩ := ih1 W W' (fun i q1 q2 => h i (by omega) (by omega))
    obtain ⟨i2, -⟩ := ih2 W W' (fun i q1 q2 => h i (by omega) (by omega))
    refine ⟨fun o => ?_, fun _ _ _ => trivial⟩
    obtain ⟨o1, o2⟩ := fm_c.mp o
    obtain ⟨o2, o3⟩ := fm_a.mp o2
    exact fm_c.mpr ⟨⟨(h (p + 1) (by omega) (by omega)).trans o1.1, (h (p + 3) (by omega) (by omega)).trans o1.2⟩, fm_a.mpr ⟨i1 o2, i2 o3⟩⟩
  · intro p x b md w1 ih W W' h
    obtain ⟨i1, -⟩ := ih W W' (fun i q1 q2 => h i (by omega) (by omega))
    exact ⟨fun o => fm_c.mpr ⟨trivial, i1 (fm_c.mp o).2⟩, fun _ _ _ => trivial⟩
  · intro p x b md hmd _ w1 ih W W' h
    have l1 := Wt_lt w1
    have g0 : p ≤ (if md = 101 then p else p + 2) := by split <;> omega
    obtain ⟨i1, -⟩ := ih W W' (fun i q1 q2 => h i (by omega) (by omega))
    exact ⟨fun o => fm_a.mpr ⟨i1 (fm_a.mp o).1, fun c hc => absurd hc List.not_mem_nil⟩, fun u i q => ⟨(h p (by omega) (by omega)).trans q.1, trivial⟩⟩
  · intro p x l b e md hmd _ _ w1 w2 ih1 ih2 W W' h
    have l1 := Wt_lt w1
    have l2 := Wt_lt w2
    have g0 : p ≤ (if md = 101 then p else p + 2) := by split <;> omega
    obtain ⟨i1, -⟩ := ih1 W W' (fun i q1 q2 => h i (by omega) (by omega))
    obtain ⟨i2, j2⟩ := ih2 W W' (fun i q1 q2 => h i (by omega) (by omega))
    exact ⟨fun o => fm_a.mpr ⟨i1 (fm_a.mp o).1, i2 (fm_a.mp o).2⟩, fun u i q => ⟨(h p (by omega) (by omega)).trans q.1, j2 u _ q.2⟩⟩
theorem W_ex {x : TR} {p e md : Nat} (w : Wt K x p e md) : ∀ (u : Int32) (i : Nat), ∃ W : Nat → Int32 × Int32 × Int32, WOKs W ν x ∧ (md = 102 → WbL W u x i) := by
  refine Wt_ind (K := K) (P := fun x p e md => ∀ (u : Int32) (i : Nat), ∃ W : Nat → Int32 × Int32 × Int32, WOKs W ν x ∧ (md = 102 → WbL W u x i)) ?_ ?_ ?_ ?_ ?_ ?_ ?_ ?_ ?_ ?_ ?_ ?_ ?_ ?_ ?_ (tsz x) x p e md (Nat.le_refl _) w
  · intro p md _ u i
    exact ⟨fun _ => (0, 0, 0), fm_1.mpr trivial, fun _ => trivial⟩
  · intro p md _ u i
    exact ⟨fun _ => (0, 0, 0), fm_1.mpr trivial, fun _ => trivial⟩
  · intro p md _ u i
    exact ⟨fun _ => (0, 0, 0), fm_1.mpr trivial, fun _ => trivial⟩
  · intro p md _ u i
    exact ⟨fun _ => (0, 0, 0), fm_1.mpr trivial, fun _ => trivial⟩
  · intro p as b md _ _ w1 ih u i
    obtain ⟨W, h1, -⟩ := ih 0 0
    exact ⟨W, fm_c.mpr ⟨trivial, h1⟩, fun _ => trivial⟩
  · intro p x y b e md _ w1 w2 ih1 ih2 u i
    have l1 := Wt_lt w1
    obtain ⟨W1, h1, -⟩ := ih1 0 0
    obtain ⟨W2, h2, -⟩ := ih2 0 0
    refine ⟨mgF (p + 3) (fun _ => (2, nI (ν p), 0)) (mgF b W1 W2), fm_c.mpr ⟨mf_lo (by omega), fm_a.mpr ⟨(WOK_cp w1 W1 _ (fun i q1 q2 => ?_)).1 h1, (WOK_cp w2 W2 _ (fun i q1 q2 => ?_)).1 h2⟩⟩, fun _ => trivial⟩
    · rw [mf_hi (by omega), mf_lo (by omega)]
    · rw [mf_hi (by omega), mf_hi (by omega)]
  · intro p x y z b c e md w1 w2 w3 ih1 ih2 ih3 u i
    have l1 := Wt_lt w1
    have l2 := Wt_lt w2
    obtain ⟨W1, h1, -⟩ := ih1 0 0
    obtain ⟨W2, h2, -⟩ := ih2 0 0
    obtain ⟨W3, h3, -⟩ := ih3 0 0
    refine ⟨mgF b W1 (mgF c W2 W3), fm_c.mpr ⟨trivial, fm_a.mpr ⟨(WOK_cp w1 W1 _ (fun i q1 q2 => ?_)).1 h1, fm_a.mpr ⟨(WOK_cp w2 W2 _ (fun i q1 q2 => ?_)).1 h2, (WOK_cp w3 W3 _ (fun i q1 q2 => ?_)).1 h3⟩⟩⟩, fun _ => trivial⟩
    · rw [mf_lo (by omega)]
    · rw [mf_hi (by omega), mf_lo (by omega)]
    · rw [mf_hi (by omega), mf_hi (by omega)]
  · intro p fs c ns g b d f e md _ _ w1 w2 w3 w4 ih1 ih2 ih3 ih4 u i
    have l1 := Wt_lt w1
    have l2 := Wt_lt w2
    have l3 := Wt_lt w3
    obtain ⟨W1, h1, k1⟩ := ih1 (nI (ν p)) 0
    obtain ⟨W2, h2, -⟩ := ih2 0 0
    obtain ⟨W3, h3, -⟩ := ih3 0 0
    obtain ⟨W4, h4, -⟩ := ih4 0 0
    have q1 : ∀ i, p + 1 ≤ i → i < b → mgF b W1 (mgF d W2 (mgF f W3 W4)) i = W1 i := fun i u1 u2 => mf_lo u2
    refine ⟨mgF b W1 (mgF d W2 (mgF f W3 W4)), fm_c.mpr ⟨(WOK_cp (ν := ν) w1 W1 _ q1).2 _ _ (k1 rfl), fm_a.mpr ⟨(WOK_cp w1 W1 _ q1).1 h1, fm_a.mpr ⟨(WOK_cp w2 W2 _ (fun i q1 q2 => ?_)).1 h2, fm_a.mpr ⟨(WOK_cp w3 W3 _ (fun i q1 q2 => ?_)).1 h3, (WOK_cp w4 W4 _ (fun i q1 q2 => ?_)).1 h4⟩⟩⟩⟩, fun _ => trivial⟩
    · rw [mf_hi (by omega), mf_lo (by omega)]
    · rw [mf_hi (by omega), mf_hi (by omega), mf_lo (by omega)]
    · rw [mf_hi (by omega), mf_hi (by omega), mf_hi (by omega)]
  · intro p x e md _ w1 ih u i
    obtain ⟨W, h1, -⟩ := ih 0 0
    exact ⟨W, fm_c.mpr ⟨trivial, h1⟩, fun _ => trivial⟩
  · intro p j x y e md _ w1 w2 ih1 ih2 u i
    have l1 := Wt_lt w1
    obtain ⟨W1, h1, -⟩ := ih1 0 0
    obtain ⟨W2, h2, -⟩ := ih2 0 0
    refine ⟨mgF j W1 W2, fm_c.mpr ⟨trivial, fm_a.mpr ⟨(WOK_cp w1 W1 _ (fun i q1 q2 => ?_)).1 h1, (WOK_cp w2 W2 _ (fun i q1 q2 => ?_)).1 h2⟩⟩, fun _ => trivial⟩
    · rw [mf_lo (by omega)]
    · rw [mf_hi (by omega)]
  · intro p j x y b md w1 w2 ih1 ih2 u i
    have l1 := Wt_lt w1
    obtain ⟨W1, h1, -⟩ := ih1 0 0
    obtain ⟨W2, h2, -⟩ := ih2 0 0
    refine ⟨mgF j W1 W2, fm_c.mpr ⟨trivial, fm_a.mpr ⟨(WOK_cp w1 W1 _ (fun i q1 q2 => ?_)).1 h1, (WOK_cp w2 W2 _ (fun i q1 q2 => ?_)).1 h2⟩⟩, fun _ => trivial⟩
    · rw [mf_lo (by omega)]
    · rw [mf_hi (by omega)]
  · intro p x y b e md _ _ w1 w2 ih1 ih2 u i
    have l1 := Wt_lt w1
    obtain ⟨W1, h1, -⟩ := ih1 0 0
    obtain ⟨W2, h2, -⟩ := ih2 0 0
    refine ⟨mgF (p + 2) (fun _ => (5, nI (ν p), 0)) (mgF (p + 5) (fun _ => (4, nI (ν p), 0)) (mgF b W1 W2)), fm_c.mpr ⟨⟨mf_lo (by omega), by rw [mf_hi (by omega), mf_lo (by omega)]⟩, fm_a.mpr ⟨(WOK_cp w1 W1 _ (fun i q1 q2 => ?_)).1 h1, (WOK_cp w2 W2 _ (fun i q1 q2 => ?_)).1 h2⟩⟩, fun _ => trivial⟩
    · rw [mf_hi (by omega), mf_hi (by omega), mf_lo (by omega)]
    · rw [mf_hi (by omega), mf_hi (by omega), mf_hi (by omega)]
  · intro p x b md w1 ih u i
    obtain ⟨W, h1, -⟩ := ih 0 0
    exact ⟨W, fm_c.mpr ⟨trivial, h1⟩, fun _ => trivial⟩
  · intro p x b md hmd _ w1 ih u i
    obtain ⟨W, h1, -⟩ := ih 0 0
    rcases hmd with rfl | rfl
    · exact ⟨W, fm_a.mpr ⟨h1, fun c hc => absurd hc List.not_mem_nil⟩, fun z => by omega⟩
    · have w1 : Wt K x (p + 2) b 0 := w1
      refine ⟨mgF (p + 1) (fun _ => (3, u, nI i)) W, fm_a.mpr ⟨(WOK_cp w1 W _ (fun i q1 q2 => mf_hi (by omega))).1 h1, fun c hc => absurd hc List.not_mem_nil⟩, fun _ => ⟨mf_lo (by omega), trivial⟩⟩
  · intro p x l b e md hmd _ _ w1 w2 ih1 ih2 u i
    have l1 := Wt_lt w1
    obtain ⟨W1, h1, -⟩ := ih1 0 0
    obtain ⟨W2, h2, k2⟩ := ih2 u (i + 1)
    rcases hmd with rfl | rfl
    · have w1 : Wt K x p b 0 := w1
      exact ⟨mgF b W1 W2, fm_a.mpr ⟨(WOK_cp w1 W1 _ (fun i q1 q2 => mf_lo (by omega))).1 h1, (WOK_cp w2 W2 _ (fun i q1 q2 => mf_hi (by omega))).1 h2⟩, fun z => by omega⟩
    · have w1 : Wt K x (p + 2) b 0 := w1
      have l1 := Wt_lt w1
      have q2 : ∀ j, b + 1 ≤ j → j < e → mgF (p + 1) (fun _ => ((3 : Int32), u, nI i)) (mgF b W1 W2) j = W2 j := fun j u1 u2 => by rw [mf_hi (by omega), mf_hi (by omega)]
      refine ⟨mgF (p + 1) (fun _ => (3, u, nI i)) (mgF b W1 W2), fm_a.mpr ⟨(WOK_cp w1 W1 _ (fun i q1 q2 => ?_)).1 h1, (WOK_cp w2 W2 _ q2).1 h2⟩, fun _ => ⟨mf_lo (by omega), (WOK_cp (ν := ν) w2 W2 _ q2).2 _ _ (k2 rfl)⟩⟩
      rw [mf_hi (by omega), mf_lo (by omega)]
/-- of a whole program: parameters, too -/
def WPs (W : Nat → Int32 × Int32 × Int32) (ν : Nat → Nat) (c p cnt : Nat) (x : TR) : Prop := (∀ z, z < cnt → W (p + 2 + 2 * z) = (1, nI c, nI z)) ∧ WOKs W ν x
theorem W_P {y : TR} {p e : Nat} (w : PW K y p e) : ∀ f, ∃ W : Nat → Int32 × Int32 × Int32, FA (WPs W ν) y f := by
  have mono : ∀ (y : TR) (p e : Nat), PW K y p e → ∀ (W W' : Nat → Int32 × Int32 × Int32) (f : Nat), (∀ i, p ≤ i → i < e → W' i = W i) → FA (WPs W ν) y f → FA (WPs W' ν) y f := by
    intro y p e w
    refine PW_ind (K := K) (P := fun y p e => ∀ (W W' : Nat → Int32 × Int32 × Int32) (f : Nat), (∀ i, p ≤ i → i < e → W' i = W i) → FA (WPs W ν) y f → FA (WPs W' ν) y f) ?_ ?_ (tsz y) y p e (Nat.le_refl _) w
    · intro p cnt x b e0 _ _ _ w1 h W W' f ha hf
      have := Wt_lt w1
      exact ⟨⟨fun z hz => (ha _ (by omega) (by omega)).trans (hf.1.1 z hz), (WOK_cp w1 W W' (fun i q1 q2 => ha i (by omega) (by omega))).1 hf.1.2⟩, trivial⟩
    · intro p cnt x r b e0 e _ _ _ w1 h _ w2 ih W W' f ha hf
      have := Wt_lt w1
      have := PW_lt w2
      exact ⟨⟨fun z hz => (ha _ (by omega) (by omega)).trans (hf.1.1 z hz), (WOK_cp w1 W W' (fun i q1 q2 => ha i (by omega) (by omega))).1 hf.1.2⟩, ih W W' (f + 1) (fun i q1 q2 => ha i (by omega) (by omega)) hf.2⟩
  have one : ∀ (p cnt b e0 c : Nat) (x : TR), Wt K x b e0 0 → p + 4 + 2 * cnt ≤ b + 1 → ∃ W : Nat → Int32 × Int32 × Int32, WPs W ν c p cnt x := by
    intro p cnt b e0 c x w1 h
    obtain ⟨W, h1, -⟩ := W_ex (ν := ν) w1 0 0
    refine ⟨mgF b (fun i => (1, nI c, nI ((i - (p + 2)) / 2))) W, fun z hz => ?_, (WOK_cp w1 W _ (fun i q1 q2 => mf_hi q1)).1 h1⟩
    rw [mf_lo (by omega), show (p + 2 + 2 * z - (p + 2)) / 2 = z by omega]
  refine PW_ind (K := K) (P := fun y p e => ∀ f, ∃ W : Nat → Int32 × Int32 × Int32, FA (WPs W ν) y f) ?_ ?_ (tsz y) y p e (Nat.le_refl _) w
  · intro p cnt x b e0 _ _ _ w1 h f
    obtain ⟨W, hW⟩ := one p cnt b e0 f x w1 h
    exact ⟨W, hW, trivial⟩
  · intro p cnt x r b e0 e k1 k2 k3 w1 h hr w2 ih f
    have := Wt_lt w1
    obtain ⟨W, hW⟩ := one p cnt b e0 f x w1 h
    obtain ⟨W2, h2⟩ := ih (f + 1)
    refine ⟨mgF (e0 + 1) W W2, ⟨fun z hz => ?_, (WOK_cp w1 W _ (fun i q1 q2 => mf_lo (by omega))).1 hW.2⟩, mono r _ _ w2 W2 _ (f + 1) (fun i q1 q2 => mf_hi q1) h2⟩
    rw [mf_lo (by omega)]; exact hW.1 z hz
end WEX
