/-! reading leaves the fault's place while it finds none: written by program (wip/whole/mkframe4.py) -/
def Zm (i j : Nat) : Bool := Nat.beq i 75 && (Nat.beq j 3 || Nat.beq j 4)
def Zq (S S1 : im_S) : Prop := S1.1 75 3 = 0 → S.1 75 3 = 0 ∧ S1.1 75 4 = S.1 75 4
theorem Zq_refl (S : im_S) : Zq S S := fun h => ⟨h, rfl⟩
theorem Zq_trans {S S1 S2 : im_S} (a : Zq S S1) (b : Zq S1 S2) : Zq S S2 := fun h => ⟨(a (b h).1).1, (b h).2.trans (a (b h).1).2⟩
theorem Zm_ne {a j : Nat} (h : Zm a j = false) : (75 ≠ a ∨ 3 ≠ j) ∧ (75 ≠ a ∨ 4 ≠ j) := by
  by_cases ha : 75 = a
  · subst ha
    refine ⟨Or.inr (fun z => ?_), Or.inr (fun z => ?_)⟩ <;> (rw [← z] at h; exact absurd h (by decide))
  · exact ⟨Or.inl ha, Or.inl ha⟩
theorem Zq_uI {S S1 : im_S} {a j : Nat} {v : Int32} (h : Zm a j = false) (k : Zq S S1) : Zq S (uI S1 a j v) := by
  intro e
  rw [uI_ne (Zm_ne h).1] at e
  rw [uI_ne (Zm_ne h).2]
  exact k e
theorem Zq_uJ {S S1 : im_S} {a j : Nat} {v : Int64} (k : Zq S S1) : Zq S (uJ S1 a j v) := k
def Zh {α : Type} (x : Option (α × im_S)) (S : im_S) : Prop := ∀ (r : α) (S' : im_S), x = some (r, S') → Zq S S'
theorem Zh_none {α : Type} (S : im_S) : Zh (none : Option (α × im_S)) S := fun _ _ h => by cases h
theorem Zh_gd {α : Type} {b : Bool} {x : Option (α × im_S)} {S : im_S} (h : Zh x S) : Zh (gd b x) S := fun r S' e => h r S' (gd_some e).2
theorem Zh_some {α : Type} {r : α} {S S1 : im_S} (k : Zq S S1) : Zh (some (r, S1)) S := fun _ _ h => by cases h; exact k
theorem Zh_ite {α : Type} {c : Prop} [Decidable c] {x y : Option (α × im_S)} {S : im_S} (h1 : Zh x S) (h2 : Zh y S) : Zh (if c then x else y) S := by
  by_cases hc : c
  · rw [if_pos hc]; exact h1
  · rw [if_neg hc]; exact h2
theorem Zh_bind {α β : Type} {x : Option (α × im_S)} {f : α × im_S → Option (β × im_S)} {S : im_S} (h1 : Zh x S) (h2 : ∀ q : α × im_S, Zh (f q) q.2) : Zh (x.bind f) S := by
  intro r S' e
  obtain ⟨a, ha, hb⟩ := bd_some e
  exact Zq_trans (h1 a.1 a.2 ha) (h2 a r S' hb)
theorem Zh_of {α : Type} {x : Option (α × im_S)} {S1 S : im_S} (h : Zh x S1) (k : Zq S S1) : Zh x S := fun r S' e => Zq_trans k (h r S' e)
theorem f_X11_refuse_qz4 (S : im_S) : Zh (f_X11_refuse S) S := by
  intro r S' e
  unfold f_X11_refuse at e
  by_cases h : S.1 75 3 = 0
  · rw [if_neg (fun z => z h)] at e
    obtain ⟨-, e⟩ := gd_some e
    cases e
    intro q
    rw [uI_ne (by omega), uI_eq] at q
    exact absurd q (by decide)
  · rw [if_pos h] at e
    cases e
    exact Zq_refl _

set_option maxHeartbeats 4000000 in
set_option maxRecDepth 100000 in
theorem f_X11_isSign_qz4 (x1 : Int32) (S : im_S) : Zh (f_X11_isSign x1 S) S := by
  unfold f_X11_isSign
  repeat' first | with_reducible exact Zh_none _ | with_reducible refine Zh_gd ?_ | with_reducible refine Zh_ite ?_ ?_ | with_reducible refine Zh_bind ?_ (fun q => ?_) | with_reducible refine Zh_some ?_ | with_reducible exact Zq_refl _ | refine Zq_uI rfl ?_ | refine Zq_uJ ?_
set_option maxHeartbeats 4000000 in
set_option maxRecDepth 100000 in
theorem f_X11_isWord_qz4 (x1 : Int32) (S : im_S) : Zh (f_X11_isWord x1 S) S := by
  unfold f_X11_isWord
  repeat' first | with_reducible exact Zh_none _ | with_reducible refine Zh_gd ?_ | with_reducible refine Zh_ite ?_ ?_ | with_reducible refine Zh_bind ?_ (fun q => ?_) | with_reducible refine Zh_some ?_ | with_reducible exact Zq_refl _ | refine Zq_uI rfl ?_ | refine Zq_uJ ?_
set_option maxHeartbeats 4000000 in
set_option maxRecDepth 100000 in
theorem f_X11_takes_qz4 (x1 : Int32) (S : im_S) : Zh (f_X11_takes x1 S) S := by
  unfold f_X11_takes
  repeat' first | with_reducible exact Zh_none _ | with_reducible refine Zh_gd ?_ | with_reducible refine Zh_ite ?_ ?_ | with_reducible refine Zh_bind ?_ (fun q => ?_) | with_reducible refine Zh_some ?_ | with_reducible exact Zq_refl _ | refine Zq_uI rfl ?_ | refine Zq_uJ ?_
set_option maxHeartbeats 4000000 in
set_option maxRecDepth 100000 in
theorem f_X11_want_qz4 (x1 : Int32) (S : im_S) : Zh (f_X11_want x1 S) S := by
  unfold f_X11_want
  repeat' first | with_reducible exact Zh_none _ | with_reducible refine Zh_gd ?_ | with_reducible refine Zh_ite ?_ ?_ | with_reducible refine Zh_bind ?_ (fun q => ?_) | with_reducible refine Zh_some ?_ | with_reducible exact Zq_refl _ | refine Zq_uI rfl ?_ | refine Zq_uJ ?_ | with_reducible refine Zh_of (f_X11_refuse_qz4 _) ?_ | with_reducible refine Zh_of (f_X11_takes_qz4 _ _) ?_
set_option maxHeartbeats 4000000 in
set_option maxRecDepth 100000 in
theorem f_X11_wantName_qz4 (S : im_S) : Zh (f_X11_wantName S) S := by
  unfold f_X11_wantName
  repeat' first | with_reducible exact Zh_none _ | with_reducible refine Zh_gd ?_ | with_reducible refine Zh_ite ?_ ?_ | with_reducible refine Zh_bind ?_ (fun q => ?_) | with_reducible refine Zh_some ?_ | with_reducible exact Zq_refl _ | refine Zq_uI rfl ?_ | refine Zq_uJ ?_ | with_reducible refine Zh_of (f_X11_want_qz4 _ _) ?_
set_option maxHeartbeats 4000000 in
set_option maxRecDepth 100000 in
theorem f_X11_make_qz4 (x1 : Int32) (x2 : Int32) (S : im_S) : Zh (f_X11_make x1 x2 S) S := by
  unfold f_X11_make
  repeat' first | with_reducible exact Zh_none _ | with_reducible refine Zh_gd ?_ | with_reducible refine Zh_ite ?_ ?_ | with_reducible refine Zh_bind ?_ (fun q => ?_) | with_reducible refine Zh_some ?_ | with_reducible exact Zq_refl _ | refine Zq_uI rfl ?_ | refine Zq_uJ ?_
set_option maxHeartbeats 4000000 in
set_option maxRecDepth 100000 in
theorem f_X11_addRow_qz4 (x1 : Int32) (x2 : Int32) (S : im_S) : Zh (f_X11_addRow x1 x2 S) S := by
  unfold f_X11_addRow
  repeat' first | with_reducible exact Zh_none _ | with_reducible refine Zh_gd ?_ | with_reducible refine Zh_ite ?_ ?_ | with_reducible refine Zh_bind ?_ (fun q => ?_) | with_reducible refine Zh_some ?_ | with_reducible exact Zq_refl _ | refine Zq_uI rfl ?_ | refine Zq_uJ ?_
set_option maxHeartbeats 4000000 in
set_option maxRecDepth 100000 in
theorem f_X11_layRow_L12_qz4 (fu : Nat) : ∀ (nf : Nat) (y0 : Int32) (y1 : Int32) (y2 : Int32) (S : im_S), Zh (f_X11_layRow_L12 fu nf y0 y1 y2 S) S := by
  intro nf
  induction nf with
  | zero => intro y0 y1 y2 S; exact Zh_none _
  | succ nf ih =>
    intro y0 y1 y2 S
    unfold f_X11_layRow_L12
    repeat' first | with_reducible exact Zh_none _ | with_reducible refine Zh_gd ?_ | with_reducible refine Zh_ite ?_ ?_ | with_reducible refine Zh_bind ?_ (fun q => ?_) | with_reducible refine Zh_some ?_ | with_reducible exact Zq_refl _ | refine Zq_uI rfl ?_ | refine Zq_uJ ?_ | with_reducible refine Zh_of (f_X11_addRow_qz4 _ _ _) ?_ | with_reducible refine Zh_of (ih _ _ _ _) ?_ | with_reducible exact ih
set_option maxHeartbeats 4000000 in
set_option maxRecDepth 100000 in
theorem f_X11_layRow_qz4 (fu : Nat) (x1 : Int32) (S : im_S) : Zh (f_X11_layRow fu x1 S) S := by
  unfold f_X11_layRow
  repeat' first | with_reducible exact Zh_none _ | with_reducible refine Zh_gd ?_ | with_reducible refine Zh_ite ?_ ?_ | with_reducible refine Zh_bind ?_ (fun q => ?_) | with_reducible refine Zh_some ?_ | with_reducible exact Zq_refl _ | refine Zq_uI rfl ?_ | refine Zq_uJ ?_ | with_reducible refine Zh_of (f_X11_layRow_L12_qz4 _ _ _ _ _ _) ?_
set_option maxHeartbeats 4000000 in
set_option maxRecDepth 100000 in
theorem f_X11_firm_qz4 (S : im_S) : Zh (f_X11_firm S) S := by
  unfold f_X11_firm
  repeat' first | with_reducible exact Zh_none _ | with_reducible refine Zh_gd ?_ | with_reducible refine Zh_ite ?_ ?_ | with_reducible refine Zh_bind ?_ (fun q => ?_) | with_reducible refine Zh_some ?_ | with_reducible exact Zq_refl _ | refine Zq_uI rfl ?_ | refine Zq_uJ ?_
set_option maxHeartbeats 4000000 in
set_option maxRecDepth 100000 in
theorem f_X11_readX_qz4 (K : Nat → Int32 → Int32 → im_S → Option (Int32 × im_S)) (fu : Nat) (S : im_S) (hK : ∀ (a0 : Nat) (a1 : Int32) (a2 : Int32) (S : im_S), Zh (K a0 a1 a2 S) S) : Zh (f_X11_readX K fu S) S := by
  unfold f_X11_readX
  repeat' first | with_reducible exact Zh_none _ | with_reducible refine Zh_gd ?_ | with_reducible refine Zh_ite ?_ ?_ | with_reducible refine Zh_bind ?_ (fun q => ?_) | with_reducible refine Zh_some ?_ | with_reducible exact Zq_refl _ | refine Zq_uI rfl ?_ | refine Zq_uJ ?_ | with_reducible refine Zh_of (f_X11_refuse_qz4 _) ?_ | with_reducible refine Zh_of (f_X11_isWord_qz4 _ _) ?_ | with_reducible refine Zh_of (hK _ _ _ _) ?_ | with_reducible exact hK
set_option maxHeartbeats 4000000 in
set_option maxRecDepth 100000 in
theorem f_X11_readWithin_qz4 (K : Nat → Int32 → Int32 → im_S → Option (Int32 × im_S)) (fu : Nat) (S : im_S) (hK : ∀ (a0 : Nat) (a1 : Int32) (a2 : Int32) (S : im_S), Zh (K a0 a1 a2 S) S) : Zh (f_X11_readWithin K fu S) S := by
  unfold f_X11_readWithin
  repeat' first | with_reducible exact Zh_none _ | with_reducible refine Zh_gd ?_ | with_reducible refine Zh_ite ?_ ?_ | with_reducible refine Zh_bind ?_ (fun q => ?_) | with_reducible refine Zh_some ?_ | with_reducible exact Zq_refl _ | refine Zq_uI rfl ?_ | refine Zq_uJ ?_ | with_reducible refine Zh_of (hK _ _ _ _) ?_ | with_reducible exact hK
set_option maxHeartbeats 4000000 in
set_option maxRecDepth 100000 in
theorem f_X11_readLet_qz4 (K : Nat → Int32 → Int32 → im_S → Option (Int32 × im_S)) (fu : Nat) (S : im_S) (hK : ∀ (a0 : Nat) (a1 : Int32) (a2 : Int32) (S : im_S), Zh (K a0 a1 a2 S) S) : Zh (f_X11_readLet K fu S) S := by
  unfold f_X11_readLet
  repeat' first | with_reducible exact Zh_none _ | with_reducible refine Zh_gd ?_ | with_reducible refine Zh_ite ?_ ?_ | with_reducible refine Zh_bind ?_ (fun q => ?_) | with_reducible refine Zh_some ?_ | with_reducible exact Zq_refl _ | refine Zq_uI rfl ?_ | refine Zq_uJ ?_ | with_reducible refine Zh_of (f_X11_isSign_qz4 _ _) ?_ | with_reducible refine Zh_of (f_X11_isWord_qz4 _ _) ?_ | with_reducible refine Zh_of (f_X11_want_qz4 _ _) ?_ | with_reducible refine Zh_of (f_X11_wantName_qz4 _) ?_ | with_reducible refine Zh_of (f_X11_make_qz4 _ _ _) ?_ | with_reducible refine Zh_of (hK _ _ _ _) ?_ | with_reducible exact hK
set_option maxHeartbeats 4000000 in
set_option maxRecDepth 100000 in
theorem f_X11_readIf_qz4 (K : Nat → Int32 → Int32 → im_S → Option (Int32 × im_S)) (fu : Nat) (S : im_S) (hK : ∀ (a0 : Nat) (a1 : Int32) (a2 : Int32) (S : im_S), Zh (K a0 a1 a2 S) S) : Zh (f_X11_readIf K fu S) S := by
  unfold f_X11_readIf
  repeat' first | with_reducible exact Zh_none _ | with_reducible refine Zh_gd ?_ | with_reducible refine Zh_ite ?_ ?_ | with_reducible refine Zh_bind ?_ (fun q => ?_) | with_reducible refine Zh_some ?_ | with_reducible exact Zq_refl _ | refine Zq_uI rfl ?_ | refine Zq_uJ ?_ | with_reducible refine Zh_of (f_X11_isWord_qz4 _ _) ?_ | with_reducible refine Zh_of (f_X11_want_qz4 _ _) ?_ | with_reducible refine Zh_of (f_X11_make_qz4 _ _ _) ?_ | with_reducible refine Zh_of (hK _ _ _ _) ?_ | with_reducible exact hK
set_option maxHeartbeats 4000000 in
set_option maxRecDepth 100000 in
theorem f_X11_readBindings_L2_qz4 (K : Nat → Int32 → Int32 → im_S → Option (Int32 × im_S)) (fu : Nat) (hK : ∀ (a0 : Nat) (a1 : Int32) (a2 : Int32) (S : im_S), Zh (K a0 a1 a2 S) S) : ∀ (nf : Nat) (y0 : Int32) (y1 : Int32) (S : im_S), Zh (f_X11_readBindings_L2 K fu nf y0 y1 S) S := by
  intro nf
  induction nf with
  | zero => intro y0 y1 S; exact Zh_none _
  | succ nf ih =>
    intro y0 y1 S
    unfold f_X11_readBindings_L2
    repeat' first | with_reducible exact Zh_none _ | with_reducible refine Zh_gd ?_ | with_reducible refine Zh_ite ?_ ?_ | with_reducible refine Zh_bind ?_ (fun q => ?_) | with_reducible refine Zh_some ?_ | with_reducible exact Zq_refl _ | refine Zq_uI rfl ?_ | refine Zq_uJ ?_ | with_reducible refine Zh_of (f_X11_refuse_qz4 _) ?_ | with_reducible refine Zh_of (f_X11_isSign_qz4 _ _) ?_ | with_reducible refine Zh_of (f_X11_takes_qz4 _ _) ?_ | with_reducible refine Zh_of (f_X11_want_qz4 _ _) ?_ | with_reducible refine Zh_of (f_X11_wantName_qz4 _) ?_ | with_reducible refine Zh_of (hK _ _ _ _) ?_ | with_reducible exact hK | with_reducible refine Zh_of (ih _ _ _) ?_ | with_reducible exact ih
set_option maxHeartbeats 4000000 in
set_option maxRecDepth 100000 in
theorem f_X11_readBindings_qz4 (K : Nat → Int32 → Int32 → im_S → Option (Int32 × im_S)) (fu : Nat) (x1 : Int32) (S : im_S) (hK : ∀ (a0 : Nat) (a1 : Int32) (a2 : Int32) (S : im_S), Zh (K a0 a1 a2 S) S) : Zh (f_X11_readBindings K fu x1 S) S := by
  unfold f_X11_readBindings
  repeat' first | with_reducible exact Zh_none _ | with_reducible refine Zh_gd ?_ | with_reducible refine Zh_ite ?_ ?_ | with_reducible refine Zh_bind ?_ (fun q => ?_) | with_reducible refine Zh_some ?_ | with_reducible exact Zq_refl _ | refine Zq_uI rfl ?_ | refine Zq_uJ ?_ | with_reducible refine Zh_of (f_X11_readBindings_L2_qz4 _ _ ?_ _ _ _ _) ?_ | with_reducible refine Zh_of (hK _ _ _ _) ?_ | with_reducible exact hK
set_option maxHeartbeats 4000000 in
set_option maxRecDepth 100000 in
theorem f_X11_readLoop_qz4 (K : Nat → Int32 → Int32 → im_S → Option (Int32 × im_S)) (fu : Nat) (S : im_S) (hK : ∀ (a0 : Nat) (a1 : Int32) (a2 : Int32) (S : im_S), Zh (K a0 a1 a2 S) S) : Zh (f_X11_readLoop K fu S) S := by
  unfold f_X11_readLoop
  repeat' first | with_reducible exact Zh_none _ | with_reducible refine Zh_gd ?_ | with_reducible refine Zh_ite ?_ ?_ | with_reducible refine Zh_bind ?_ (fun q => ?_) | with_reducible refine Zh_some ?_ | with_reducible exact Zq_refl _ | refine Zq_uI rfl ?_ | refine Zq_uJ ?_ | with_reducible refine Zh_of (f_X11_isWord_qz4 _ _) ?_ | with_reducible refine Zh_of (f_X11_want_qz4 _ _) ?_ | with_reducible refine Zh_of (f_X11_make_qz4 _ _ _) ?_ | with_reducible refine Zh_of (f_X11_layRow_qz4 _ _ _) ?_ | with_reducible refine Zh_of (hK _ _ _ _) ?_ | with_reducible exact hK
set_option maxHeartbeats 4000000 in
set_option maxRecDepth 100000 in
theorem f_X11_readSigns_L15_qz4 (K : Nat → Int32 → Int32 → im_S → Option (Int32 × im_S)) (fu : Nat) (hK : ∀ (a0 : Nat) (a1 : Int32) (a2 : Int32) (S : im_S), Zh (K a0 a1 a2 S) S) : ∀ (nf : Nat) (y0 : Int32) (y1 : Int32) (y2 : Int32) (S : im_S), Zh (f_X11_readSigns_L15 K fu nf y0 y1 y2 S) S := by
  intro nf
  induction nf with
  | zero => intro y0 y1 y2 S; exact Zh_none _
  | succ nf ih =>
    intro y0 y1 y2 S
    unfold f_X11_readSigns_L15
    repeat' first | with_reducible exact Zh_none _ | with_reducible refine Zh_gd ?_ | with_reducible refine Zh_ite ?_ ?_ | with_reducible refine Zh_bind ?_ (fun q => ?_) | with_reducible refine Zh_some ?_ | with_reducible exact Zq_refl _ | refine Zq_uI rfl ?_ | refine Zq_uJ ?_ | with_reducible refine Zh_of (f_X11_make_qz4 _ _ _) ?_ | with_reducible refine Zh_of (f_X11_firm_qz4 _) ?_ | with_reducible refine Zh_of (hK _ _ _ _) ?_ | with_reducible exact hK | with_reducible refine Zh_of (ih _ _ _ _) ?_ | with_reducible exact ih
set_option maxHeartbeats 4000000 in
set_option maxRecDepth 100000 in
theorem f_X11_readSigns_qz4 (K : Nat → Int32 → Int32 → im_S → Option (Int32 × im_S)) (fu : Nat) (x1 : Int32) (S : im_S) (hK : ∀ (a0 : Nat) (a1 : Int32) (a2 : Int32) (S : im_S), Zh (K a0 a1 a2 S) S) : Zh (f_X11_readSigns K fu x1 S) S := by
  unfold f_X11_readSigns
  repeat' first | with_reducible exact Zh_none _ | with_reducible refine Zh_gd ?_ | with_reducible refine Zh_ite ?_ ?_ | with_reducible refine Zh_bind ?_ (fun q => ?_) | with_reducible refine Zh_some ?_ | with_reducible exact Zq_refl _ | refine Zq_uI rfl ?_ | refine Zq_uJ ?_ | with_reducible refine Zh_of (f_X11_readSigns_L15_qz4 _ _ ?_ _ _ _ _ _) ?_ | with_reducible refine Zh_of (hK _ _ _ _) ?_ | with_reducible exact hK
set_option maxHeartbeats 4000000 in
set_option maxRecDepth 100000 in
theorem f_X11_readAhead_L150_qz4 (K : Nat → Int32 → Int32 → im_S → Option (Int32 × im_S)) (fu : Nat) (hK : ∀ (a0 : Nat) (a1 : Int32) (a2 : Int32) (S : im_S), Zh (K a0 a1 a2 S) S) : ∀ (nf : Nat) (y0 : Int32) (y1 : Int32) (y2 : Int32) (S : im_S), Zh (f_X11_readAhead_L150 K fu nf y0 y1 y2 S) S := by
  intro nf
  induction nf with
  | zero => intro y0 y1 y2 S; exact Zh_none _
  | succ nf ih =>
    intro y0 y1 y2 S
    unfold f_X11_readAhead_L150
    repeat' first | with_reducible exact Zh_none _ | with_reducible refine Zh_gd ?_ | with_reducible refine Zh_ite ?_ ?_ | with_reducible refine Zh_bind ?_ (fun q => ?_) | with_reducible refine Zh_some ?_ | with_reducible exact Zq_refl _ | refine Zq_uI rfl ?_ | refine Zq_uJ ?_ | with_reducible refine Zh_of (f_X11_isSign_qz4 _ _) ?_ | with_reducible refine Zh_of (f_X11_want_qz4 _ _) ?_ | with_reducible refine Zh_of (f_X11_make_qz4 _ _ _) ?_ | with_reducible refine Zh_of (hK _ _ _ _) ?_ | with_reducible exact hK | with_reducible refine Zh_of (ih _ _ _ _) ?_ | with_reducible exact ih
set_option maxHeartbeats 4000000 in
set_option maxRecDepth 100000 in
theorem f_X11_readAhead_L4_qz4 (K : Nat → Int32 → Int32 → im_S → Option (Int32 × im_S)) (fu : Nat) (hK : ∀ (a0 : Nat) (a1 : Int32) (a2 : Int32) (S : im_S), Zh (K a0 a1 a2 S) S) : ∀ (nf : Nat) (y0 : Int32) (y1 : Int32) (S : im_S), Zh (f_X11_readAhead_L4 K fu nf y0 y1 S) S := by
  intro nf
  induction nf with
  | zero => intro y0 y1 S; exact Zh_none _
  | succ nf ih =>
    intro y0 y1 S
    unfold f_X11_readAhead_L4
    repeat' first | with_reducible exact Zh_none _ | with_reducible refine Zh_gd ?_ | with_reducible refine Zh_ite ?_ ?_ | with_reducible refine Zh_bind ?_ (fun q => ?_) | with_reducible refine Zh_some ?_ | with_reducible exact Zq_refl _ | refine Zq_uI rfl ?_ | refine Zq_uJ ?_ | with_reducible refine Zh_of (f_X11_isSign_qz4 _ _) ?_ | with_reducible refine Zh_of (f_X11_want_qz4 _ _) ?_ | with_reducible refine Zh_of (f_X11_make_qz4 _ _ _) ?_ | with_reducible refine Zh_of (f_X11_readAhead_L150_qz4 _ _ ?_ _ _ _ _ _) ?_ | with_reducible refine Zh_of (hK _ _ _ _) ?_ | with_reducible exact hK | with_reducible refine Zh_of (ih _ _ _) ?_ | with_reducible exact ih
set_option maxHeartbeats 4000000 in
set_option maxRecDepth 100000 in
theorem f_X11_readAhead_qz4 (K : Nat → Int32 → Int32 → im_S → Option (Int32 × im_S)) (fu : Nat) (S : im_S) (hK : ∀ (a0 : Nat) (a1 : Int32) (a2 : Int32) (S : im_S), Zh (K a0 a1 a2 S) S) : Zh (f_X11_readAhead K fu S) S := by
  unfold f_X11_readAhead
  repeat' first | with_reducible exact Zh_none _ | with_reducible refine Zh_gd ?_ | with_reducible refine Zh_ite ?_ ?_ | with_reducible refine Zh_bind ?_ (fun q => ?_) | with_reducible refine Zh_some ?_ | with_reducible exact Zq_refl _ | refine Zq_uI rfl ?_ | refine Zq_uJ ?_ | with_reducible refine Zh_of (f_X11_readAhead_L4_qz4 _ _ ?_ _ _ _ _) ?_ | with_reducible refine Zh_of (hK _ _ _ _) ?_ | with_reducible exact hK
set_option maxHeartbeats 4000000 in
set_option maxRecDepth 100000 in
theorem f_X11_readAtom_L188_qz4 (K : Nat → Int32 → Int32 → im_S → Option (Int32 × im_S)) (fu : Nat) (hK : ∀ (a0 : Nat) (a1 : Int32) (a2 : Int32) (S : im_S), Zh (K a0 a1 a2 S) S) : ∀ (nf : Nat) (y0 : Int32) (y1 : Int32) (S : im_S), Zh (f_X11_readAtom_L188 K fu nf y0 y1 S) S := by
  intro nf
  induction nf with
  | zero => intro y0 y1 S; exact Zh_none _
  | succ nf ih =>
    intro y0 y1 S
    unfold f_X11_readAtom_L188
    repeat' first | with_reducible exact Zh_none _ | with_reducible refine Zh_gd ?_ | with_reducible refine Zh_ite ?_ ?_ | with_reducible refine Zh_bind ?_ (fun q => ?_) | with_reducible refine Zh_some ?_ | with_reducible exact Zq_refl _ | refine Zq_uI rfl ?_ | refine Zq_uJ ?_ | with_reducible refine Zh_of (f_X11_refuse_qz4 _) ?_ | with_reducible refine Zh_of (f_X11_isSign_qz4 _ _) ?_ | with_reducible refine Zh_of (f_X11_takes_qz4 _ _) ?_ | with_reducible refine Zh_of (f_X11_want_qz4 _ _) ?_ | with_reducible refine Zh_of (f_X11_layRow_qz4 _ _ _) ?_ | with_reducible refine Zh_of (hK _ _ _ _) ?_ | with_reducible exact hK | with_reducible refine Zh_of (ih _ _ _) ?_ | with_reducible exact ih
set_option maxHeartbeats 4000000 in
set_option maxRecDepth 100000 in
theorem f_X11_readAtom_qz4 (K : Nat → Int32 → Int32 → im_S → Option (Int32 × im_S)) (fu : Nat) (S : im_S) (hK : ∀ (a0 : Nat) (a1 : Int32) (a2 : Int32) (S : im_S), Zh (K a0 a1 a2 S) S) : Zh (f_X11_readAtom K fu S) S := by
  unfold f_X11_readAtom
  repeat' first | with_reducible exact Zh_none _ | with_reducible refine Zh_gd ?_ | with_reducible refine Zh_ite ?_ ?_ | with_reducible refine Zh_bind ?_ (fun q => ?_) | with_reducible refine Zh_some ?_ | with_reducible exact Zq_refl _ | refine Zq_uI rfl ?_ | refine Zq_uJ ?_ | with_reducible refine Zh_of (f_X11_refuse_qz4 _) ?_ | with_reducible refine Zh_of (f_X11_isSign_qz4 _ _) ?_ | with_reducible refine Zh_of (f_X11_isWord_qz4 _ _) ?_ | with_reducible refine Zh_of (f_X11_takes_qz4 _ _) ?_ | with_reducible refine Zh_of (f_X11_make_qz4 _ _ _) ?_ | with_reducible refine Zh_of (f_X11_readAtom_L188_qz4 _ _ ?_ _ _ _ _) ?_ | with_reducible refine Zh_of (hK _ _ _ _) ?_ | with_reducible exact hK
set_option maxHeartbeats 4000000 in
set_option maxRecDepth 100000 in
theorem f_X11_readTable_qz4 (K : Nat → Int32 → Int32 → im_S → Option (Int32 × im_S)) (fu : Nat) (S : im_S) (hK : ∀ (a0 : Nat) (a1 : Int32) (a2 : Int32) (S : im_S), Zh (K a0 a1 a2 S) S) : Zh (f_X11_readTable K fu S) S := by
  unfold f_X11_readTable
  repeat' first | with_reducible exact Zh_none _ | with_reducible refine Zh_gd ?_ | with_reducible refine Zh_ite ?_ ?_ | with_reducible refine Zh_bind ?_ (fun q => ?_) | with_reducible refine Zh_some ?_ | with_reducible exact Zq_refl _ | refine Zq_uI rfl ?_ | refine Zq_uJ ?_ | with_reducible refine Zh_of (f_X11_isSign_qz4 _ _) ?_ | with_reducible refine Zh_of (f_X11_isWord_qz4 _ _) ?_ | with_reducible refine Zh_of (f_X11_want_qz4 _ _) ?_ | with_reducible refine Zh_of (f_X11_wantName_qz4 _) ?_ | with_reducible refine Zh_of (f_X11_make_qz4 _ _ _) ?_ | with_reducible refine Zh_of (f_X11_addRow_qz4 _ _ _) ?_ | with_reducible refine Zh_of (hK _ _ _ _) ?_ | with_reducible exact hK
theorem rc_read_qz4 (fu : Nat) : ∀ (d lab : Nat) (a b : Int32) (S : im_S), Zh (rc_read fu d lab a b S) S := by
  intro d
  induction d with
  | zero => intro lab a b S; exact Zh_none _
  | succ d ih =>
    intro lab a b S
    unfold rc_read
    repeat' first | with_reducible exact Zh_none _ | with_reducible refine Zh_gd ?_ | with_reducible refine Zh_ite ?_ ?_ | with_reducible refine Zh_bind ?_ (fun q => ?_) | with_reducible refine Zh_some ?_ | with_reducible exact Zq_refl _ | refine Zq_uI rfl ?_ | refine Zq_uJ ?_ | with_reducible refine Zh_of (f_X11_readX_qz4 _ _ _ ?_) ?_ | with_reducible refine Zh_of (f_X11_readWithin_qz4 _ _ _ ?_) ?_ | with_reducible refine Zh_of (f_X11_readLet_qz4 _ _ _ ?_) ?_ | with_reducible refine Zh_of (f_X11_readIf_qz4 _ _ _ ?_) ?_ | with_reducible refine Zh_of (f_X11_readBindings_qz4 _ _ _ _ ?_) ?_ | with_reducible refine Zh_of (f_X11_readLoop_qz4 _ _ _ ?_) ?_ | with_reducible refine Zh_of (f_X11_readSigns_qz4 _ _ _ _ ?_) ?_ | with_reducible refine Zh_of (f_X11_readAhead_qz4 _ _ _ ?_) ?_ | with_reducible refine Zh_of (f_X11_readAtom_qz4 _ _ _ ?_) ?_ | with_reducible refine Zh_of (f_X11_readTable_qz4 _ _ _ ?_) ?_ | with_reducible exact ih
set_option maxHeartbeats 4000000 in
set_option maxRecDepth 100000 in
theorem g_X11_readX_qz4 (fu : Nat) (S : im_S) : Zh (g_X11_readX fu S) S := by
  unfold g_X11_readX
  repeat' first | with_reducible exact Zh_none _ | with_reducible refine Zh_gd ?_ | with_reducible refine Zh_ite ?_ ?_ | with_reducible refine Zh_bind ?_ (fun q => ?_) | with_reducible refine Zh_some ?_ | with_reducible exact Zq_refl _ | refine Zq_uI rfl ?_ | refine Zq_uJ ?_ | with_reducible refine Zh_of (rc_read_qz4 _ _ _ _ _ _) ?_
set_option maxHeartbeats 4000000 in
set_option maxRecDepth 100000 in
theorem f_X11_readFunction_L101_qz4 (fu : Nat) : ∀ (nf : Nat) (y0 : Int32) (S : im_S), Zh (f_X11_readFunction_L101 fu nf y0 S) S := by
  intro nf
  induction nf with
  | zero => intro y0 S; exact Zh_none _
  | succ nf ih =>
    intro y0 S
    unfold f_X11_readFunction_L101
    repeat' first | with_reducible exact Zh_none _ | with_reducible refine Zh_gd ?_ | with_reducible refine Zh_ite ?_ ?_ | with_reducible refine Zh_bind ?_ (fun q => ?_) | with_reducible refine Zh_some ?_ | with_reducible exact Zq_refl _ | refine Zq_uI rfl ?_ | refine Zq_uJ ?_ | with_reducible refine Zh_of (f_X11_refuse_qz4 _) ?_ | with_reducible refine Zh_of (f_X11_isSign_qz4 _ _) ?_ | with_reducible refine Zh_of (f_X11_takes_qz4 _ _) ?_ | with_reducible refine Zh_of (f_X11_want_qz4 _ _) ?_ | with_reducible refine Zh_of (f_X11_wantName_qz4 _) ?_ | with_reducible refine Zh_of (g_X11_readX_qz4 _ _) ?_ | with_reducible refine Zh_of (ih _ _) ?_ | with_reducible exact ih
set_option maxHeartbeats 4000000 in
set_option maxRecDepth 100000 in
theorem f_X11_readFunction_qz4 (fu : Nat) (S : im_S) : Zh (f_X11_readFunction fu S) S := by
  unfold f_X11_readFunction
  repeat' first | with_reducible exact Zh_none _ | with_reducible refine Zh_gd ?_ | with_reducible refine Zh_ite ?_ ?_ | with_reducible refine Zh_bind ?_ (fun q => ?_) | with_reducible refine Zh_some ?_ | with_reducible exact Zq_refl _ | refine Zq_uI rfl ?_ | refine Zq_uJ ?_ | with_reducible refine Zh_of (f_X11_refuse_qz4 _) ?_ | with_reducible refine Zh_of (f_X11_isSign_qz4 _ _) ?_ | with_reducible refine Zh_of (f_X11_takes_qz4 _ _) ?_ | with_reducible refine Zh_of (f_X11_want_qz4 _ _) ?_ | with_reducible refine Zh_of (f_X11_wantName_qz4 _) ?_ | with_reducible refine Zh_of (g_X11_readX_qz4 _ _) ?_ | with_reducible refine Zh_of (f_X11_readFunction_L101_qz4 _ _ _ _) ?_
set_option maxHeartbeats 4000000 in
set_option maxRecDepth 100000 in
theorem f_X11_readProgram_L52_qz4 (fu : Nat) : ∀ (nf : Nat)  (S : im_S), Zh (f_X11_readProgram_L52 fu nf  S) S := by
  intro nf
  induction nf with
  | zero => intro  S; exact Zh_none _
  | succ nf ih =>
    intro  S
    unfold f_X11_readProgram_L52
    repeat' first | with_reducible exact Zh_none _ | with_reducible refine Zh_gd ?_ | with_reducible refine Zh_ite ?_ ?_ | with_reducible refine Zh_bind ?_ (fun q => ?_) | with_reducible refine Zh_some ?_ | with_reducible exact Zq_refl _ | refine Zq_uI rfl ?_ | refine Zq_uJ ?_ | with_reducible refine Zh_of (f_X11_readFunction_qz4 _ _) ?_ | with_reducible refine Zh_of (ih _) ?_ | with_reducible exact ih
