/-! what each function keeps: written by program (wip/whole/mkframe.py) -/
def Kp (P L : Nat → Bool) (S S1 : im_S) : Prop := (∀ i, P i = true → S1.1 i = S.1 i ∧ S1.2.1 i = S.2.1 i) ∧ ∀ i, L i = true → S1.2.2 i = S.2.2 i
theorem Kp_refl {P L : Nat → Bool} (S : im_S) : Kp P L S S := ⟨fun _ _ => ⟨rfl, rfl⟩, fun _ _ => rfl⟩
theorem Kp_trans {P L : Nat → Bool} {S S1 S2 : im_S} (a : Kp P L S S1) (b : Kp P L S1 S2) : Kp P L S S2 := ⟨fun i h => ⟨(b.1 i h).1.trans (a.1 i h).1, (b.1 i h).2.trans (a.1 i h).2⟩, fun i h => (b.2 i h).trans (a.2 i h)⟩
theorem Kp_uI {P L : Nat → Bool} {S S1 : im_S} {a j : Nat} {v : Int32} (h : P a = false) (k : Kp P L S S1) : Kp P L S (uI S1 a j v) := by
  refine ⟨fun i hi => ⟨?_, (k.1 i hi).2⟩, k.2⟩
  have e : i ≠ a := fun z => by rw [z, h] at hi; cases hi
  show va_up S1.1 a _ i = _
  rw [va_up_ne _ _ e]
  exact (k.1 i hi).1
theorem Kp_uJ {P L : Nat → Bool} {S S1 : im_S} {a j : Nat} {v : Int64} (h : P a = false) (k : Kp P L S S1) : Kp P L S (uJ S1 a j v) := by
  refine ⟨fun i hi => ⟨(k.1 i hi).1, ?_⟩, k.2⟩
  have e : i ≠ a := fun z => by rw [z, h] at hi; cases hi
  show va_up S1.2.1 a _ i = _
  rw [va_up_ne _ _ e]
  exact (k.1 i hi).2
theorem Kp_gI {P L : Nat → Bool} {S S1 : im_S} {a n : Nat} (h : P a = false) (h2 : L a = false) (k : Kp P L S S1) : Kp P L S (gI S1 a n) := by
  refine ⟨fun i hi => ⟨?_, (k.1 i hi).2⟩, fun i hi => ?_⟩
  · have e : i ≠ a := fun z => by rw [z, h] at hi; cases hi
    show va_up S1.1 a _ i = _
    rw [va_up_ne _ _ e]
    exact (k.1 i hi).1
  · have e : i ≠ a := fun z => by rw [z, h2] at hi; cases hi
    show va_up S1.2.2 a _ i = _
    rw [va_up_ne _ _ e]
    exact k.2 i hi
theorem Kp_gJ {P L : Nat → Bool} {S S1 : im_S} {a n : Nat} (h : P a = false) (h2 : L a = false) (k : Kp P L S S1) : Kp P L S (gJ S1 a n) := by
  refine ⟨fun i hi => ⟨(k.1 i hi).1, ?_⟩, fun i hi => ?_⟩
  · have e : i ≠ a := fun z => by rw [z, h] at hi; cases hi
    show va_up S1.2.1 a _ i = _
    rw [va_up_ne _ _ e]
    exact (k.1 i hi).2
  · have e : i ≠ a := fun z => by rw [z, h2] at hi; cases hi
    show va_up S1.2.2 a _ i = _
    rw [va_up_ne _ _ e]
    exact k.2 i hi
def Kf {α : Type} (P L : Nat → Bool) (x : Option (α × im_S)) (S : im_S) : Prop := ∀ (r : α) (S' : im_S), x = some (r, S') → Kp P L S S'
theorem Kf_none {α : Type} {P L : Nat → Bool} (S : im_S) : Kf P L (none : Option (α × im_S)) S := fun _ _ h => by cases h
theorem Kf_gd {α : Type} {P L : Nat → Bool} {b : Bool} {x : Option (α × im_S)} {S : im_S} (h : Kf P L x S) : Kf P L (gd b x) S := fun r S' e => h r S' (gd_some e).2
theorem Kf_some {α : Type} {P L : Nat → Bool} {r : α} {S S1 : im_S} (k : Kp P L S S1) : Kf P L (some (r, S1)) S := fun _ _ h => by cases h; exact k
theorem Kf_ite {α : Type} {P L : Nat → Bool} {c : Prop} [Decidable c] {x y : Option (α × im_S)} {S : im_S} (h1 : Kf P L x S) (h2 : Kf P L y S) : Kf P L (if c then x else y) S := by
  by_cases hc : c
  · rw [if_pos hc]; exact h1
  · rw [if_neg hc]; exact h2
theorem Kf_bind {α β : Type} {P L : Nat → Bool} {x : Option (α × im_S)} {f : α × im_S → Option (β × im_S)} {S : im_S} (h1 : Kf P L x S) (h2 : ∀ q : α × im_S, Kf P L (f q) q.2) : Kf P L (x.bind f) S := by
  intro r S' e
  obtain ⟨a, ha, hb⟩ := bd_some e
  exact Kp_trans (h1 a.1 a.2 ha) (h2 a r S' hb)
theorem Kf_of {α : Type} {P L : Nat → Bool} {x : Option (α × im_S)} {S1 S : im_S} (h : Kf P L x S1) (k : Kp P L S S1) : Kf P L x S := fun r S' e => Kp_trans k (h r S' e)
theorem Kp_weak {P L P' L' : Nat → Bool} (h1 : ∀ i, P' i = true → P i = true) (h2 : ∀ i, L' i = true → L i = true) {S S1 : im_S} (k : Kp P L S S1) : Kp P' L' S S1 := ⟨fun i h => k.1 i (h1 i h), fun i h => k.2 i (h2 i h)⟩
/-- what the reference leaves -/
def kR (i : Nat) : Bool := Nat.ble i 74 || Nat.beq i 134
/-- what the parser leaves -/
def kP (i : Nat) : Bool := Nat.ble i 2 || Nat.ble 38 i
/-- what the machine leaves -/
def kM (i : Nat) : Bool := Nat.ble i 37 || ((Nat.ble 40 i && Nat.ble i 63) || Nat.ble 75 i)
def kT (_ : Nat) : Bool := true
def kG (i : Nat) : Bool := !(gA i)
theorem Kf_wk {α : Type} {P : Nat → Bool} {x : Option (α × im_S)} {S : im_S} (h : Kf P kT x S) : Kf P kG x S := fun r S1 e => Kp_weak (fun _ q => q) (fun _ _ => rfl) (h r S1 e)
theorem f_sg_indexOf_k (x : Int32) (S : im_S) : Kf kP kT (f_sg_indexOf x S) S := by
  intro r S' e
  unfold f_sg_indexOf at e
  cases hx : sg_ix x with
  | none => rw [hx] at e; cases e
  | some q => rw [hx] at e; cases e; exact Kp_refl _

set_option maxHeartbeats 4000000 in
set_option maxRecDepth 100000 in
theorem f_J9_floorMod_f86c9_k (x0 : Int64) (x2 : Int64) (S : im_S) : Kf kM kT (f_J9_floorMod_f86c9 x0 x2 S) S := by
  unfold f_J9_floorMod_f86c9
  repeat' first | with_reducible exact Kf_none _ | with_reducible refine Kf_gd ?_ | with_reducible refine Kf_ite ?_ ?_ | with_reducible refine Kf_bind ?_ (fun q => ?_) | with_reducible refine Kf_some ?_ | with_reducible exact Kp_refl _ | refine Kp_uI rfl ?_ | refine Kp_uJ rfl ?_
set_option maxHeartbeats 4000000 in
set_option maxRecDepth 100000 in
theorem f_J7_rangeCheck_23922_k (x0 : Int32) (x1 : Int32) (x2 : Int32) (S : im_S) : Kf kM kT (f_J7_rangeCheck_23922 x0 x1 x2 S) S := by
  unfold f_J7_rangeCheck_23922
  repeat' first | with_reducible exact Kf_none _ | with_reducible refine Kf_gd ?_ | with_reducible refine Kf_ite ?_ ?_ | with_reducible refine Kf_bind ?_ (fun q => ?_) | with_reducible refine Kf_some ?_ | with_reducible exact Kp_refl _ | refine Kp_uI rfl ?_ | refine Kp_uJ rfl ?_
set_option maxHeartbeats 4000000 in
set_option maxRecDepth 100000 in
theorem f_J7_fill_bad5a_L10_k (fu : Nat) : ∀ (nf : Nat) (y0 : Int32) (y1 : Int32) (y2 : Int64) (y3 : Int32) (S : im_S), Kf kM kT (f_J7_fill_bad5a_L10 fu nf y0 y1 y2 y3 S) S := by
  intro nf
  induction nf with
  | zero => intro y0 y1 y2 y3 S; exact Kf_none _
  | succ nf ih =>
    intro y0 y1 y2 y3 S
    unfold f_J7_fill_bad5a_L10
    repeat' first | with_reducible exact Kf_none _ | with_reducible refine Kf_gd ?_ | with_reducible refine Kf_ite ?_ ?_ | with_reducible refine Kf_bind ?_ (fun q => ?_) | with_reducible refine Kf_some ?_ | with_reducible exact Kp_refl _ | refine Kp_uI rfl ?_ | refine Kp_uJ rfl ?_ | with_reducible refine Kf_of (ih _ _ _ _ _) ?_ | with_reducible exact ih
set_option maxHeartbeats 4000000 in
set_option maxRecDepth 100000 in
theorem f_J7_fill_bad5a_k (fu : Nat) (x1 : Int32) (x2 : Int32) (x3 : Int64) (S : im_S) : Kf kM kT (f_J7_fill_bad5a fu x1 x2 x3 S) S := by
  unfold f_J7_fill_bad5a
  repeat' first | with_reducible exact Kf_none _ | with_reducible refine Kf_gd ?_ | with_reducible refine Kf_ite ?_ ?_ | with_reducible refine Kf_bind ?_ (fun q => ?_) | with_reducible refine Kf_some ?_ | with_reducible exact Kp_refl _ | refine Kp_uI rfl ?_ | refine Kp_uJ rfl ?_ | with_reducible refine Kf_of ((f_J7_rangeCheck_23922_k _ _ _ _)) ?_ | with_reducible refine Kf_of ((f_J7_fill_bad5a_L10_k _ _ _ _ _ _ _)) ?_
set_option maxHeartbeats 4000000 in
set_option maxRecDepth 100000 in
theorem f_J7_fill_eb02e_L10_k (fu : Nat) : ∀ (nf : Nat) (y0 : Int32) (y1 : Int32) (y2 : Int32) (y3 : Int32) (S : im_S), Kf kM kT (f_J7_fill_eb02e_L10 fu nf y0 y1 y2 y3 S) S := by
  intro nf
  induction nf with
  | zero => intro y0 y1 y2 y3 S; exact Kf_none _
  | succ nf ih =>
    intro y0 y1 y2 y3 S
    unfold f_J7_fill_eb02e_L10
    repeat' first | with_reducible exact Kf_none _ | with_reducible refine Kf_gd ?_ | with_reducible refine Kf_ite ?_ ?_ | with_reducible refine Kf_bind ?_ (fun q => ?_) | with_reducible refine Kf_some ?_ | with_reducible exact Kp_refl _ | refine Kp_uI rfl ?_ | refine Kp_uJ rfl ?_ | with_reducible refine Kf_of (ih _ _ _ _ _) ?_ | with_reducible exact ih
set_option maxHeartbeats 4000000 in
set_option maxRecDepth 100000 in
theorem f_J7_fill_eb02e_k (fu : Nat) (x1 : Int32) (x2 : Int32) (x3 : Int32) (S : im_S) : Kf kM kT (f_J7_fill_eb02e fu x1 x2 x3 S) S := by
  unfold f_J7_fill_eb02e
  repeat' first | with_reducible exact Kf_none _ | with_reducible refine Kf_gd ?_ | with_reducible refine Kf_ite ?_ ?_ | with_reducible refine Kf_bind ?_ (fun q => ?_) | with_reducible refine Kf_some ?_ | with_reducible exact Kp_refl _ | refine Kp_uI rfl ?_ | refine Kp_uJ rfl ?_ | with_reducible refine Kf_of ((f_J7_rangeCheck_23922_k _ _ _ _)) ?_ | with_reducible refine Kf_of ((f_J7_fill_eb02e_L10_k _ _ _ _ _ _ _)) ?_
set_option maxHeartbeats 4000000 in
set_option maxRecDepth 100000 in
theorem f_X1_clear_k (S : im_S) : Kf kP kT (f_X1_clear S) S := by
  unfold f_X1_clear
  repeat' first | with_reducible exact Kf_none _ | with_reducible refine Kf_gd ?_ | with_reducible refine Kf_ite ?_ ?_ | with_reducible refine Kf_bind ?_ (fun q => ?_) | with_reducible refine Kf_some ?_ | with_reducible exact Kp_refl _ | refine Kp_uI rfl ?_ | refine Kp_uJ rfl ?_
set_option maxHeartbeats 4000000 in
set_option maxRecDepth 100000 in
theorem f_X1_note_k (x1 : Int32) (x2 : Int32) (S : im_S) : Kf kP kT (f_X1_note x1 x2 S) S := by
  unfold f_X1_note
  repeat' first | with_reducible exact Kf_none _ | with_reducible refine Kf_gd ?_ | with_reducible refine Kf_ite ?_ ?_ | with_reducible refine Kf_bind ?_ (fun q => ?_) | with_reducible refine Kf_some ?_ | with_reducible exact Kp_refl _ | refine Kp_uI rfl ?_ | refine Kp_uJ rfl ?_
set_option maxHeartbeats 4000000 in
set_option maxRecDepth 100000 in
theorem f_X4_clear_k (S : im_S) : Kf kP kT (f_X4_clear S) S := by
  unfold f_X4_clear
  repeat' first | with_reducible exact Kf_none _ | with_reducible refine Kf_gd ?_ | with_reducible refine Kf_ite ?_ ?_ | with_reducible refine Kf_bind ?_ (fun q => ?_) | with_reducible refine Kf_some ?_ | with_reducible exact Kp_refl _ | refine Kp_uI rfl ?_ | refine Kp_uJ rfl ?_
set_option maxHeartbeats 4000000 in
set_option maxRecDepth 100000 in
theorem f_X4_addTemplate_k (x1 : Int32) (S : im_S) : Kf kP kT (f_X4_addTemplate x1 S) S := by
  unfold f_X4_addTemplate
  repeat' first | with_reducible exact Kf_none _ | with_reducible refine Kf_gd ?_ | with_reducible refine Kf_ite ?_ ?_ | with_reducible refine Kf_bind ?_ (fun q => ?_) | with_reducible refine Kf_some ?_ | with_reducible exact Kp_refl _ | refine Kp_uI rfl ?_ | refine Kp_uJ rfl ?_
set_option maxHeartbeats 4000000 in
set_option maxRecDepth 100000 in
theorem f_X4_addRegion_k (x1 : Int32) (S : im_S) : Kf kP kT (f_X4_addRegion x1 S) S := by
  unfold f_X4_addRegion
  repeat' first | with_reducible exact Kf_none _ | with_reducible refine Kf_gd ?_ | with_reducible refine Kf_ite ?_ ?_ | with_reducible refine Kf_bind ?_ (fun q => ?_) | with_reducible refine Kf_some ?_ | with_reducible exact Kp_refl _ | refine Kp_uI rfl ?_ | refine Kp_uJ rfl ?_
set_option maxHeartbeats 4000000 in
set_option maxRecDepth 100000 in
theorem f_X4_addFunction_k (x1 : Int64) (S : im_S) : Kf kP kT (f_X4_addFunction x1 S) S := by
  unfold f_X4_addFunction
  repeat' first | with_reducible exact Kf_none _ | with_reducible refine Kf_gd ?_ | with_reducible refine Kf_ite ?_ ?_ | with_reducible refine Kf_bind ?_ (fun q => ?_) | with_reducible refine Kf_some ?_ | with_reducible exact Kp_refl _ | refine Kp_uI rfl ?_ | refine Kp_uJ rfl ?_ | with_reducible refine Kf_of ((f_X4_addTemplate_k _ _)) ?_ | with_reducible refine Kf_of ((f_X4_addRegion_k _ _)) ?_
set_option maxHeartbeats 4000000 in
set_option maxRecDepth 100000 in
theorem f_X4_findFunction_L2_k (fu : Nat) : ∀ (nf : Nat) (y0 : Int64) (y1 : Int32) (S : im_S), Kf kP kT (f_X4_findFunction_L2 fu nf y0 y1 S) S := by
  intro nf
  induction nf with
  | zero => intro y0 y1 S; exact Kf_none _
  | succ nf ih =>
    intro y0 y1 S
    unfold f_X4_findFunction_L2
    repeat' first | with_reducible exact Kf_none _ | with_reducible refine Kf_gd ?_ | with_reducible refine Kf_ite ?_ ?_ | with_reducible refine Kf_bind ?_ (fun q => ?_) | with_reducible refine Kf_some ?_ | with_reducible exact Kp_refl _ | refine Kp_uI rfl ?_ | refine Kp_uJ rfl ?_ | with_reducible refine Kf_of (ih _ _ _) ?_ | with_reducible exact ih
set_option maxHeartbeats 4000000 in
set_option maxRecDepth 100000 in
theorem f_X4_findFunction_k (fu : Nat) (x1 : Int64) (S : im_S) : Kf kP kT (f_X4_findFunction fu x1 S) S := by
  unfold f_X4_findFunction
  repeat' first | with_reducible exact Kf_none _ | with_reducible refine Kf_gd ?_ | with_reducible refine Kf_ite ?_ ?_ | with_reducible refine Kf_bind ?_ (fun q => ?_) | with_reducible refine Kf_some ?_ | with_reducible exact Kp_refl _ | refine Kp_uI rfl ?_ | refine Kp_uJ rfl ?_ | with_reducible refine Kf_of ((f_X4_findFunction_L2_k _ _ _ _ _)) ?_
set_option maxHeartbeats 4000000 in
set_option maxRecDepth 100000 in
theorem f_X6_push_k (x1 : Int32) (x2 : Int32) (x3 : Int32) (S : im_S) : Kf kP kT (f_X6_push x1 x2 x3 S) S := by
  unfold f_X6_push
  repeat' first | with_reducible exact Kf_none _ | with_reducible refine Kf_gd ?_ | with_reducible refine Kf_ite ?_ ?_ | with_reducible refine Kf_bind ?_ (fun q => ?_) | with_reducible refine Kf_some ?_ | with_reducible exact Kp_refl _ | refine Kp_uI rfl ?_ | refine Kp_uJ rfl ?_
set_option maxHeartbeats 4000000 in
set_option maxRecDepth 100000 in
theorem f_X6_pop_k (S : im_S) : Kf kP kT (f_X6_pop S) S := by
  unfold f_X6_pop
  repeat' first | with_reducible exact Kf_none _ | with_reducible refine Kf_gd ?_ | with_reducible refine Kf_ite ?_ ?_ | with_reducible refine Kf_bind ?_ (fun q => ?_) | with_reducible refine Kf_some ?_ | with_reducible exact Kp_refl _ | refine Kp_uI rfl ?_ | refine Kp_uJ rfl ?_
set_option maxHeartbeats 4000000 in
set_option maxRecDepth 100000 in
theorem f_X6_topKind_k (S : im_S) : Kf kP kT (f_X6_topKind S) S := by
  unfold f_X6_topKind
  repeat' first | with_reducible exact Kf_none _ | with_reducible refine Kf_gd ?_ | with_reducible refine Kf_ite ?_ ?_ | with_reducible refine Kf_bind ?_ (fun q => ?_) | with_reducible refine Kf_some ?_ | with_reducible exact Kp_refl _ | refine Kp_uI rfl ?_ | refine Kp_uJ rfl ?_
set_option maxHeartbeats 4000000 in
set_option maxRecDepth 100000 in
theorem f_X6_topNode_k (S : im_S) : Kf kP kT (f_X6_topNode S) S := by
  unfold f_X6_topNode
  repeat' first | with_reducible exact Kf_none _ | with_reducible refine Kf_gd ?_ | with_reducible refine Kf_ite ?_ ?_ | with_reducible refine Kf_bind ?_ (fun q => ?_) | with_reducible refine Kf_some ?_ | with_reducible exact Kp_refl _ | refine Kp_uI rfl ?_ | refine Kp_uJ rfl ?_
set_option maxHeartbeats 4000000 in
set_option maxRecDepth 100000 in
theorem f_X6_topRegion_k (S : im_S) : Kf kP kT (f_X6_topRegion S) S := by
  unfold f_X6_topRegion
  repeat' first | with_reducible exact Kf_none _ | with_reducible refine Kf_gd ?_ | with_reducible refine Kf_ite ?_ ?_ | with_reducible refine Kf_bind ?_ (fun q => ?_) | with_reducible refine Kf_some ?_ | with_reducible exact Kp_refl _ | refine Kp_uI rfl ?_ | refine Kp_uJ rfl ?_
set_option maxHeartbeats 4000000 in
set_option maxRecDepth 100000 in
theorem f_X6_topStrength_k (S : im_S) : Kf kP kT (f_X6_topStrength S) S := by
  unfold f_X6_topStrength
  repeat' first | with_reducible exact Kf_none _ | with_reducible refine Kf_gd ?_ | with_reducible refine Kf_ite ?_ ?_ | with_reducible refine Kf_bind ?_ (fun q => ?_) | with_reducible refine Kf_some ?_ | with_reducible exact Kp_refl _ | refine Kp_uI rfl ?_ | refine Kp_uJ rfl ?_ | with_reducible refine Kf_of ((f_X6_topKind_k _)) ?_
set_option maxHeartbeats 4000000 in
set_option maxRecDepth 100000 in
theorem f_X6_topEndsByItself_k (S : im_S) : Kf kP kT (f_X6_topEndsByItself S) S := by
  unfold f_X6_topEndsByItself
  repeat' first | with_reducible exact Kf_none _ | with_reducible refine Kf_gd ?_ | with_reducible refine Kf_ite ?_ ?_ | with_reducible refine Kf_bind ?_ (fun q => ?_) | with_reducible refine Kf_some ?_ | with_reducible exact Kp_refl _ | refine Kp_uI rfl ?_ | refine Kp_uJ rfl ?_ | with_reducible refine Kf_of ((f_X6_topKind_k _)) ?_
set_option maxHeartbeats 4000000 in
set_option maxRecDepth 100000 in
theorem f_X6_strengthOf_k (x0 : Int32) (S : im_S) : Kf kP kT (f_X6_strengthOf x0 S) S := by
  unfold f_X6_strengthOf
  repeat' first | with_reducible exact Kf_none _ | with_reducible refine Kf_gd ?_ | with_reducible refine Kf_ite ?_ ?_ | with_reducible refine Kf_bind ?_ (fun q => ?_) | with_reducible refine Kf_some ?_ | with_reducible exact Kp_refl _ | refine Kp_uI rfl ?_ | refine Kp_uJ rfl ?_
set_option maxHeartbeats 4000000 in
set_option maxRecDepth 100000 in
theorem f_X3_moveTo_k (x1 : Int32) (x2 : Int32) (S : im_S) : Kf kP kT (f_X3_moveTo x1 x2 S) S := by
  unfold f_X3_moveTo
  repeat' first | with_reducible exact Kf_none _ | with_reducible refine Kf_gd ?_ | with_reducible refine Kf_ite ?_ ?_ | with_reducible refine Kf_bind ?_ (fun q => ?_) | with_reducible refine Kf_some ?_ | with_reducible exact Kp_refl _ | refine Kp_uI rfl ?_ | refine Kp_uJ rfl ?_
set_option maxHeartbeats 4000000 in
set_option maxRecDepth 100000 in
theorem f_X3_connect_k (x1 : Int32) (x2 : Int32) (x3 : Int32) (x4 : Int32) (S : im_S) : Kf kP kT (f_X3_connect x1 x2 x3 x4 S) S := by
  unfold f_X3_connect
  repeat' first | with_reducible exact Kf_none _ | with_reducible refine Kf_gd ?_ | with_reducible refine Kf_ite ?_ ?_ | with_reducible refine Kf_bind ?_ (fun q => ?_) | with_reducible refine Kf_some ?_ | with_reducible exact Kp_refl _ | refine Kp_uI rfl ?_ | refine Kp_uJ rfl ?_
set_option maxHeartbeats 4000000 in
set_option maxRecDepth 100000 in
theorem f_X3_chainLength_L4_k (fu : Nat) : ∀ (nf : Nat) (y0 : Int32) (y1 : Int32) (y2 : Int32) (S : im_S), Kf kP kT (f_X3_chainLength_L4 fu nf y0 y1 y2 S) S := by
  intro nf
  induction nf with
  | zero => intro y0 y1 y2 S; exact Kf_none _
  | succ nf ih =>
    intro y0 y1 y2 S
    unfold f_X3_chainLength_L4
    repeat' first | with_reducible exact Kf_none _ | with_reducible refine Kf_gd ?_ | with_reducible refine Kf_ite ?_ ?_ | with_reducible refine Kf_bind ?_ (fun q => ?_) | with_reducible refine Kf_some ?_ | with_reducible exact Kp_refl _ | refine Kp_uI rfl ?_ | refine Kp_uJ rfl ?_ | with_reducible refine Kf_of (ih _ _ _ _) ?_ | with_reducible exact ih
set_option maxHeartbeats 4000000 in
set_option maxRecDepth 100000 in
theorem f_X3_chainLength_k (fu : Nat) (x1 : Int32) (S : im_S) : Kf kP kT (f_X3_chainLength fu x1 S) S := by
  unfold f_X3_chainLength
  repeat' first | with_reducible exact Kf_none _ | with_reducible refine Kf_gd ?_ | with_reducible refine Kf_ite ?_ ?_ | with_reducible refine Kf_bind ?_ (fun q => ?_) | with_reducible refine Kf_some ?_ | with_reducible exact Kp_refl _ | refine Kp_uI rfl ?_ | refine Kp_uJ rfl ?_ | with_reducible refine Kf_of ((f_X3_chainLength_L4_k _ _ _ _ _ _)) ?_
set_option maxHeartbeats 4000000 in
set_option maxRecDepth 100000 in
theorem f_X3_findInChain_L6_k (fu : Nat) : ∀ (nf : Nat) (y0 : Int32) (y1 : Int64) (y2 : Int32) (y3 : Int32) (S : im_S), Kf kP kT (f_X3_findInChain_L6 fu nf y0 y1 y2 y3 S) S := by
  intro nf
  induction nf with
  | zero => intro y0 y1 y2 y3 S; exact Kf_none _
  | succ nf ih =>
    intro y0 y1 y2 y3 S
    unfold f_X3_findInChain_L6
    repeat' first | with_reducible exact Kf_none _ | with_reducible refine Kf_gd ?_ | with_reducible refine Kf_ite ?_ ?_ | with_reducible refine Kf_bind ?_ (fun q => ?_) | with_reducible refine Kf_some ?_ | with_reducible exact Kp_refl _ | refine Kp_uI rfl ?_ | refine Kp_uJ rfl ?_ | with_reducible refine Kf_of (ih _ _ _ _ _) ?_ | with_reducible exact ih
set_option maxHeartbeats 4000000 in
set_option maxRecDepth 100000 in
theorem f_X3_findInChain_k (fu : Nat) (x1 : Int32) (x2 : Int64) (S : im_S) : Kf kP kT (f_X3_findInChain fu x1 x2 S) S := by
  unfold f_X3_findInChain
  repeat' first | with_reducible exact Kf_none _ | with_reducible refine Kf_gd ?_ | with_reducible refine Kf_ite ?_ ?_ | with_reducible refine Kf_bind ?_ (fun q => ?_) | with_reducible refine Kf_some ?_ | with_reducible exact Kp_refl _ | refine Kp_uI rfl ?_ | refine Kp_uJ rfl ?_ | with_reducible refine Kf_of ((f_X3_findInChain_L6_k _ _ _ _ _ _ _)) ?_
set_option maxHeartbeats 4000000 in
set_option maxRecDepth 100000 in
theorem f_X3_append_L5_k (fu : Nat) : ∀ (nf : Nat) (y0 : Int32) (y1 : Int32) (y2 : Int32) (y3 : Int32) (S : im_S), Kf kP kT (f_X3_append_L5 fu nf y0 y1 y2 y3 S) S := by
  intro nf
  induction nf with
  | zero => intro y0 y1 y2 y3 S; exact Kf_none _
  | succ nf ih =>
    intro y0 y1 y2 y3 S
    unfold f_X3_append_L5
    repeat' first | with_reducible exact Kf_none _ | with_reducible refine Kf_gd ?_ | with_reducible refine Kf_ite ?_ ?_ | with_reducible refine Kf_bind ?_ (fun q => ?_) | with_reducible refine Kf_some ?_ | with_reducible exact Kp_refl _ | refine Kp_uI rfl ?_ | refine Kp_uJ rfl ?_ | with_reducible refine Kf_of (ih _ _ _ _ _) ?_ | with_reducible exact ih
set_option maxHeartbeats 4000000 in
set_option maxRecDepth 100000 in
theorem f_X3_append_k (fu : Nat) (x1 : Int32) (x2 : Int32) (S : im_S) : Kf kP kT (f_X3_append fu x1 x2 S) S := by
  unfold f_X3_append
  repeat' first | with_reducible exact Kf_none _ | with_reducible refine Kf_gd ?_ | with_reducible refine Kf_ite ?_ ?_ | with_reducible refine Kf_bind ?_ (fun q => ?_) | with_reducible refine Kf_some ?_ | with_reducible exact Kp_refl _ | refine Kp_uI rfl ?_ | refine Kp_uJ rfl ?_ | with_reducible refine Kf_of ((f_X3_append_L5_k _ _ _ _ _ _ _)) ?_
set_option maxHeartbeats 4000000 in
set_option maxRecDepth 100000 in
theorem f_X3_takesNumbers_L12_k (fu : Nat) : ∀ (nf : Nat) (y0 : Int32) (y1 : Int32) (y2 : Int32) (S : im_S), Kf kM kT (f_X3_takesNumbers_L12 fu nf y0 y1 y2 S) S := by
  intro nf
  induction nf with
  | zero => intro y0 y1 y2 S; exact Kf_none _
  | succ nf ih =>
    intro y0 y1 y2 S
    unfold f_X3_takesNumbers_L12
    repeat' first | with_reducible exact Kf_none _ | with_reducible refine Kf_gd ?_ | with_reducible refine Kf_ite ?_ ?_ | with_reducible refine Kf_bind ?_ (fun q => ?_) | with_reducible refine Kf_some ?_ | with_reducible exact Kp_refl _ | refine Kp_uI rfl ?_ | refine Kp_uJ rfl ?_ | with_reducible refine Kf_of (ih _ _ _ _) ?_ | with_reducible exact ih
set_option maxHeartbeats 4000000 in
set_option maxRecDepth 100000 in
theorem f_X3_takesNumbers_k (fu : Nat) (x1 : Int32) (S : im_S) : Kf kM kT (f_X3_takesNumbers fu x1 S) S := by
  unfold f_X3_takesNumbers
  repeat' first | with_reducible exact Kf_none _ | with_reducible refine Kf_gd ?_ | with_reducible refine Kf_ite ?_ ?_ | with_reducible refine Kf_bind ?_ (fun q => ?_) | with_reducible refine Kf_some ?_ | with_reducible exact Kp_refl _ | refine Kp_uI rfl ?_ | refine Kp_uJ rfl ?_ | with_reducible refine Kf_of ((f_X3_takesNumbers_L12_k _ _ _ _ _ _)) ?_
set_option maxHeartbeats 4000000 in
set_option maxRecDepth 100000 in
theorem f_X3_clear_k (S : im_S) : Kf kP kT (f_X3_clear S) S := by
  unfold f_X3_clear
  repeat' first | with_reducible exact Kf_none _ | with_reducible refine Kf_gd ?_ | with_reducible refine Kf_ite ?_ ?_ | with_reducible refine Kf_bind ?_ (fun q => ?_) | with_reducible refine Kf_some ?_ | with_reducible exact Kp_refl _ | refine Kp_uI rfl ?_ | refine Kp_uJ rfl ?_ | with_reducible refine Kf_of ((f_X4_clear_k _)) ?_
set_option maxHeartbeats 4000000 in
set_option maxRecDepth 100000 in
theorem f_X3_add_k (x1 : Int32) (x2 : Int32) (x3 : Int32) (x4 : Int64) (x6 : Int32) (S : im_S) : Kf kP kT (f_X3_add x1 x2 x3 x4 x6 S) S := by
  unfold f_X3_add
  repeat' first | with_reducible exact Kf_none _ | with_reducible refine Kf_gd ?_ | with_reducible refine Kf_ite ?_ ?_ | with_reducible refine Kf_bind ?_ (fun q => ?_) | with_reducible refine Kf_some ?_ | with_reducible exact Kp_refl _ | refine Kp_uI rfl ?_ | refine Kp_uJ rfl ?_ | with_reducible refine Kf_of ((f_X3_moveTo_k _ _ _)) ?_
set_option maxHeartbeats 4000000 in
set_option maxRecDepth 100000 in
theorem f_X3_addInnerTemplate_k (x1 : Int32) (S : im_S) : Kf kP kT (f_X3_addInnerTemplate x1 S) S := by
  unfold f_X3_addInnerTemplate
  repeat' first | with_reducible exact Kf_none _ | with_reducible refine Kf_gd ?_ | with_reducible refine Kf_ite ?_ ?_ | with_reducible refine Kf_bind ?_ (fun q => ?_) | with_reducible refine Kf_some ?_ | with_reducible exact Kp_refl _ | refine Kp_uI rfl ?_ | refine Kp_uJ rfl ?_ | with_reducible refine Kf_of ((f_X4_addTemplate_k _ _)) ?_
set_option maxHeartbeats 4000000 in
set_option maxRecDepth 100000 in
theorem f_X9_isDigit_k (x0 : Int32) (S : im_S) : Kf kP kT (f_X9_isDigit x0 S) S := by
  unfold f_X9_isDigit
  repeat' first | with_reducible exact Kf_none _ | with_reducible refine Kf_gd ?_ | with_reducible refine Kf_ite ?_ ?_ | with_reducible refine Kf_bind ?_ (fun q => ?_) | with_reducible refine Kf_some ?_ | with_reducible exact Kp_refl _ | refine Kp_uI rfl ?_ | refine Kp_uJ rfl ?_
set_option maxHeartbeats 4000000 in
set_option maxRecDepth 100000 in
theorem f_X9_isLetter_k (x0 : Int32) (S : im_S) : Kf kP kT (f_X9_isLetter x0 S) S := by
  unfold f_X9_isLetter
  repeat' first | with_reducible exact Kf_none _ | with_reducible refine Kf_gd ?_ | with_reducible refine Kf_ite ?_ ?_ | with_reducible refine Kf_bind ?_ (fun q => ?_) | with_reducible refine Kf_some ?_ | with_reducible exact Kp_refl _ | refine Kp_uI rfl ?_ | refine Kp_uJ rfl ?_
set_option maxHeartbeats 4000000 in
set_option maxRecDepth 100000 in
theorem f_X9_add_k (x1 : Int32) (x2 : Int32) (x3 : Int64) (S : im_S) : Kf kP kT (f_X9_add x1 x2 x3 S) S := by
  unfold f_X9_add
  repeat' first | with_reducible exact Kf_none _ | with_reducible refine Kf_gd ?_ | with_reducible refine Kf_ite ?_ ?_ | with_reducible refine Kf_bind ?_ (fun q => ?_) | with_reducible refine Kf_some ?_ | with_reducible exact Kp_refl _ | refine Kp_uI rfl ?_ | refine Kp_uJ rfl ?_
set_option maxHeartbeats 4000000 in
set_option maxRecDepth 100000 in
theorem f_X9_readNumeral_L6_k (fu : Nat) : ∀ (nf : Nat) (y0 : Int32) (y1 : Int32) (y2 : Int64) (y3 : Int32) (S : im_S), Kf kP kT (f_X9_readNumeral_L6 fu nf y0 y1 y2 y3 S) S := by
  intro nf
  induction nf with
  | zero => intro y0 y1 y2 y3 S; exact Kf_none _
  | succ nf ih =>
    intro y0 y1 y2 y3 S
    unfold f_X9_readNumeral_L6
    repeat' first | with_reducible exact Kf_none _ | with_reducible refine Kf_gd ?_ | with_reducible refine Kf_ite ?_ ?_ | with_reducible refine Kf_bind ?_ (fun q => ?_) | with_reducible refine Kf_some ?_ | with_reducible exact Kp_refl _ | refine Kp_uI rfl ?_ | refine Kp_uJ rfl ?_ | with_reducible refine Kf_of ((f_X9_isDigit_k _ _)) ?_ | with_reducible refine Kf_of ((f_X9_add_k _ _ _ _)) ?_ | with_reducible refine Kf_of (ih _ _ _ _ _) ?_ | with_reducible exact ih
set_option maxHeartbeats 4000000 in
set_option maxRecDepth 100000 in
theorem f_X9_readNumeral_k (fu : Nat) (x2 : Int32) (x3 : Int32) (S : im_S) : Kf kP kT (f_X9_readNumeral fu x2 x3 S) S := by
  unfold f_X9_readNumeral
  repeat' first | with_reducible exact Kf_none _ | with_reducible refine Kf_gd ?_ | with_reducible refine Kf_ite ?_ ?_ | with_reducible refine Kf_bind ?_ (fun q => ?_) | with_reducible refine Kf_some ?_ | with_reducible exact Kp_refl _ | refine Kp_uI rfl ?_ | refine Kp_uJ rfl ?_ | with_reducible refine Kf_of ((f_X9_readNumeral_L6_k _ _ _ _ _ _ _)) ?_
set_option maxHeartbeats 4000000 in
set_option maxRecDepth 100000 in
theorem f_X7_kindHere_k (S : im_S) : Kf kP kT (f_X7_kindHere S) S := by
  unfold f_X7_kindHere
  repeat' first | with_reducible exact Kf_none _ | with_reducible refine Kf_gd ?_ | with_reducible refine Kf_ite ?_ ?_ | with_reducible refine Kf_bind ?_ (fun q => ?_) | with_reducible refine Kf_some ?_ | with_reducible exact Kp_refl _ | refine Kp_uI rfl ?_ | refine Kp_uJ rfl ?_
set_option maxHeartbeats 4000000 in
set_option maxRecDepth 100000 in
theorem f_X7_placeHere_k (S : im_S) : Kf kP kT (f_X7_placeHere S) S := by
  unfold f_X7_placeHere
  repeat' first | with_reducible exact Kf_none _ | with_reducible refine Kf_gd ?_ | with_reducible refine Kf_ite ?_ ?_ | with_reducible refine Kf_bind ?_ (fun q => ?_) | with_reducible refine Kf_some ?_ | with_reducible exact Kp_refl _ | refine Kp_uI rfl ?_ | refine Kp_uJ rfl ?_
set_option maxHeartbeats 4000000 in
set_option maxRecDepth 100000 in
theorem f_X7_refuse_k (S : im_S) : Kf kP kT (f_X7_refuse S) S := by
  unfold f_X7_refuse
  repeat' first | with_reducible exact Kf_none _ | with_reducible refine Kf_gd ?_ | with_reducible refine Kf_ite ?_ ?_ | with_reducible refine Kf_bind ?_ (fun q => ?_) | with_reducible refine Kf_some ?_ | with_reducible exact Kp_refl _ | refine Kp_uI rfl ?_ | refine Kp_uJ rfl ?_
set_option maxHeartbeats 4000000 in
set_option maxRecDepth 100000 in
theorem f_X7_take_k (x1 : Int32) (S : im_S) : Kf kP kT (f_X7_take x1 S) S := by
  unfold f_X7_take
  repeat' first | with_reducible exact Kf_none _ | with_reducible refine Kf_gd ?_ | with_reducible refine Kf_ite ?_ ?_ | with_reducible refine Kf_bind ?_ (fun q => ?_) | with_reducible refine Kf_some ?_ | with_reducible exact Kp_refl _ | refine Kp_uI rfl ?_ | refine Kp_uJ rfl ?_ | with_reducible refine Kf_of ((f_X7_kindHere_k _)) ?_ | with_reducible refine Kf_of ((f_X7_refuse_k _)) ?_
set_option maxHeartbeats 4000000 in
set_option maxRecDepth 100000 in
theorem f_X7_open_k (x1 : Int32) (x2 : Int32) (x3 : Int32) (S : im_S) : Kf kP kT (f_X7_open x1 x2 x3 S) S := by
  unfold f_X7_open
  repeat' first | with_reducible exact Kf_none _ | with_reducible refine Kf_gd ?_ | with_reducible refine Kf_ite ?_ ?_ | with_reducible refine Kf_bind ?_ (fun q => ?_) | with_reducible refine Kf_some ?_ | with_reducible exact Kp_refl _ | refine Kp_uI rfl ?_ | refine Kp_uJ rfl ?_ | with_reducible refine Kf_of ((f_X6_push_k _ _ _ _)) ?_
set_option maxHeartbeats 4000000 in
set_option maxRecDepth 100000 in
theorem f_X7_endOperand_k (x1 : Int32) (S : im_S) : Kf kP kT (f_X7_endOperand x1 S) S := by
  unfold f_X7_endOperand
  repeat' first | with_reducible exact Kf_none _ | with_reducible refine Kf_gd ?_ | with_reducible refine Kf_ite ?_ ?_ | with_reducible refine Kf_bind ?_ (fun q => ?_) | with_reducible refine Kf_some ?_ | with_reducible exact Kp_refl _ | refine Kp_uI rfl ?_ | refine Kp_uJ rfl ?_
set_option maxHeartbeats 4000000 in
set_option maxRecDepth 100000 in
theorem f_X7_openBracket_k (S : im_S) : Kf kP kT (f_X7_openBracket S) S := by
  unfold f_X7_openBracket
  repeat' first | with_reducible exact Kf_none _ | with_reducible refine Kf_gd ?_ | with_reducible refine Kf_ite ?_ ?_ | with_reducible refine Kf_bind ?_ (fun q => ?_) | with_reducible refine Kf_some ?_ | with_reducible exact Kp_refl _ | refine Kp_uI rfl ?_ | refine Kp_uJ rfl ?_ | with_reducible refine Kf_of ((f_X6_topRegion_k _)) ?_ | with_reducible refine Kf_of ((f_X7_placeHere_k _)) ?_ | with_reducible refine Kf_of ((f_X7_open_k _ _ _ _)) ?_
set_option maxHeartbeats 4000000 in
set_option maxRecDepth 100000 in
theorem f_X7_know_k (x1 : Int32) (S : im_S) : Kf kP kT (f_X7_know x1 S) S := by
  unfold f_X7_know
  repeat' first | with_reducible exact Kf_none _ | with_reducible refine Kf_gd ?_ | with_reducible refine Kf_ite ?_ ?_ | with_reducible refine Kf_bind ?_ (fun q => ?_) | with_reducible refine Kf_some ?_ | with_reducible exact Kp_refl _ | refine Kp_uI rfl ?_ | refine Kp_uJ rfl ?_
set_option maxHeartbeats 4000000 in
set_option maxRecDepth 100000 in
theorem f_X7_forget_k (x1 : Int32) (S : im_S) : Kf kP kT (f_X7_forget x1 S) S := by
  unfold f_X7_forget
  repeat' first | with_reducible exact Kf_none _ | with_reducible refine Kf_gd ?_ | with_reducible refine Kf_ite ?_ ?_ | with_reducible refine Kf_bind ?_ (fun q => ?_) | with_reducible refine Kf_some ?_ | with_reducible exact Kp_refl _ | refine Kp_uI rfl ?_ | refine Kp_uJ rfl ?_
set_option maxHeartbeats 4000000 in
set_option maxRecDepth 100000 in
theorem f_X7_findKnown_L7_k (fu : Nat) : ∀ (nf : Nat) (y0 : Int64) (y1 : Int32) (S : im_S), Kf kP kT (f_X7_findKnown_L7 fu nf y0 y1 S) S := by
  intro nf
  induction nf with
  | zero => intro y0 y1 S; exact Kf_none _
  | succ nf ih =>
    intro y0 y1 S
    unfold f_X7_findKnown_L7
    repeat' first | with_reducible exact Kf_none _ | with_reducible refine Kf_gd ?_ | with_reducible refine Kf_ite ?_ ?_ | with_reducible refine Kf_bind ?_ (fun q => ?_) | with_reducible refine Kf_some ?_ | with_reducible exact Kp_refl _ | refine Kp_uI rfl ?_ | refine Kp_uJ rfl ?_ | with_reducible refine Kf_of (ih _ _ _) ?_ | with_reducible exact ih
set_option maxHeartbeats 4000000 in
set_option maxRecDepth 100000 in
theorem f_X7_findKnown_k (fu : Nat) (x1 : Int64) (S : im_S) : Kf kP kT (f_X7_findKnown fu x1 S) S := by
  unfold f_X7_findKnown
  repeat' first | with_reducible exact Kf_none _ | with_reducible refine Kf_gd ?_ | with_reducible refine Kf_ite ?_ ?_ | with_reducible refine Kf_bind ?_ (fun q => ?_) | with_reducible refine Kf_some ?_ | with_reducible exact Kp_refl _ | refine Kp_uI rfl ?_ | refine Kp_uJ rfl ?_ | with_reducible refine Kf_of ((f_X7_findKnown_L7_k _ _ _ _ _)) ?_
set_option maxHeartbeats 4000000 in
set_option maxRecDepth 100000 in
theorem f_X7_typeOf_L5_k (fu : Nat) : ∀ (nf : Nat) (y0 : Int64) (y1 : Int64) (y2 : Int32) (S : im_S), Kf kP kT (f_X7_typeOf_L5 fu nf y0 y1 y2 S) S := by
  intro nf
  induction nf with
  | zero => intro y0 y1 y2 S; exact Kf_none _
  | succ nf ih =>
    intro y0 y1 y2 S
    unfold f_X7_typeOf_L5
    repeat' first | with_reducible exact Kf_none _ | with_reducible refine Kf_gd ?_ | with_reducible refine Kf_ite ?_ ?_ | with_reducible refine Kf_bind ?_ (fun q => ?_) | with_reducible refine Kf_some ?_ | with_reducible exact Kp_refl _ | refine Kp_uI rfl ?_ | refine Kp_uJ rfl ?_ | with_reducible refine Kf_of (ih _ _ _ _) ?_ | with_reducible exact ih
set_option maxHeartbeats 4000000 in
set_option maxRecDepth 100000 in
theorem f_X7_typeOf_k (fu : Nat) (x0 : Int64) (S : im_S) : Kf kP kT (f_X7_typeOf fu x0 S) S := by
  unfold f_X7_typeOf
  repeat' first | with_reducible exact Kf_none _ | with_reducible refine Kf_gd ?_ | with_reducible refine Kf_ite ?_ ?_ | with_reducible refine Kf_bind ?_ (fun q => ?_) | with_reducible refine Kf_some ?_ | with_reducible exact Kp_refl _ | refine Kp_uI rfl ?_ | refine Kp_uJ rfl ?_ | with_reducible refine Kf_of ((f_X7_typeOf_L5_k _ _ _ _ _ _)) ?_
set_option maxHeartbeats 4000000 in
set_option maxRecDepth 100000 in
theorem f_X7_checkType_k (x1 : Int32) (x2 : Int32) (S : im_S) : Kf kP kT (f_X7_checkType x1 x2 S) S := by
  unfold f_X7_checkType
  repeat' first | with_reducible exact Kf_none _ | with_reducible refine Kf_gd ?_ | with_reducible refine Kf_ite ?_ ?_ | with_reducible refine Kf_bind ?_ (fun q => ?_) | with_reducible refine Kf_some ?_ | with_reducible exact Kp_refl _ | refine Kp_uI rfl ?_ | refine Kp_uJ rfl ?_ | with_reducible refine Kf_of ((f_X1_note_k _ _ _)) ?_
set_option maxHeartbeats 4000000 in
set_option maxRecDepth 100000 in
theorem f_X7_endOperator_k (x1 : Int32) (S : im_S) : Kf kP kT (f_X7_endOperator x1 S) S := by
  unfold f_X7_endOperator
  repeat' first | with_reducible exact Kf_none _ | with_reducible refine Kf_gd ?_ | with_reducible refine Kf_ite ?_ ?_ | with_reducible refine Kf_bind ?_ (fun q => ?_) | with_reducible refine Kf_some ?_ | with_reducible exact Kp_refl _ | refine Kp_uI rfl ?_ | refine Kp_uJ rfl ?_ | with_reducible refine Kf_of ((f_X6_pop_k _)) ?_ | with_reducible refine Kf_of ((f_X3_connect_k _ _ _ _ _)) ?_ | with_reducible refine Kf_of ((f_X7_checkType_k _ _ _)) ?_
set_option maxHeartbeats 4000000 in
set_option maxRecDepth 100000 in
theorem f_X7_endByItself_k (fu : Nat) (S : im_S) : Kf kP kT (f_X7_endByItself fu S) S := by
  unfold f_X7_endByItself
  repeat' first | with_reducible exact Kf_none _ | with_reducible refine Kf_gd ?_ | with_reducible refine Kf_ite ?_ ?_ | with_reducible refine Kf_bind ?_ (fun q => ?_) | with_reducible refine Kf_some ?_ | with_reducible exact Kp_refl _ | refine Kp_uI rfl ?_ | refine Kp_uJ rfl ?_ | with_reducible refine Kf_of ((f_X6_pop_k _)) ?_ | with_reducible refine Kf_of ((f_X6_topKind_k _)) ?_ | with_reducible refine Kf_of ((f_X3_connect_k _ _ _ _ _)) ?_ | with_reducible refine Kf_of ((f_X3_chainLength_k _ _ _)) ?_ | with_reducible refine Kf_of ((f_X7_forget_k _ _)) ?_ | with_reducible refine Kf_of ((f_X7_checkType_k _ _ _)) ?_
set_option maxHeartbeats 4000000 in
set_option maxRecDepth 100000 in
theorem f_X7_endBody_k (fu : Nat) (S : im_S) : Kf kP kT (f_X7_endBody fu S) S := by
  unfold f_X7_endBody
  repeat' first | with_reducible exact Kf_none _ | with_reducible refine Kf_gd ?_ | with_reducible refine Kf_ite ?_ ?_ | with_reducible refine Kf_bind ?_ (fun q => ?_) | with_reducible refine Kf_some ?_ | with_reducible exact Kp_refl _ | refine Kp_uI rfl ?_ | refine Kp_uJ rfl ?_ | with_reducible refine Kf_of ((f_X6_pop_k _)) ?_ | with_reducible refine Kf_of ((f_X3_connect_k _ _ _ _ _)) ?_ | with_reducible refine Kf_of ((f_X7_typeOf_k _ _ _)) ?_ | with_reducible refine Kf_of ((f_X7_checkType_k _ _ _)) ?_
set_option maxHeartbeats 4000000 in
set_option maxRecDepth 100000 in
theorem f_X7_endBracket_k (S : im_S) : Kf kP kT (f_X7_endBracket S) S := by
  unfold f_X7_endBracket
  repeat' first | with_reducible exact Kf_none _ | with_reducible refine Kf_gd ?_ | with_reducible refine Kf_ite ?_ ?_ | with_reducible refine Kf_bind ?_ (fun q => ?_) | with_reducible refine Kf_some ?_ | with_reducible exact Kp_refl _ | refine Kp_uI rfl ?_ | refine Kp_uJ rfl ?_ | with_reducible refine Kf_of ((f_X6_pop_k _)) ?_ | with_reducible refine Kf_of ((f_X7_endOperand_k _ _)) ?_
set_option maxHeartbeats 4000000 in
set_option maxRecDepth 100000 in
theorem f_X7_endElement_k (S : im_S) : Kf kP kT (f_X7_endElement S) S := by
  unfold f_X7_endElement
  repeat' first | with_reducible exact Kf_none _ | with_reducible refine Kf_gd ?_ | with_reducible refine Kf_ite ?_ ?_ | with_reducible refine Kf_bind ?_ (fun q => ?_) | with_reducible refine Kf_some ?_ | with_reducible exact Kp_refl _ | refine Kp_uI rfl ?_ | refine Kp_uJ rfl ?_ | with_reducible refine Kf_of ((f_X6_pop_k _)) ?_ | with_reducible refine Kf_of ((f_X3_connect_k _ _ _ _ _)) ?_ | with_reducible refine Kf_of ((f_X7_endOperand_k _ _)) ?_ | with_reducible refine Kf_of ((f_X7_checkType_k _ _ _)) ?_
set_option maxHeartbeats 4000000 in
set_option maxRecDepth 100000 in
theorem f_X7_endArgument_k (fu : Nat) (x1 : Int32) (S : im_S) : Kf kP kT (f_X7_endArgument fu x1 S) S := by
  unfold f_X7_endArgument
  repeat' first | with_reducible exact Kf_none _ | with_reducible refine Kf_gd ?_ | with_reducible refine Kf_ite ?_ ?_ | with_reducible refine Kf_bind ?_ (fun q => ?_) | with_reducible refine Kf_some ?_ | with_reducible exact Kp_refl _ | refine Kp_uI rfl ?_ | refine Kp_uJ rfl ?_ | with_reducible refine Kf_of ((f_X6_pop_k _)) ?_ | with_reducible refine Kf_of ((f_X6_topNode_k _)) ?_ | with_reducible refine Kf_of ((f_X3_connect_k _ _ _ _ _)) ?_ | with_reducible refine Kf_of ((f_X3_chainLength_k _ _ _)) ?_ | with_reducible refine Kf_of ((f_X3_append_k _ _ _ _)) ?_ | with_reducible refine Kf_of ((f_X7_refuse_k _)) ?_ | with_reducible refine Kf_of ((f_X7_take_k _ _)) ?_ | with_reducible refine Kf_of ((f_X7_endOperand_k _ _)) ?_
set_option maxHeartbeats 4000000 in
set_option maxRecDepth 100000 in
theorem f_X7_endLetValue_k (S : im_S) : Kf kP kT (f_X7_endLetValue S) S := by
  unfold f_X7_endLetValue
  repeat' first | with_reducible exact Kf_none _ | with_reducible refine Kf_gd ?_ | with_reducible refine Kf_ite ?_ ?_ | with_reducible refine Kf_bind ?_ (fun q => ?_) | with_reducible refine Kf_some ?_ | with_reducible exact Kp_refl _ | refine Kp_uI rfl ?_ | refine Kp_uJ rfl ?_ | with_reducible refine Kf_of ((f_X6_pop_k _)) ?_ | with_reducible refine Kf_of ((f_X6_topRegion_k _)) ?_ | with_reducible refine Kf_of ((f_X3_connect_k _ _ _ _ _)) ?_ | with_reducible refine Kf_of ((f_X7_open_k _ _ _ _)) ?_ | with_reducible refine Kf_of ((f_X7_know_k _ _)) ?_ | with_reducible refine Kf_of ((f_X7_checkType_k _ _ _)) ?_
set_option maxHeartbeats 4000000 in
set_option maxRecDepth 100000 in
theorem f_X7_endCondition_k (S : im_S) : Kf kP kT (f_X7_endCondition S) S := by
  unfold f_X7_endCondition
  repeat' first | with_reducible exact Kf_none _ | with_reducible refine Kf_gd ?_ | with_reducible refine Kf_ite ?_ ?_ | with_reducible refine Kf_bind ?_ (fun q => ?_) | with_reducible refine Kf_some ?_ | with_reducible exact Kp_refl _ | refine Kp_uI rfl ?_ | refine Kp_uJ rfl ?_ | with_reducible refine Kf_of ((f_X6_pop_k _)) ?_ | with_reducible refine Kf_of ((f_X3_connect_k _ _ _ _ _)) ?_ | with_reducible refine Kf_of ((f_X7_open_k _ _ _ _)) ?_ | with_reducible refine Kf_of ((f_X7_checkType_k _ _ _)) ?_
set_option maxHeartbeats 4000000 in
set_option maxRecDepth 100000 in
theorem f_X7_endThenPart_k (S : im_S) : Kf kP kT (f_X7_endThenPart S) S := by
  unfold f_X7_endThenPart
  repeat' first | with_reducible exact Kf_none _ | with_reducible refine Kf_gd ?_ | with_reducible refine Kf_ite ?_ ?_ | with_reducible refine Kf_bind ?_ (fun q => ?_) | with_reducible refine Kf_some ?_ | with_reducible exact Kp_refl _ | refine Kp_uI rfl ?_ | refine Kp_uJ rfl ?_ | with_reducible refine Kf_of ((f_X6_pop_k _)) ?_ | with_reducible refine Kf_of ((f_X3_connect_k _ _ _ _ _)) ?_ | with_reducible refine Kf_of ((f_X7_open_k _ _ _ _)) ?_
set_option maxHeartbeats 4000000 in
set_option maxRecDepth 100000 in
theorem f_X7_openWhilePart_L15_k (fu : Nat) : ∀ (nf : Nat) (y0 : Int32) (y1 : Int32) (S : im_S), Kf kP kT (f_X7_openWhilePart_L15 fu nf y0 y1 S) S := by
  intro nf
  induction nf with
  | zero => intro y0 y1 S; exact Kf_none _
  | succ nf ih =>
    intro y0 y1 S
    unfold f_X7_openWhilePart_L15
    repeat' first | with_reducible exact Kf_none _ | with_reducible refine Kf_gd ?_ | with_reducible refine Kf_ite ?_ ?_ | with_reducible refine Kf_bind ?_ (fun q => ?_) | with_reducible refine Kf_some ?_ | with_reducible exact Kp_refl _ | refine Kp_uI rfl ?_ | refine Kp_uJ rfl ?_ | with_reducible refine Kf_of ((f_X6_push_k _ _ _ _)) ?_ | with_reducible refine Kf_of ((f_X7_know_k _ _)) ?_ | with_reducible refine Kf_of (ih _ _ _) ?_ | with_reducible exact ih
set_option maxHeartbeats 4000000 in
set_option maxRecDepth 100000 in
theorem f_X7_openWhilePart_k (fu : Nat) (S : im_S) : Kf kP kT (f_X7_openWhilePart fu S) S := by
  unfold f_X7_openWhilePart
  repeat' first | with_reducible exact Kf_none _ | with_reducible refine Kf_gd ?_ | with_reducible refine Kf_ite ?_ ?_ | with_reducible refine Kf_bind ?_ (fun q => ?_) | with_reducible refine Kf_some ?_ | with_reducible exact Kp_refl _ | refine Kp_uI rfl ?_ | refine Kp_uJ rfl ?_ | with_reducible refine Kf_of ((f_X7_openWhilePart_L15_k _ _ _ _ _)) ?_
set_option maxHeartbeats 4000000 in
set_option maxRecDepth 100000 in
theorem f_X7_endWhilePart_k (S : im_S) : Kf kP kT (f_X7_endWhilePart S) S := by
  unfold f_X7_endWhilePart
  repeat' first | with_reducible exact Kf_none _ | with_reducible refine Kf_gd ?_ | with_reducible refine Kf_ite ?_ ?_ | with_reducible refine Kf_bind ?_ (fun q => ?_) | with_reducible refine Kf_some ?_ | with_reducible exact Kp_refl _ | refine Kp_uI rfl ?_ | refine Kp_uJ rfl ?_ | with_reducible refine Kf_of ((f_X6_pop_k _)) ?_ | with_reducible refine Kf_of ((f_X3_connect_k _ _ _ _ _)) ?_ | with_reducible refine Kf_of ((f_X7_checkType_k _ _ _)) ?_
set_option maxHeartbeats 4000000 in
set_option maxRecDepth 100000 in
theorem f_X7_openGivePart_L39_k (fu : Nat) : ∀ (nf : Nat) (y0 : Int32) (y1 : Int32) (y2 : Int32) (S : im_S), Kf kP kT (f_X7_openGivePart_L39 fu nf y0 y1 y2 S) S := by
  intro nf
  induction nf with
  | zero => intro y0 y1 y2 S; exact Kf_none _
  | succ nf ih =>
    intro y0 y1 y2 S
    unfold f_X7_openGivePart_L39
    repeat' first | with_reducible exact Kf_none _ | with_reducible refine Kf_gd ?_ | with_reducible refine Kf_ite ?_ ?_ | with_reducible refine Kf_bind ?_ (fun q => ?_) | with_reducible refine Kf_some ?_ | with_reducible exact Kp_refl _ | refine Kp_uI rfl ?_ | refine Kp_uJ rfl ?_ | with_reducible refine Kf_of ((f_X6_push_k _ _ _ _)) ?_ | with_reducible refine Kf_of ((f_X3_moveTo_k _ _ _)) ?_ | with_reducible refine Kf_of (ih _ _ _ _) ?_ | with_reducible exact ih
set_option maxHeartbeats 4000000 in
set_option maxRecDepth 100000 in
theorem f_X7_openGivePart_k (fu : Nat) (S : im_S) : Kf kP kT (f_X7_openGivePart fu S) S := by
  unfold f_X7_openGivePart
  repeat' first | with_reducible exact Kf_none _ | with_reducible refine Kf_gd ?_ | with_reducible refine Kf_ite ?_ ?_ | with_reducible refine Kf_bind ?_ (fun q => ?_) | with_reducible refine Kf_some ?_ | with_reducible exact Kp_refl _ | refine Kp_uI rfl ?_ | refine Kp_uJ rfl ?_ | with_reducible refine Kf_of ((f_X7_openGivePart_L39_k _ _ _ _ _ _)) ?_
set_option maxHeartbeats 4000000 in
set_option maxRecDepth 100000 in
theorem f_X7_endTabSize_k (S : im_S) : Kf kP kT (f_X7_endTabSize S) S := by
  unfold f_X7_endTabSize
  repeat' first | with_reducible exact Kf_none _ | with_reducible refine Kf_gd ?_ | with_reducible refine Kf_ite ?_ ?_ | with_reducible refine Kf_bind ?_ (fun q => ?_) | with_reducible refine Kf_some ?_ | with_reducible exact Kp_refl _ | refine Kp_uI rfl ?_ | refine Kp_uJ rfl ?_ | with_reducible refine Kf_of ((f_X6_pop_k _)) ?_ | with_reducible refine Kf_of ((f_X3_connect_k _ _ _ _ _)) ?_ | with_reducible refine Kf_of ((f_X7_open_k _ _ _ _)) ?_ | with_reducible refine Kf_of ((f_X7_know_k _ _)) ?_ | with_reducible refine Kf_of ((f_X7_checkType_k _ _ _)) ?_
set_option maxHeartbeats 4000000 in
set_option maxRecDepth 100000 in
theorem f_X7_linkCall_L109_k (fu : Nat) : ∀ (nf : Nat) (y0 : Int32) (y1 : Int32) (y2 : Int32) (y3 : Int32) (y4 : Int32) (S : im_S), Kf kP kT (f_X7_linkCall_L109 fu nf y0 y1 y2 y3 y4 S) S := by
  intro nf
  induction nf with
  | zero => intro y0 y1 y2 y3 y4 S; exact Kf_none _
  | succ nf ih =>
    intro y0 y1 y2 y3 y4 S
    unfold f_X7_linkCall_L109
    repeat' first | with_reducible exact Kf_none _ | with_reducible refine Kf_gd ?_ | with_reducible refine Kf_ite ?_ ?_ | with_reducible refine Kf_bind ?_ (fun q => ?_) | with_reducible refine Kf_some ?_ | with_reducible exact Kp_refl _ | refine Kp_uI rfl ?_ | refine Kp_uJ rfl ?_ | with_reducible refine Kf_of ((f_X7_checkType_k _ _ _)) ?_ | with_reducible refine Kf_of (ih _ _ _ _ _ _) ?_ | with_reducible exact ih
set_option maxHeartbeats 4000000 in
set_option maxRecDepth 100000 in
theorem f_X7_linkCall_k (fu : Nat) (x1 : Int32) (S : im_S) : Kf kP kT (f_X7_linkCall fu x1 S) S := by
  unfold f_X7_linkCall
  repeat' first | with_reducible exact Kf_none _ | with_reducible refine Kf_gd ?_ | with_reducible refine Kf_ite ?_ ?_ | with_reducible refine Kf_bind ?_ (fun q => ?_) | with_reducible refine Kf_some ?_ | with_reducible exact Kp_refl _ | refine Kp_uI rfl ?_ | refine Kp_uJ rfl ?_ | with_reducible refine Kf_of ((f_X1_note_k _ _ _)) ?_ | with_reducible refine Kf_of ((f_X4_findFunction_k _ _ _)) ?_ | with_reducible refine Kf_of ((f_X3_chainLength_k _ _ _)) ?_ | with_reducible refine Kf_of ((f_X7_linkCall_L109_k _ _ _ _ _ _ _ _)) ?_
set_option maxHeartbeats 4000000 in
set_option maxRecDepth 100000 in
theorem f_X7_addHere_k (x1 : Int32) (x2 : Int32) (x3 : Int64) (S : im_S) : Kf kP kT (f_X7_addHere x1 x2 x3 S) S := by
  unfold f_X7_addHere
  repeat' first | with_reducible exact Kf_none _ | with_reducible refine Kf_gd ?_ | with_reducible refine Kf_ite ?_ ?_ | with_reducible refine Kf_bind ?_ (fun q => ?_) | with_reducible refine Kf_some ?_ | with_reducible exact Kp_refl _ | refine Kp_uI rfl ?_ | refine Kp_uJ rfl ?_ | with_reducible refine Kf_of ((f_X6_topRegion_k _)) ?_ | with_reducible refine Kf_of ((f_X3_add_k _ _ _ _ _ _)) ?_ | with_reducible refine Kf_of ((f_X7_placeHere_k _)) ?_
set_option maxHeartbeats 4000000 in
set_option maxRecDepth 100000 in
theorem f_X7_constant_k (x1 : Int32) (x2 : Int64) (S : im_S) : Kf kP kT (f_X7_constant x1 x2 S) S := by
  unfold f_X7_constant
  repeat' first | with_reducible exact Kf_none _ | with_reducible refine Kf_gd ?_ | with_reducible refine Kf_ite ?_ ?_ | with_reducible refine Kf_bind ?_ (fun q => ?_) | with_reducible refine Kf_some ?_ | with_reducible exact Kp_refl _ | refine Kp_uI rfl ?_ | refine Kp_uJ rfl ?_ | with_reducible refine Kf_of ((f_X7_endOperand_k _ _)) ?_ | with_reducible refine Kf_of ((f_X7_addHere_k _ _ _ _)) ?_
set_option maxHeartbeats 4000000 in
set_option maxRecDepth 100000 in
theorem f_X7_use_k (fu : Nat) (S : im_S) : Kf kP kT (f_X7_use fu S) S := by
  unfold f_X7_use
  repeat' first | with_reducible exact Kf_none _ | with_reducible refine Kf_gd ?_ | with_reducible refine Kf_ite ?_ ?_ | with_reducible refine Kf_bind ?_ (fun q => ?_) | with_reducible refine Kf_some ?_ | with_reducible exact Kp_refl _ | refine Kp_uI rfl ?_ | refine Kp_uJ rfl ?_ | with_reducible refine Kf_of ((f_X1_note_k _ _ _)) ?_ | with_reducible refine Kf_of ((f_X7_placeHere_k _)) ?_ | with_reducible refine Kf_of ((f_X7_endOperand_k _ _)) ?_ | with_reducible refine Kf_of ((f_X7_findKnown_k _ _ _)) ?_ | with_reducible refine Kf_of ((f_X7_typeOf_k _ _ _)) ?_ | with_reducible refine Kf_of ((f_X7_addHere_k _ _ _ _)) ?_
set_option maxHeartbeats 4000000 in
set_option maxRecDepth 100000 in
theorem f_X7_openCall_k (fu : Nat) (S : im_S) : Kf kP kT (f_X7_openCall fu S) S := by
  unfold f_X7_openCall
  repeat' first | with_reducible exact Kf_none _ | with_reducible refine Kf_gd ?_ | with_reducible refine Kf_ite ?_ ?_ | with_reducible refine Kf_bind ?_ (fun q => ?_) | with_reducible refine Kf_some ?_ | with_reducible exact Kp_refl _ | refine Kp_uI rfl ?_ | refine Kp_uJ rfl ?_ | with_reducible refine Kf_of ((f_X6_topRegion_k _)) ?_ | with_reducible refine Kf_of ((f_X7_kindHere_k _)) ?_ | with_reducible refine Kf_of ((f_X7_open_k _ _ _ _)) ?_ | with_reducible refine Kf_of ((f_X7_endOperand_k _ _)) ?_ | with_reducible refine Kf_of ((f_X7_typeOf_k _ _ _)) ?_ | with_reducible refine Kf_of ((f_X7_addHere_k _ _ _ _)) ?_
set_option maxHeartbeats 4000000 in
set_option maxRecDepth 100000 in
theorem f_X7_openAhead_k (x1 : Int32) (S : im_S) : Kf kP kT (f_X7_openAhead x1 S) S := by
  unfold f_X7_openAhead
  repeat' first | with_reducible exact Kf_none _ | with_reducible refine Kf_gd ?_ | with_reducible refine Kf_ite ?_ ?_ | with_reducible refine Kf_bind ?_ (fun q => ?_) | with_reducible refine Kf_some ?_ | with_reducible exact Kp_refl _ | refine Kp_uI rfl ?_ | refine Kp_uJ rfl ?_ | with_reducible refine Kf_of ((f_X6_push_k _ _ _ _)) ?_ | with_reducible refine Kf_of ((f_X6_topRegion_k _)) ?_ | with_reducible refine Kf_of ((f_X7_kindHere_k _)) ?_ | with_reducible refine Kf_of ((f_X7_addHere_k _ _ _ _)) ?_
set_option maxHeartbeats 4000000 in
set_option maxRecDepth 100000 in
theorem f_X7_openChoice_k (S : im_S) : Kf kP kT (f_X7_openChoice S) S := by
  unfold f_X7_openChoice
  repeat' first | with_reducible exact Kf_none _ | with_reducible refine Kf_gd ?_ | with_reducible refine Kf_ite ?_ ?_ | with_reducible refine Kf_bind ?_ (fun q => ?_) | with_reducible refine Kf_some ?_ | with_reducible exact Kp_refl _ | refine Kp_uI rfl ?_ | refine Kp_uJ rfl ?_ | with_reducible refine Kf_of ((f_X4_addRegion_k _ _)) ?_ | with_reducible refine Kf_of ((f_X6_topRegion_k _)) ?_ | with_reducible refine Kf_of ((f_X7_open_k _ _ _ _)) ?_ | with_reducible refine Kf_of ((f_X7_addHere_k _ _ _ _)) ?_
set_option maxHeartbeats 4000000 in
set_option maxRecDepth 100000 in
theorem f_X7_openLoop_k (S : im_S) : Kf kP kT (f_X7_openLoop S) S := by
  unfold f_X7_openLoop
  repeat' first | with_reducible exact Kf_none _ | with_reducible refine Kf_gd ?_ | with_reducible refine Kf_ite ?_ ?_ | with_reducible refine Kf_bind ?_ (fun q => ?_) | with_reducible refine Kf_some ?_ | with_reducible exact Kp_refl _ | refine Kp_uI rfl ?_ | refine Kp_uJ rfl ?_ | with_reducible refine Kf_of ((f_X4_addRegion_k _ _)) ?_ | with_reducible refine Kf_of ((f_X3_addInnerTemplate_k _ _)) ?_ | with_reducible refine Kf_of ((f_X7_addHere_k _ _ _ _)) ?_
set_option maxHeartbeats 4000000 in
set_option maxRecDepth 100000 in
theorem f_X7_openNextValue_k (fu : Nat) (S : im_S) : Kf kP kT (f_X7_openNextValue fu S) S := by
  unfold f_X7_openNextValue
  repeat' first | with_reducible exact Kf_none _ | with_reducible refine Kf_gd ?_ | with_reducible refine Kf_ite ?_ ?_ | with_reducible refine Kf_bind ?_ (fun q => ?_) | with_reducible refine Kf_some ?_ | with_reducible exact Kp_refl _ | refine Kp_uI rfl ?_ | refine Kp_uJ rfl ?_ | with_reducible refine Kf_of ((f_X1_note_k _ _ _)) ?_ | with_reducible refine Kf_of ((f_X6_topRegion_k _)) ?_ | with_reducible refine Kf_of ((f_X3_findInChain_k _ _ _ _)) ?_ | with_reducible refine Kf_of ((f_X3_add_k _ _ _ _ _ _)) ?_ | with_reducible refine Kf_of ((f_X7_kindHere_k _)) ?_ | with_reducible refine Kf_of ((f_X7_placeHere_k _)) ?_ | with_reducible refine Kf_of ((f_X7_refuse_k _)) ?_ | with_reducible refine Kf_of ((f_X7_take_k _ _)) ?_ | with_reducible refine Kf_of ((f_X7_open_k _ _ _ _)) ?_ | with_reducible refine Kf_of ((f_X7_typeOf_k _ _ _)) ?_
set_option maxHeartbeats 4000000 in
set_option maxRecDepth 100000 in
theorem f_X7_bindHere_k (fu : Nat) (S : im_S) : Kf kP kT (f_X7_bindHere fu S) S := by
  unfold f_X7_bindHere
  repeat' first | with_reducible exact Kf_none _ | with_reducible refine Kf_gd ?_ | with_reducible refine Kf_ite ?_ ?_ | with_reducible refine Kf_bind ?_ (fun q => ?_) | with_reducible refine Kf_some ?_ | with_reducible exact Kp_refl _ | refine Kp_uI rfl ?_ | refine Kp_uJ rfl ?_ | with_reducible refine Kf_of ((f_X1_note_k _ _ _)) ?_ | with_reducible refine Kf_of ((f_X6_topRegion_k _)) ?_ | with_reducible refine Kf_of ((f_X3_add_k _ _ _ _ _ _)) ?_ | with_reducible refine Kf_of ((f_X7_placeHere_k _)) ?_ | with_reducible refine Kf_of ((f_X7_findKnown_k _ _ _)) ?_ | with_reducible refine Kf_of ((f_X7_typeOf_k _ _ _)) ?_
set_option maxHeartbeats 4000000 in
set_option maxRecDepth 100000 in
theorem f_X7_openElement_k (S : im_S) : Kf kP kT (f_X7_openElement S) S := by
  unfold f_X7_openElement
  repeat' first | with_reducible exact Kf_none _ | with_reducible refine Kf_gd ?_ | with_reducible refine Kf_ite ?_ ?_ | with_reducible refine Kf_bind ?_ (fun q => ?_) | with_reducible refine Kf_some ?_ | with_reducible exact Kp_refl _ | refine Kp_uI rfl ?_ | refine Kp_uJ rfl ?_ | with_reducible refine Kf_of ((f_X6_topRegion_k _)) ?_ | with_reducible refine Kf_of ((f_X3_connect_k _ _ _ _ _)) ?_ | with_reducible refine Kf_of ((f_X7_open_k _ _ _ _)) ?_ | with_reducible refine Kf_of ((f_X7_checkType_k _ _ _)) ?_ | with_reducible refine Kf_of ((f_X7_addHere_k _ _ _ _)) ?_
set_option maxHeartbeats 4000000 in
set_option maxRecDepth 100000 in
theorem f_X7_openBinary_k (x1 : Int32) (x2 : Int32) (S : im_S) : Kf kP kT (f_X7_openBinary x1 x2 S) S := by
  unfold f_X7_openBinary
  repeat' first | with_reducible exact Kf_none _ | with_reducible refine Kf_gd ?_ | with_reducible refine Kf_ite ?_ ?_ | with_reducible refine Kf_bind ?_ (fun q => ?_) | with_reducible refine Kf_some ?_ | with_reducible exact Kp_refl _ | refine Kp_uI rfl ?_ | refine Kp_uJ rfl ?_ | with_reducible refine Kf_of ((f_X6_push_k _ _ _ _)) ?_ | with_reducible refine Kf_of ((f_X6_topRegion_k _)) ?_ | with_reducible refine Kf_of ((f_X3_connect_k _ _ _ _ _)) ?_ | with_reducible refine Kf_of ((f_X7_checkType_k _ _ _)) ?_ | with_reducible refine Kf_of ((f_X7_addHere_k _ _ _ _)) ?_
set_option maxHeartbeats 4000000 in
set_option maxRecDepth 100000 in
theorem f_X7_endOperators_L8_k (fu : Nat) : ∀ (nf : Nat) (y0 : Int32) (y1 : Int32) (S : im_S), Kf kP kT (f_X7_endOperators_L8 fu nf y0 y1 S) S := by
  intro nf
  induction nf with
  | zero => intro y0 y1 S; exact Kf_none _
  | succ nf ih =>
    intro y0 y1 S
    unfold f_X7_endOperators_L8
    repeat' first | with_reducible exact Kf_none _ | with_reducible refine Kf_gd ?_ | with_reducible refine Kf_ite ?_ ?_ | with_reducible refine Kf_bind ?_ (fun q => ?_) | with_reducible refine Kf_some ?_ | with_reducible exact Kp_refl _ | refine Kp_uI rfl ?_ | refine Kp_uJ rfl ?_ | with_reducible refine Kf_of ((f_X6_topStrength_k _)) ?_ | with_reducible refine Kf_of ((f_X7_endOperator_k _ _)) ?_ | with_reducible refine Kf_of (ih _ _ _) ?_ | with_reducible exact ih
set_option maxHeartbeats 4000000 in
set_option maxRecDepth 100000 in
theorem f_X7_endOperators_k (fu : Nat) (x1 : Int32) (S : im_S) : Kf kP kT (f_X7_endOperators fu x1 S) S := by
  unfold f_X7_endOperators
  repeat' first | with_reducible exact Kf_none _ | with_reducible refine Kf_gd ?_ | with_reducible refine Kf_ite ?_ ?_ | with_reducible refine Kf_bind ?_ (fun q => ?_) | with_reducible refine Kf_some ?_ | with_reducible exact Kp_refl _ | refine Kp_uI rfl ?_ | refine Kp_uJ rfl ?_ | with_reducible refine Kf_of ((f_X7_endOperators_L8_k _ _ _ _ _)) ?_
set_option maxHeartbeats 4000000 in
set_option maxRecDepth 100000 in
theorem f_X7_endFirstValue_k (fu : Nat) (x1 : Int32) (S : im_S) : Kf kP kT (f_X7_endFirstValue fu x1 S) S := by
  unfold f_X7_endFirstValue
  repeat' first | with_reducible exact Kf_none _ | with_reducible refine Kf_gd ?_ | with_reducible refine Kf_ite ?_ ?_ | with_reducible refine Kf_bind ?_ (fun q => ?_) | with_reducible refine Kf_some ?_ | with_reducible exact Kp_refl _ | refine Kp_uI rfl ?_ | refine Kp_uJ rfl ?_ | with_reducible refine Kf_of ((f_X6_pop_k _)) ?_ | with_reducible refine Kf_of ((f_X3_connect_k _ _ _ _ _)) ?_ | with_reducible refine Kf_of ((f_X7_take_k _ _)) ?_ | with_reducible refine Kf_of ((f_X7_checkType_k _ _ _)) ?_ | with_reducible refine Kf_of ((f_X7_openWhilePart_k _ _)) ?_
set_option maxHeartbeats 4000000 in
set_option maxRecDepth 100000 in
theorem f_X7_endNextValue_k (fu : Nat) (x1 : Int32) (S : im_S) : Kf kP kT (f_X7_endNextValue fu x1 S) S := by
  unfold f_X7_endNextValue
  repeat' first | with_reducible exact Kf_none _ | with_reducible refine Kf_gd ?_ | with_reducible refine Kf_ite ?_ ?_ | with_reducible refine Kf_bind ?_ (fun q => ?_) | with_reducible refine Kf_some ?_ | with_reducible exact Kp_refl _ | refine Kp_uI rfl ?_ | refine Kp_uJ rfl ?_ | with_reducible refine Kf_of ((f_X6_pop_k _)) ?_ | with_reducible refine Kf_of ((f_X3_connect_k _ _ _ _ _)) ?_ | with_reducible refine Kf_of ((f_X7_take_k _ _)) ?_ | with_reducible refine Kf_of ((f_X7_checkType_k _ _ _)) ?_ | with_reducible refine Kf_of ((f_X7_openGivePart_k _ _)) ?_
set_option maxHeartbeats 4000000 in
set_option maxRecDepth 100000 in
theorem f_X7_linkCalls_L2_k (fu : Nat) : ∀ (nf : Nat) (y0 : Int32) (S : im_S), Kf kP kT (f_X7_linkCalls_L2 fu nf y0 S) S := by
  intro nf
  induction nf with
  | zero => intro y0 S; exact Kf_none _
  | succ nf ih =>
    intro y0 S
    unfold f_X7_linkCalls_L2
    repeat' first | with_reducible exact Kf_none _ | with_reducible refine Kf_gd ?_ | with_reducible refine Kf_ite ?_ ?_ | with_reducible refine Kf_bind ?_ (fun q => ?_) | with_reducible refine Kf_some ?_ | with_reducible exact Kp_refl _ | refine Kp_uI rfl ?_ | refine Kp_uJ rfl ?_ | with_reducible refine Kf_of ((f_X7_linkCall_k _ _ _)) ?_ | with_reducible refine Kf_of (ih _ _) ?_ | with_reducible exact ih
set_option maxHeartbeats 4000000 in
set_option maxRecDepth 100000 in
theorem f_X7_linkCalls_k (fu : Nat) (S : im_S) : Kf kP kT (f_X7_linkCalls fu S) S := by
  unfold f_X7_linkCalls
  repeat' first | with_reducible exact Kf_none _ | with_reducible refine Kf_gd ?_ | with_reducible refine Kf_ite ?_ ?_ | with_reducible refine Kf_bind ?_ (fun q => ?_) | with_reducible refine Kf_some ?_ | with_reducible exact Kp_refl _ | refine Kp_uI rfl ?_ | refine Kp_uJ rfl ?_ | with_reducible refine Kf_of ((f_X7_linkCalls_L2_k _ _ _ _)) ?_
set_option maxHeartbeats 4000000 in
set_option maxRecDepth 100000 in
theorem f_X7_parameters_L17_k (fu : Nat) : ∀ (nf : Nat) (y0 : Int32) (y1 : Int32) (y2 : Int32) (S : im_S), Kf kP kT (f_X7_parameters_L17 fu nf y0 y1 y2 S) S := by
  intro nf
  induction nf with
  | zero => intro y0 y1 y2 S; exact Kf_none _
  | succ nf ih =>
    intro y0 y1 y2 S
    unfold f_X7_parameters_L17
    repeat' first | with_reducible exact Kf_none _ | with_reducible refine Kf_gd ?_ | with_reducible refine Kf_ite ?_ ?_ | with_reducible refine Kf_bind ?_ (fun q => ?_) | with_reducible refine Kf_some ?_ | with_reducible exact Kp_refl _ | refine Kp_uI rfl ?_ | refine Kp_uJ rfl ?_ | with_reducible refine Kf_of ((f_X3_append_k _ _ _ _)) ?_ | with_reducible refine Kf_of ((f_X7_kindHere_k _)) ?_ | with_reducible refine Kf_of ((f_X7_refuse_k _)) ?_ | with_reducible refine Kf_of ((f_X7_know_k _ _)) ?_ | with_reducible refine Kf_of ((f_X7_bindHere_k _ _)) ?_ | with_reducible refine Kf_of (ih _ _ _ _) ?_ | with_reducible exact ih
set_option maxHeartbeats 4000000 in
set_option maxRecDepth 100000 in
theorem f_X7_parameters_k (fu : Nat) (x1 : Int32) (S : im_S) : Kf kP kT (f_X7_parameters fu x1 S) S := by
  unfold f_X7_parameters
  repeat' first | with_reducible exact Kf_none _ | with_reducible refine Kf_gd ?_ | with_reducible refine Kf_ite ?_ ?_ | with_reducible refine Kf_bind ?_ (fun q => ?_) | with_reducible refine Kf_some ?_ | with_reducible exact Kp_refl _ | refine Kp_uI rfl ?_ | refine Kp_uJ rfl ?_ | with_reducible refine Kf_of ((f_X7_kindHere_k _)) ?_ | with_reducible refine Kf_of ((f_X7_parameters_L17_k _ _ _ _ _ _)) ?_
set_option maxHeartbeats 4000000 in
set_option maxRecDepth 100000 in
theorem f_X7_openTab_k (fu : Nat) (S : im_S) : Kf kP kT (f_X7_openTab fu S) S := by
  unfold f_X7_openTab
  repeat' first | with_reducible exact Kf_none _ | with_reducible refine Kf_gd ?_ | with_reducible refine Kf_ite ?_ ?_ | with_reducible refine Kf_bind ?_ (fun q => ?_) | with_reducible refine Kf_some ?_ | with_reducible exact Kp_refl _ | refine Kp_uI rfl ?_ | refine Kp_uJ rfl ?_ | with_reducible refine Kf_of ((f_X1_note_k _ _ _)) ?_ | with_reducible refine Kf_of ((f_X4_addRegion_k _ _)) ?_ | with_reducible refine Kf_of ((f_X6_topRegion_k _)) ?_ | with_reducible refine Kf_of ((f_X3_moveTo_k _ _ _)) ?_ | with_reducible refine Kf_of ((f_X3_addInnerTemplate_k _ _)) ?_ | with_reducible refine Kf_of ((f_X7_kindHere_k _)) ?_ | with_reducible refine Kf_of ((f_X7_placeHere_k _)) ?_ | with_reducible refine Kf_of ((f_X7_refuse_k _)) ?_ | with_reducible refine Kf_of ((f_X7_take_k _ _)) ?_ | with_reducible refine Kf_of ((f_X7_open_k _ _ _ _)) ?_ | with_reducible refine Kf_of ((f_X7_checkType_k _ _ _)) ?_ | with_reducible refine Kf_of ((f_X7_addHere_k _ _ _ _)) ?_ | with_reducible refine Kf_of ((f_X7_bindHere_k _ _)) ?_
set_option maxHeartbeats 4000000 in
set_option maxRecDepth 100000 in
theorem f_X7_openLet_k (fu : Nat) (S : im_S) : Kf kP kT (f_X7_openLet fu S) S := by
  unfold f_X7_openLet
  repeat' first | with_reducible exact Kf_none _ | with_reducible refine Kf_gd ?_ | with_reducible refine Kf_ite ?_ ?_ | with_reducible refine Kf_bind ?_ (fun q => ?_) | with_reducible refine Kf_some ?_ | with_reducible exact Kp_refl _ | refine Kp_uI rfl ?_ | refine Kp_uJ rfl ?_ | with_reducible refine Kf_of ((f_X6_topRegion_k _)) ?_ | with_reducible refine Kf_of ((f_X7_kindHere_k _)) ?_ | with_reducible refine Kf_of ((f_X7_refuse_k _)) ?_ | with_reducible refine Kf_of ((f_X7_take_k _ _)) ?_ | with_reducible refine Kf_of ((f_X7_open_k _ _ _ _)) ?_ | with_reducible refine Kf_of ((f_X7_addHere_k _ _ _ _)) ?_ | with_reducible refine Kf_of ((f_X7_bindHere_k _ _)) ?_
set_option maxHeartbeats 4000000 in
set_option maxRecDepth 100000 in
theorem f_X7_openFirstValue_k (fu : Nat) (S : im_S) : Kf kP kT (f_X7_openFirstValue fu S) S := by
  unfold f_X7_openFirstValue
  repeat' first | with_reducible exact Kf_none _ | with_reducible refine Kf_gd ?_ | with_reducible refine Kf_ite ?_ ?_ | with_reducible refine Kf_bind ?_ (fun q => ?_) | with_reducible refine Kf_some ?_ | with_reducible exact Kp_refl _ | refine Kp_uI rfl ?_ | refine Kp_uJ rfl ?_ | with_reducible refine Kf_of ((f_X1_note_k _ _ _)) ?_ | with_reducible refine Kf_of ((f_X6_topRegion_k _)) ?_ | with_reducible refine Kf_of ((f_X3_chainLength_k _ _ _)) ?_ | with_reducible refine Kf_of ((f_X3_findInChain_k _ _ _ _)) ?_ | with_reducible refine Kf_of ((f_X3_append_k _ _ _ _)) ?_ | with_reducible refine Kf_of ((f_X7_kindHere_k _)) ?_ | with_reducible refine Kf_of ((f_X7_placeHere_k _)) ?_ | with_reducible refine Kf_of ((f_X7_refuse_k _)) ?_ | with_reducible refine Kf_of ((f_X7_take_k _ _)) ?_ | with_reducible refine Kf_of ((f_X7_open_k _ _ _ _)) ?_ | with_reducible refine Kf_of ((f_X7_bindHere_k _ _)) ?_
set_option maxHeartbeats 4000000 in
set_option maxRecDepth 100000 in
theorem f_X7_close_k (fu : Nat) (x1 : Int32) (S : im_S) : Kf kP kT (f_X7_close fu x1 S) S := by
  unfold f_X7_close
  repeat' first | with_reducible exact Kf_none _ | with_reducible refine Kf_gd ?_ | with_reducible refine Kf_ite ?_ ?_ | with_reducible refine Kf_bind ?_ (fun q => ?_) | with_reducible refine Kf_some ?_ | with_reducible exact Kp_refl _ | refine Kp_uI rfl ?_ | refine Kp_uJ rfl ?_ | with_reducible refine Kf_of ((f_X6_topKind_k _)) ?_ | with_reducible refine Kf_of ((f_X7_take_k _ _)) ?_ | with_reducible refine Kf_of ((f_X7_endBody_k _ _)) ?_ | with_reducible refine Kf_of ((f_X7_endBracket_k _)) ?_ | with_reducible refine Kf_of ((f_X7_endElement_k _)) ?_ | with_reducible refine Kf_of ((f_X7_endArgument_k _ _ _)) ?_ | with_reducible refine Kf_of ((f_X7_endLetValue_k _)) ?_ | with_reducible refine Kf_of ((f_X7_endCondition_k _)) ?_ | with_reducible refine Kf_of ((f_X7_endThenPart_k _)) ?_ | with_reducible refine Kf_of ((f_X7_endWhilePart_k _)) ?_ | with_reducible refine Kf_of ((f_X7_endTabSize_k _)) ?_ | with_reducible refine Kf_of ((f_X7_endFirstValue_k _ _ _)) ?_ | with_reducible refine Kf_of ((f_X7_endNextValue_k _ _ _)) ?_
set_option maxHeartbeats 4000000 in
set_option maxRecDepth 100000 in
theorem f_X7_header_k (fu : Nat) (S : im_S) : Kf kP kT (f_X7_header fu S) S := by
  unfold f_X7_header
  repeat' first | with_reducible exact Kf_none _ | with_reducible refine Kf_gd ?_ | with_reducible refine Kf_ite ?_ ?_ | with_reducible refine Kf_bind ?_ (fun q => ?_) | with_reducible refine Kf_some ?_ | with_reducible exact Kp_refl _ | refine Kp_uI rfl ?_ | refine Kp_uJ rfl ?_ | with_reducible refine Kf_of ((f_X1_note_k _ _ _)) ?_ | with_reducible refine Kf_of ((f_X4_addFunction_k _ _)) ?_ | with_reducible refine Kf_of ((f_X4_findFunction_k _ _ _)) ?_ | with_reducible refine Kf_of ((f_X6_push_k _ _ _ _)) ?_ | with_reducible refine Kf_of ((f_X7_kindHere_k _)) ?_ | with_reducible refine Kf_of ((f_X7_placeHere_k _)) ?_ | with_reducible refine Kf_of ((f_X7_refuse_k _)) ?_ | with_reducible refine Kf_of ((f_X7_take_k _ _)) ?_ | with_reducible refine Kf_of ((f_X7_parameters_k _ _ _)) ?_
set_option maxHeartbeats 4000000 in
set_option maxRecDepth 100000 in
theorem f_X7_operand_k (fu : Nat) (S : im_S) : Kf kP kT (f_X7_operand fu S) S := by
  unfold f_X7_operand
  repeat' first | with_reducible exact Kf_none _ | with_reducible refine Kf_gd ?_ | with_reducible refine Kf_ite ?_ ?_ | with_reducible refine Kf_bind ?_ (fun q => ?_) | with_reducible refine Kf_some ?_ | with_reducible exact Kp_refl _ | refine Kp_uI rfl ?_ | refine Kp_uJ rfl ?_ | with_reducible refine Kf_of ((f_X7_kindHere_k _)) ?_ | with_reducible refine Kf_of ((f_X7_refuse_k _)) ?_ | with_reducible refine Kf_of ((f_X7_openBracket_k _)) ?_ | with_reducible refine Kf_of ((f_X7_constant_k _ _ _)) ?_ | with_reducible refine Kf_of ((f_X7_use_k _ _)) ?_ | with_reducible refine Kf_of ((f_X7_openCall_k _ _)) ?_ | with_reducible refine Kf_of ((f_X7_openAhead_k _ _)) ?_ | with_reducible refine Kf_of ((f_X7_openChoice_k _)) ?_ | with_reducible refine Kf_of ((f_X7_openLoop_k _)) ?_ | with_reducible refine Kf_of ((f_X7_openTab_k _ _)) ?_ | with_reducible refine Kf_of ((f_X7_openLet_k _ _)) ?_
set_option maxHeartbeats 4000000 in
set_option maxRecDepth 100000 in
theorem f_X7_follow_L32_k (fu : Nat) : ∀ (nf : Nat) (y0 : Int32) (y1 : Int32) (y2 : Int32) (y3 : Int32) (S : im_S), Kf kP kT (f_X7_follow_L32 fu nf y0 y1 y2 y3 S) S := by
  intro nf
  induction nf with
  | zero => intro y0 y1 y2 y3 S; exact Kf_none _
  | succ nf ih =>
    intro y0 y1 y2 y3 S
    unfold f_X7_follow_L32
    repeat' first | with_reducible exact Kf_none _ | with_reducible refine Kf_gd ?_ | with_reducible refine Kf_ite ?_ ?_ | with_reducible refine Kf_bind ?_ (fun q => ?_) | with_reducible refine Kf_some ?_ | with_reducible exact Kp_refl _ | refine Kp_uI rfl ?_ | refine Kp_uJ rfl ?_ | with_reducible refine Kf_of ((f_X6_topKind_k _)) ?_ | with_reducible refine Kf_of ((f_X6_topStrength_k _)) ?_ | with_reducible refine Kf_of ((f_X6_topEndsByItself_k _)) ?_ | with_reducible refine Kf_of ((f_X7_refuse_k _)) ?_ | with_reducible refine Kf_of ((f_X7_endByItself_k _ _)) ?_ | with_reducible refine Kf_of ((f_X7_openBinary_k _ _ _)) ?_ | with_reducible refine Kf_of ((f_X7_endOperators_k _ _ _)) ?_ | with_reducible refine Kf_of ((f_X7_close_k _ _ _)) ?_ | with_reducible refine Kf_of (ih _ _ _ _ _) ?_ | with_reducible exact ih
set_option maxHeartbeats 4000000 in
set_option maxRecDepth 100000 in
theorem f_X7_follow_k (fu : Nat) (S : im_S) : Kf kP kT (f_X7_follow fu S) S := by
  unfold f_X7_follow
  repeat' first | with_reducible exact Kf_none _ | with_reducible refine Kf_gd ?_ | with_reducible refine Kf_ite ?_ ?_ | with_reducible refine Kf_bind ?_ (fun q => ?_) | with_reducible refine Kf_some ?_ | with_reducible exact Kp_refl _ | refine Kp_uI rfl ?_ | refine Kp_uJ rfl ?_ | with_reducible refine Kf_of ((f_X6_strengthOf_k _ _)) ?_ | with_reducible refine Kf_of ((f_X7_kindHere_k _)) ?_ | with_reducible refine Kf_of ((f_X7_openElement_k _)) ?_ | with_reducible refine Kf_of ((f_X7_follow_L32_k _ _ _ _ _ _ _)) ?_
set_option maxHeartbeats 4000000 in
set_option maxRecDepth 100000 in
theorem f_X7_expression_L4_k (fu : Nat) : ∀ (nf : Nat) (y0 : Int32) (y1 : Int32) (S : im_S), Kf kP kT (f_X7_expression_L4 fu nf y0 y1 S) S := by
  intro nf
  induction nf with
  | zero => intro y0 y1 S; exact Kf_none _
  | succ nf ih =>
    intro y0 y1 S
    unfold f_X7_expression_L4
    repeat' first | with_reducible exact Kf_none _ | with_reducible refine Kf_gd ?_ | with_reducible refine Kf_ite ?_ ?_ | with_reducible refine Kf_bind ?_ (fun q => ?_) | with_reducible refine Kf_some ?_ | with_reducible exact Kp_refl _ | refine Kp_uI rfl ?_ | refine Kp_uJ rfl ?_ | with_reducible refine Kf_of ((f_X7_openNextValue_k _ _)) ?_ | with_reducible refine Kf_of ((f_X7_openFirstValue_k _ _)) ?_ | with_reducible refine Kf_of ((f_X7_operand_k _ _)) ?_ | with_reducible refine Kf_of ((f_X7_follow_k _ _)) ?_ | with_reducible refine Kf_of (ih _ _ _) ?_ | with_reducible exact ih
set_option maxHeartbeats 4000000 in
set_option maxRecDepth 100000 in
theorem f_X7_expression_k (fu : Nat) (S : im_S) : Kf kP kT (f_X7_expression fu S) S := by
  unfold f_X7_expression
  repeat' first | with_reducible exact Kf_none _ | with_reducible refine Kf_gd ?_ | with_reducible refine Kf_ite ?_ ?_ | with_reducible refine Kf_bind ?_ (fun q => ?_) | with_reducible refine Kf_some ?_ | with_reducible exact Kp_refl _ | refine Kp_uI rfl ?_ | refine Kp_uJ rfl ?_ | with_reducible refine Kf_of ((f_X7_expression_L4_k _ _ _ _ _)) ?_
set_option maxHeartbeats 4000000 in
set_option maxRecDepth 100000 in
theorem f_X0_clear_k (S : im_S) : Kf kM kT (f_X0_clear S) S := by
  unfold f_X0_clear
  repeat' first | with_reducible exact Kf_none _ | with_reducible refine Kf_gd ?_ | with_reducible refine Kf_ite ?_ ?_ | with_reducible refine Kf_bind ?_ (fun q => ?_) | with_reducible refine Kf_some ?_ | with_reducible exact Kp_refl _ | refine Kp_uI rfl ?_ | refine Kp_uJ rfl ?_
set_option maxHeartbeats 4000000 in
set_option maxRecDepth 100000 in
theorem f_X0_release_k (x1 : Int32) (S : im_S) : Kf kM kT (f_X0_release x1 S) S := by
  unfold f_X0_release
  repeat' first | with_reducible exact Kf_none _ | with_reducible refine Kf_gd ?_ | with_reducible refine Kf_ite ?_ ?_ | with_reducible refine Kf_bind ?_ (fun q => ?_) | with_reducible refine Kf_some ?_ | with_reducible exact Kp_refl _ | refine Kp_uI rfl ?_ | refine Kp_uJ rfl ?_
set_option maxHeartbeats 4000000 in
set_option maxRecDepth 100000 in
theorem f_X2_clear_k (S : im_S) : Kf kM kT (f_X2_clear S) S := by
  unfold f_X2_clear
  repeat' first | with_reducible exact Kf_none _ | with_reducible refine Kf_gd ?_ | with_reducible refine Kf_ite ?_ ?_ | with_reducible refine Kf_bind ?_ (fun q => ?_) | with_reducible refine Kf_some ?_ | with_reducible exact Kp_refl _ | refine Kp_uI rfl ?_ | refine Kp_uJ rfl ?_
set_option maxHeartbeats 4000000 in
set_option maxRecDepth 100000 in
theorem f_X2_outward_L5_k (fu : Nat) : ∀ (nf : Nat) (y0 : Int32) (y1 : Int32) (y2 : Int32) (y3 : Int32) (S : im_S), Kf kM kT (f_X2_outward_L5 fu nf y0 y1 y2 y3 S) S := by
  intro nf
  induction nf with
  | zero => intro y0 y1 y2 y3 S; exact Kf_none _
  | succ nf ih =>
    intro y0 y1 y2 y3 S
    unfold f_X2_outward_L5
    repeat' first | with_reducible exact Kf_none _ | with_reducible refine Kf_gd ?_ | with_reducible refine Kf_ite ?_ ?_ | with_reducible refine Kf_bind ?_ (fun q => ?_) | with_reducible refine Kf_some ?_ | with_reducible exact Kp_refl _ | refine Kp_uI rfl ?_ | refine Kp_uJ rfl ?_ | with_reducible refine Kf_of (ih _ _ _ _ _) ?_ | with_reducible exact ih
set_option maxHeartbeats 4000000 in
set_option maxRecDepth 100000 in
theorem f_X2_outward_k (fu : Nat) (x1 : Int32) (x2 : Int32) (S : im_S) : Kf kM kT (f_X2_outward fu x1 x2 S) S := by
  unfold f_X2_outward
  repeat' first | with_reducible exact Kf_none _ | with_reducible refine Kf_gd ?_ | with_reducible refine Kf_ite ?_ ?_ | with_reducible refine Kf_bind ?_ (fun q => ?_) | with_reducible refine Kf_some ?_ | with_reducible exact Kp_refl _ | refine Kp_uI rfl ?_ | refine Kp_uJ rfl ?_ | with_reducible refine Kf_of ((f_X2_outward_L5_k _ _ _ _ _ _ _)) ?_
set_option maxHeartbeats 4000000 in
set_option maxRecDepth 100000 in
theorem f_X8_clear_k (S : im_S) : Kf kM kT (f_X8_clear S) S := by
  unfold f_X8_clear
  repeat' first | with_reducible exact Kf_none _ | with_reducible refine Kf_gd ?_ | with_reducible refine Kf_ite ?_ ?_ | with_reducible refine Kf_bind ?_ (fun q => ?_) | with_reducible refine Kf_some ?_ | with_reducible exact Kp_refl _ | refine Kp_uI rfl ?_ | refine Kp_uJ rfl ?_
set_option maxHeartbeats 4000000 in
set_option maxRecDepth 100000 in
theorem f_X8_put_k (x1 : Int32) (x2 : Int32) (x3 : Int64) (S : im_S) : Kf kM kT (f_X8_put x1 x2 x3 S) S := by
  unfold f_X8_put
  repeat' first | with_reducible exact Kf_none _ | with_reducible refine Kf_gd ?_ | with_reducible refine Kf_ite ?_ ?_ | with_reducible refine Kf_bind ?_ (fun q => ?_) | with_reducible refine Kf_some ?_ | with_reducible exact Kp_refl _ | refine Kp_uI rfl ?_ | refine Kp_uJ rfl ?_
set_option maxHeartbeats 4000000 in
set_option maxRecDepth 100000 in
theorem f_X8_tableOf_k (x0 : Int32) (x1 : Int32) (S : im_S) : Kf kM kT (f_X8_tableOf x0 x1 S) S := by
  unfold f_X8_tableOf
  repeat' first | with_reducible exact Kf_none _ | with_reducible refine Kf_gd ?_ | with_reducible refine Kf_ite ?_ ?_ | with_reducible refine Kf_bind ?_ (fun q => ?_) | with_reducible refine Kf_some ?_ | with_reducible exact Kp_refl _ | refine Kp_uI rfl ?_ | refine Kp_uJ rfl ?_
set_option maxHeartbeats 4000000 in
set_option maxRecDepth 100000 in
theorem f_X8_firstCell_k (x0 : Int64) (S : im_S) : Kf kM kT (f_X8_firstCell x0 S) S := by
  unfold f_X8_firstCell
  repeat' first | with_reducible exact Kf_none _ | with_reducible refine Kf_gd ?_ | with_reducible refine Kf_ite ?_ ?_ | with_reducible refine Kf_bind ?_ (fun q => ?_) | with_reducible refine Kf_some ?_ | with_reducible exact Kp_refl _ | refine Kp_uI rfl ?_ | refine Kp_uJ rfl ?_
set_option maxHeartbeats 4000000 in
set_option maxRecDepth 100000 in
theorem f_X8_cellsIn_k (x0 : Int64) (S : im_S) : Kf kM kT (f_X8_cellsIn x0 S) S := by
  unfold f_X8_cellsIn
  repeat' first | with_reducible exact Kf_none _ | with_reducible refine Kf_gd ?_ | with_reducible refine Kf_ite ?_ ?_ | with_reducible refine Kf_bind ?_ (fun q => ?_) | with_reducible refine Kf_some ?_ | with_reducible exact Kp_refl _ | refine Kp_uI rfl ?_ | refine Kp_uJ rfl ?_
set_option maxHeartbeats 4000000 in
set_option maxRecDepth 100000 in
theorem f_X5_condition_k (S : im_S) : Kf kM kT (f_X5_condition S) S := by
  unfold f_X5_condition
  repeat' first | with_reducible exact Kf_none _ | with_reducible refine Kf_gd ?_ | with_reducible refine Kf_ite ?_ ?_ | with_reducible refine Kf_bind ?_ (fun q => ?_) | with_reducible refine Kf_some ?_ | with_reducible exact Kp_refl _ | refine Kp_uI rfl ?_ | refine Kp_uJ rfl ?_
set_option maxHeartbeats 4000000 in
set_option maxRecDepth 100000 in
theorem f_X5_slotOf_k (x1 : Int32) (x2 : Int32) (S : im_S) : Kf kM kT (f_X5_slotOf x1 x2 S) S := by
  unfold f_X5_slotOf
  repeat' first | with_reducible exact Kf_none _ | with_reducible refine Kf_gd ?_ | with_reducible refine Kf_ite ?_ ?_ | with_reducible refine Kf_bind ?_ (fun q => ?_) | with_reducible refine Kf_some ?_ | with_reducible exact Kp_refl _ | refine Kp_uI rfl ?_ | refine Kp_uJ rfl ?_
set_option maxHeartbeats 4000000 in
set_option maxRecDepth 100000 in
theorem f_X5_makeReady_k (x1 : Int32) (x2 : Int32) (S : im_S) : Kf kM kT (f_X5_makeReady x1 x2 S) S := by
  unfold f_X5_makeReady
  repeat' first | with_reducible exact Kf_none _ | with_reducible refine Kf_gd ?_ | with_reducible refine Kf_ite ?_ ?_ | with_reducible refine Kf_bind ?_ (fun q => ?_) | with_reducible refine Kf_some ?_ | with_reducible exact Kp_refl _ | refine Kp_uI rfl ?_ | refine Kp_uJ rfl ?_
set_option maxHeartbeats 4000000 in
set_option maxRecDepth 100000 in
theorem f_X5_send_k (x1 : Int32) (x2 : Int32) (x3 : Int32) (x4 : Int64) (S : im_S) : Kf kM kT (f_X5_send x1 x2 x3 x4 S) S := by
  unfold f_X5_send
  repeat' first | with_reducible exact Kf_none _ | with_reducible refine Kf_gd ?_ | with_reducible refine Kf_ite ?_ ?_ | with_reducible refine Kf_bind ?_ (fun q => ?_) | with_reducible refine Kf_some ?_ | with_reducible exact Kp_refl _ | refine Kp_uI rfl ?_ | refine Kp_uJ rfl ?_
set_option maxHeartbeats 4000000 in
set_option maxRecDepth 100000 in
theorem f_X5_leaveFunction_k (S : im_S) : Kf kM kT (f_X5_leaveFunction S) S := by
  unfold f_X5_leaveFunction
  repeat' first | with_reducible exact Kf_none _ | with_reducible refine Kf_gd ?_ | with_reducible refine Kf_ite ?_ ?_ | with_reducible refine Kf_bind ?_ (fun q => ?_) | with_reducible refine Kf_some ?_ | with_reducible exact Kp_refl _ | refine Kp_uI rfl ?_ | refine Kp_uJ rfl ?_ | with_reducible refine Kf_of ((f_X5_send_k _ _ _ _ _)) ?_
set_option maxHeartbeats 4000000 in
set_option maxRecDepth 100000 in
theorem f_X5_turn_k (x1 : Int32) (x2 : Int32) (S : im_S) : Kf kM kT (f_X5_turn x1 x2 S) S := by
  unfold f_X5_turn
  repeat' first | with_reducible exact Kf_none _ | with_reducible refine Kf_gd ?_ | with_reducible refine Kf_ite ?_ ?_ | with_reducible refine Kf_bind ?_ (fun q => ?_) | with_reducible refine Kf_some ?_ | with_reducible exact Kp_refl _ | refine Kp_uI rfl ?_ | refine Kp_uJ rfl ?_ | with_reducible refine Kf_of ((f_X5_slotOf_k _ _ _)) ?_ | with_reducible refine Kf_of ((f_X5_send_k _ _ _ _ _)) ?_
set_option maxHeartbeats 4000000 in
set_option maxRecDepth 100000 in
theorem f_X5_leastError_k (x1 : Int32) (x2 : Int32) (S : im_S) : Kf kM kT (f_X5_leastError x1 x2 S) S := by
  unfold f_X5_leastError
  repeat' first | with_reducible exact Kf_none _ | with_reducible refine Kf_gd ?_ | with_reducible refine Kf_ite ?_ ?_ | with_reducible refine Kf_bind ?_ (fun q => ?_) | with_reducible refine Kf_some ?_ | with_reducible exact Kp_refl _ | refine Kp_uI rfl ?_ | refine Kp_uJ rfl ?_
set_option maxHeartbeats 4000000 in
set_option maxRecDepth 100000 in
theorem f_X5_calculate_k (x0 : Int32) (x1 : Int64) (x3 : Int64) (S : im_S) : Kf kM kT (f_X5_calculate x0 x1 x3 S) S := by
  unfold f_X5_calculate
  repeat' first | with_reducible exact Kf_none _ | with_reducible refine Kf_gd ?_ | with_reducible refine Kf_ite ?_ ?_ | with_reducible refine Kf_bind ?_ (fun q => ?_) | with_reducible refine Kf_some ?_ | with_reducible exact Kp_refl _ | refine Kp_uI rfl ?_ | refine Kp_uJ rfl ?_
set_option maxHeartbeats 4000000 in
set_option maxRecDepth 100000 in
theorem f_X5_settle_L15_k (fu : Nat) : ∀ (nf : Nat) (y0 : Int32) (y1 : Int32) (y2 : Int64) (y3 : Int32) (y4 : Int32) (S : im_S), Kf kM kT (f_X5_settle_L15 fu nf y0 y1 y2 y3 y4 S) S := by
  intro nf
  induction nf with
  | zero => intro y0 y1 y2 y3 y4 S; exact Kf_none _
  | succ nf ih =>
    intro y0 y1 y2 y3 y4 S
    unfold f_X5_settle_L15
    repeat' first | with_reducible exact Kf_none _ | with_reducible refine Kf_gd ?_ | with_reducible refine Kf_ite ?_ ?_ | with_reducible refine Kf_bind ?_ (fun q => ?_) | with_reducible refine Kf_some ?_ | with_reducible exact Kp_refl _ | refine Kp_uI rfl ?_ | refine Kp_uJ rfl ?_ | with_reducible refine Kf_of ((f_X8_put_k _ _ _ _)) ?_ | with_reducible refine Kf_of (ih _ _ _ _ _ _) ?_ | with_reducible exact ih
set_option maxHeartbeats 4000000 in
set_option maxRecDepth 100000 in
theorem f_X5_settle_k (fu : Nat) (x1 : Int32) (x2 : Int32) (x3 : Int64) (S : im_S) : Kf kM kT (f_X5_settle fu x1 x2 x3 S) S := by
  unfold f_X5_settle
  repeat' first | with_reducible exact Kf_none _ | with_reducible refine Kf_gd ?_ | with_reducible refine Kf_ite ?_ ?_ | with_reducible refine Kf_bind ?_ (fun q => ?_) | with_reducible refine Kf_some ?_ | with_reducible exact Kp_refl _ | refine Kp_uI rfl ?_ | refine Kp_uJ rfl ?_ | with_reducible refine Kf_of ((f_X5_settle_L15_k _ _ _ _ _ _ _ _)) ?_
set_option maxHeartbeats 4000000 in
set_option maxRecDepth 100000 in
theorem f_X5_handIn_k (fu : Nat) (x1 : Int32) (x2 : Int32) (x3 : Int32) (S : im_S) : Kf kM kT (f_X5_handIn fu x1 x2 x3 S) S := by
  unfold f_X5_handIn
  repeat' first | with_reducible exact Kf_none _ | with_reducible refine Kf_gd ?_ | with_reducible refine Kf_ite ?_ ?_ | with_reducible refine Kf_bind ?_ (fun q => ?_) | with_reducible refine Kf_some ?_ | with_reducible exact Kp_refl _ | refine Kp_uI rfl ?_ | refine Kp_uJ rfl ?_ | with_reducible refine Kf_of ((f_X5_slotOf_k _ _ _)) ?_ | with_reducible refine Kf_of ((f_X5_settle_k _ _ _ _ _)) ?_
set_option maxHeartbeats 4000000 in
set_option maxRecDepth 100000 in
theorem f_X5_cellAt_k (x1 : Int32) (x2 : Int32) (S : im_S) : Kf kM kT (f_X5_cellAt x1 x2 S) S := by
  unfold f_X5_cellAt
  repeat' first | with_reducible exact Kf_none _ | with_reducible refine Kf_gd ?_ | with_reducible refine Kf_ite ?_ ?_ | with_reducible refine Kf_bind ?_ (fun q => ?_) | with_reducible refine Kf_some ?_ | with_reducible exact Kp_refl _ | refine Kp_uI rfl ?_ | refine Kp_uJ rfl ?_ | with_reducible refine Kf_of ((f_X8_firstCell_k _ _)) ?_ | with_reducible refine Kf_of ((f_X8_cellsIn_k _ _)) ?_
set_option maxHeartbeats 4000000 in
set_option maxRecDepth 100000 in
theorem f_X5_operate_k (x1 : Int32) (x2 : Int32) (S : im_S) : Kf kM kT (f_X5_operate x1 x2 S) S := by
  unfold f_X5_operate
  repeat' first | with_reducible exact Kf_none _ | with_reducible refine Kf_gd ?_ | with_reducible refine Kf_ite ?_ ?_ | with_reducible refine Kf_bind ?_ (fun q => ?_) | with_reducible refine Kf_some ?_ | with_reducible exact Kp_refl _ | refine Kp_uI rfl ?_ | refine Kp_uJ rfl ?_ | with_reducible refine Kf_of ((f_X5_slotOf_k _ _ _)) ?_ | with_reducible refine Kf_of ((f_X5_send_k _ _ _ _ _)) ?_ | with_reducible refine Kf_of ((f_X5_leastError_k _ _ _)) ?_ | with_reducible refine Kf_of ((f_X5_calculate_k _ _ _ _)) ?_
set_option maxHeartbeats 4000000 in
set_option maxRecDepth 100000 in
theorem f_X5_pickCell_k (x1 : Int32) (x2 : Int32) (S : im_S) : Kf kM kT (f_X5_pickCell x1 x2 S) S := by
  unfold f_X5_pickCell
  repeat' first | with_reducible exact Kf_none _ | with_reducible refine Kf_gd ?_ | with_reducible refine Kf_ite ?_ ?_ | with_reducible refine Kf_bind ?_ (fun q => ?_) | with_reducible refine Kf_some ?_ | with_reducible exact Kp_refl _ | refine Kp_uI rfl ?_ | refine Kp_uJ rfl ?_ | with_reducible refine Kf_of ((f_X5_slotOf_k _ _ _)) ?_ | with_reducible refine Kf_of ((f_X5_send_k _ _ _ _ _)) ?_ | with_reducible refine Kf_of ((f_X5_leastError_k _ _ _)) ?_ | with_reducible refine Kf_of ((f_X5_cellAt_k _ _ _)) ?_
set_option maxHeartbeats 4000000 in
set_option maxRecDepth 100000 in
theorem f_X11_thrown_k (S : im_S) : Kf kR kT (f_X11_thrown S) S := by
  unfold f_X11_thrown
  repeat' first | with_reducible exact Kf_none _ | with_reducible refine Kf_gd ?_ | with_reducible refine Kf_ite ?_ ?_ | with_reducible refine Kf_bind ?_ (fun q => ?_) | with_reducible refine Kf_some ?_ | with_reducible exact Kp_refl _ | refine Kp_uI rfl ?_ | refine Kp_uJ rfl ?_
set_option maxHeartbeats 4000000 in
set_option maxRecDepth 100000 in
theorem f_X11_raise_k (x1 : Int32) (S : im_S) : Kf kR kT (f_X11_raise x1 S) S := by
  unfold f_X11_raise
  repeat' first | with_reducible exact Kf_none _ | with_reducible refine Kf_gd ?_ | with_reducible refine Kf_ite ?_ ?_ | with_reducible refine Kf_bind ?_ (fun q => ?_) | with_reducible refine Kf_some ?_ | with_reducible exact Kp_refl _ | refine Kp_uI rfl ?_ | refine Kp_uJ rfl ?_
set_option maxHeartbeats 4000000 in
set_option maxRecDepth 100000 in
theorem f_X11_type_L80_k (fu : Nat) : ∀ (nf : Nat) (y0 : Int64) (y1 : Int32) (y2 : Int32) (S : im_S), Kf kR kT (f_X11_type_L80 fu nf y0 y1 y2 S) S := by
  intro nf
  induction nf with
  | zero => intro y0 y1 y2 S; exact Kf_none _
  | succ nf ih =>
    intro y0 y1 y2 S
    unfold f_X11_type_L80
    repeat' first | with_reducible exact Kf_none _ | with_reducible refine Kf_gd ?_ | with_reducible refine Kf_ite ?_ ?_ | with_reducible refine Kf_bind ?_ (fun q => ?_) | with_reducible refine Kf_some ?_ | with_reducible exact Kp_refl _ | refine Kp_uI rfl ?_ | refine Kp_uJ rfl ?_ | with_reducible refine Kf_of (ih _ _ _ _) ?_ | with_reducible exact ih
set_option maxHeartbeats 4000000 in
set_option maxRecDepth 100000 in
theorem f_X11_type_L33_k (fu : Nat) : ∀ (nf : Nat) (y0 : Int64) (y1 : Int32) (y2 : Int32) (S : im_S), Kf kR kT (f_X11_type_L33 fu nf y0 y1 y2 S) S := by
  intro nf
  induction nf with
  | zero => intro y0 y1 y2 S; exact Kf_none _
  | succ nf ih =>
    intro y0 y1 y2 S
    unfold f_X11_type_L33
    repeat' first | with_reducible exact Kf_none _ | with_reducible refine Kf_gd ?_ | with_reducible refine Kf_ite ?_ ?_ | with_reducible refine Kf_bind ?_ (fun q => ?_) | with_reducible refine Kf_some ?_ | with_reducible exact Kp_refl _ | refine Kp_uI rfl ?_ | refine Kp_uJ rfl ?_ | with_reducible refine Kf_of ((f_X11_type_L80_k _ _ _ _ _ _)) ?_ | with_reducible refine Kf_of (ih _ _ _ _) ?_ | with_reducible exact ih
set_option maxHeartbeats 4000000 in
set_option maxRecDepth 100000 in
theorem f_X11_type_k (fu : Nat) (x1 : Int64) (x3 : Int32) (S : im_S) : Kf kR kT (f_X11_type fu x1 x3 S) S := by
  unfold f_X11_type
  repeat' first | with_reducible exact Kf_none _ | with_reducible refine Kf_gd ?_ | with_reducible refine Kf_ite ?_ ?_ | with_reducible refine Kf_bind ?_ (fun q => ?_) | with_reducible refine Kf_some ?_ | with_reducible exact Kp_refl _ | refine Kp_uI rfl ?_ | refine Kp_uJ rfl ?_ | with_reducible refine Kf_of ((f_X11_type_L33_k _ _ _ _ _ _)) ?_
set_option maxHeartbeats 4000000 in
set_option maxRecDepth 100000 in
theorem f_X11_character_k (x1 : Int32) (S : im_S) : Kf kR kT (f_X11_character x1 S) S := by
  unfold f_X11_character
  repeat' first | with_reducible exact Kf_none _ | with_reducible refine Kf_gd ?_ | with_reducible refine Kf_ite ?_ ?_ | with_reducible refine Kf_bind ?_ (fun q => ?_) | with_reducible refine Kf_some ?_ | with_reducible exact Kp_refl _ | refine Kp_uI rfl ?_ | refine Kp_uJ rfl ?_
set_option maxHeartbeats 4000000 in
set_option maxRecDepth 100000 in
theorem f_X11_isDigit_k (x0 : Int32) (S : im_S) : Kf kR kT (f_X11_isDigit x0 S) S := by
  unfold f_X11_isDigit
  repeat' first | with_reducible exact Kf_none _ | with_reducible refine Kf_gd ?_ | with_reducible refine Kf_ite ?_ ?_ | with_reducible refine Kf_bind ?_ (fun q => ?_) | with_reducible refine Kf_some ?_ | with_reducible exact Kp_refl _ | refine Kp_uI rfl ?_ | refine Kp_uJ rfl ?_
set_option maxHeartbeats 4000000 in
set_option maxRecDepth 100000 in
theorem f_X11_isSmall_k (x0 : Int32) (S : im_S) : Kf kR kT (f_X11_isSmall x0 S) S := by
  unfold f_X11_isSmall
  repeat' first | with_reducible exact Kf_none _ | with_reducible refine Kf_gd ?_ | with_reducible refine Kf_ite ?_ ?_ | with_reducible refine Kf_bind ?_ (fun q => ?_) | with_reducible refine Kf_some ?_ | with_reducible exact Kp_refl _ | refine Kp_uI rfl ?_ | refine Kp_uJ rfl ?_
set_option maxHeartbeats 4000000 in
set_option maxRecDepth 100000 in
theorem f_X11_packed_k (x0 : Int32) (x1 : Int32) (x2 : Int32) (x3 : Int32) (x4 : Int32) (S : im_S) : Kf kR kT (f_X11_packed x0 x1 x2 x3 x4 S) S := by
  unfold f_X11_packed
  repeat' first | with_reducible exact Kf_none _ | with_reducible refine Kf_gd ?_ | with_reducible refine Kf_ite ?_ ?_ | with_reducible refine Kf_bind ?_ (fun q => ?_) | with_reducible refine Kf_some ?_ | with_reducible exact Kp_refl _ | refine Kp_uI rfl ?_ | refine Kp_uJ rfl ?_
set_option maxHeartbeats 4000000 in
set_option maxRecDepth 100000 in
theorem f_X11_wordOf_k (x0 : Int64) (S : im_S) : Kf kR kT (f_X11_wordOf x0 S) S := by
  unfold f_X11_wordOf
  repeat' first | with_reducible exact Kf_none _ | with_reducible refine Kf_gd ?_ | with_reducible refine Kf_ite ?_ ?_ | with_reducible refine Kf_bind ?_ (fun q => ?_) | with_reducible refine Kf_some ?_ | with_reducible exact Kp_refl _ | refine Kp_uI rfl ?_ | refine Kp_uJ rfl ?_ | with_reducible refine Kf_of ((f_X11_packed_k _ _ _ _ _ _)) ?_
set_option maxHeartbeats 4000000 in
set_option maxRecDepth 100000 in
theorem f_X11_token_k (x1 : Int32) (x2 : Int32) (x3 : Int32) (x4 : Int64) (S : im_S) : Kf kR kT (f_X11_token x1 x2 x3 x4 S) S := by
  unfold f_X11_token
  repeat' first | with_reducible exact Kf_none _ | with_reducible refine Kf_gd ?_ | with_reducible refine Kf_ite ?_ ?_ | with_reducible refine Kf_bind ?_ (fun q => ?_) | with_reducible refine Kf_some ?_ | with_reducible exact Kp_refl _ | refine Kp_uI rfl ?_ | refine Kp_uJ rfl ?_
set_option maxHeartbeats 4000000 in
set_option maxRecDepth 100000 in
theorem f_X11_oneToken_L108_k (fu : Nat) : ∀ (nf : Nat) (y0 : Int32) (y1 : Int32) (y2 : Int32) (y3 : Int64) (S : im_S), Kf kR kT (f_X11_oneToken_L108 fu nf y0 y1 y2 y3 S) S := by
  intro nf
  induction nf with
  | zero => intro y0 y1 y2 y3 S; exact Kf_none _
  | succ nf ih =>
    intro y0 y1 y2 y3 S
    unfold f_X11_oneToken_L108
    repeat' first | with_reducible exact Kf_none _ | with_reducible refine Kf_gd ?_ | with_reducible refine Kf_ite ?_ ?_ | with_reducible refine Kf_bind ?_ (fun q => ?_) | with_reducible refine Kf_some ?_ | with_reducible exact Kp_refl _ | refine Kp_uI rfl ?_ | refine Kp_uJ rfl ?_ | with_reducible refine Kf_of ((f_X11_character_k _ _)) ?_ | with_reducible refine Kf_of ((f_X11_isDigit_k _ _)) ?_ | with_reducible refine Kf_of ((f_X11_isSmall_k _ _)) ?_ | with_reducible refine Kf_of ((f_X11_wordOf_k _ _)) ?_ | with_reducible refine Kf_of ((f_X11_token_k _ _ _ _ _)) ?_ | with_reducible refine Kf_of (ih _ _ _ _ _) ?_ | with_reducible exact ih
set_option maxHeartbeats 4000000 in
set_option maxRecDepth 100000 in
theorem f_X11_oneToken_L24_k (fu : Nat) : ∀ (nf : Nat) (y0 : Int32) (y1 : Int32) (y2 : Int32) (y3 : Int64) (S : im_S), Kf kR kT (f_X11_oneToken_L24 fu nf y0 y1 y2 y3 S) S := by
  intro nf
  induction nf with
  | zero => intro y0 y1 y2 y3 S; exact Kf_none _
  | succ nf ih =>
    intro y0 y1 y2 y3 S
    unfold f_X11_oneToken_L24
    repeat' first | with_reducible exact Kf_none _ | with_reducible refine Kf_gd ?_ | with_reducible refine Kf_ite ?_ ?_ | with_reducible refine Kf_bind ?_ (fun q => ?_) | with_reducible refine Kf_some ?_ | with_reducible exact Kp_refl _ | refine Kp_uI rfl ?_ | refine Kp_uJ rfl ?_ | with_reducible refine Kf_of ((f_X11_character_k _ _)) ?_ | with_reducible refine Kf_of ((f_X11_isDigit_k _ _)) ?_ | with_reducible refine Kf_of ((f_X11_token_k _ _ _ _ _)) ?_ | with_reducible refine Kf_of (ih _ _ _ _ _) ?_ | with_reducible exact ih
set_option maxHeartbeats 4000000 in
set_option maxRecDepth 100000 in
theorem f_X11_oneToken_k (fu : Nat) (x1 : Int32) (S : im_S) : Kf kR kT (f_X11_oneToken fu x1 S) S := by
  unfold f_X11_oneToken
  repeat' first | with_reducible exact Kf_none _ | with_reducible refine Kf_gd ?_ | with_reducible refine Kf_ite ?_ ?_ | with_reducible refine Kf_bind ?_ (fun q => ?_) | with_reducible refine Kf_some ?_ | with_reducible exact Kp_refl _ | refine Kp_uI rfl ?_ | refine Kp_uJ rfl ?_ | with_reducible refine Kf_of ((f_X11_character_k _ _)) ?_ | with_reducible refine Kf_of ((f_X11_isDigit_k _ _)) ?_ | with_reducible refine Kf_of ((f_X11_isSmall_k _ _)) ?_ | with_reducible refine Kf_of ((f_X11_token_k _ _ _ _ _)) ?_ | with_reducible refine Kf_of ((f_X11_oneToken_L108_k _ _ _ _ _ _ _)) ?_ | with_reducible refine Kf_of ((f_X11_oneToken_L24_k _ _ _ _ _ _ _)) ?_
set_option maxHeartbeats 4000000 in
set_option maxRecDepth 100000 in
theorem f_X11_refuse_k (S : im_S) : Kf kR kT (f_X11_refuse S) S := by
  unfold f_X11_refuse
  repeat' first | with_reducible exact Kf_none _ | with_reducible refine Kf_gd ?_ | with_reducible refine Kf_ite ?_ ?_ | with_reducible refine Kf_bind ?_ (fun q => ?_) | with_reducible refine Kf_some ?_ | with_reducible exact Kp_refl _ | refine Kp_uI rfl ?_ | refine Kp_uJ rfl ?_
set_option maxHeartbeats 4000000 in
set_option maxRecDepth 100000 in
theorem f_X11_isSign_k (x1 : Int32) (S : im_S) : Kf kR kT (f_X11_isSign x1 S) S := by
  unfold f_X11_isSign
  repeat' first | with_reducible exact Kf_none _ | with_reducible refine Kf_gd ?_ | with_reducible refine Kf_ite ?_ ?_ | with_reducible refine Kf_bind ?_ (fun q => ?_) | with_reducible refine Kf_some ?_ | with_reducible exact Kp_refl _ | refine Kp_uI rfl ?_ | refine Kp_uJ rfl ?_
set_option maxHeartbeats 4000000 in
set_option maxRecDepth 100000 in
theorem f_X11_isWord_k (x1 : Int32) (S : im_S) : Kf kR kT (f_X11_isWord x1 S) S := by
  unfold f_X11_isWord
  repeat' first | with_reducible exact Kf_none _ | with_reducible refine Kf_gd ?_ | with_reducible refine Kf_ite ?_ ?_ | with_reducible refine Kf_bind ?_ (fun q => ?_) | with_reducible refine Kf_some ?_ | with_reducible exact Kp_refl _ | refine Kp_uI rfl ?_ | refine Kp_uJ rfl ?_
set_option maxHeartbeats 4000000 in
set_option maxRecDepth 100000 in
theorem f_X11_takes_k (x1 : Int32) (S : im_S) : Kf kR kT (f_X11_takes x1 S) S := by
  unfold f_X11_takes
  repeat' first | with_reducible exact Kf_none _ | with_reducible refine Kf_gd ?_ | with_reducible refine Kf_ite ?_ ?_ | with_reducible refine Kf_bind ?_ (fun q => ?_) | with_reducible refine Kf_some ?_ | with_reducible exact Kp_refl _ | refine Kp_uI rfl ?_ | refine Kp_uJ rfl ?_
set_option maxHeartbeats 4000000 in
set_option maxRecDepth 100000 in
theorem f_X11_want_k (x1 : Int32) (S : im_S) : Kf kR kT (f_X11_want x1 S) S := by
  unfold f_X11_want
  repeat' first | with_reducible exact Kf_none _ | with_reducible refine Kf_gd ?_ | with_reducible refine Kf_ite ?_ ?_ | with_reducible refine Kf_bind ?_ (fun q => ?_) | with_reducible refine Kf_some ?_ | with_reducible exact Kp_refl _ | refine Kp_uI rfl ?_ | refine Kp_uJ rfl ?_ | with_reducible refine Kf_of ((f_X11_refuse_k _)) ?_ | with_reducible refine Kf_of ((f_X11_takes_k _ _)) ?_
set_option maxHeartbeats 4000000 in
set_option maxRecDepth 100000 in
theorem f_X11_wantName_k (S : im_S) : Kf kR kT (f_X11_wantName S) S := by
  unfold f_X11_wantName
  repeat' first | with_reducible exact Kf_none _ | with_reducible refine Kf_gd ?_ | with_reducible refine Kf_ite ?_ ?_ | with_reducible refine Kf_bind ?_ (fun q => ?_) | with_reducible refine Kf_some ?_ | with_reducible exact Kp_refl _ | refine Kp_uI rfl ?_ | refine Kp_uJ rfl ?_ | with_reducible refine Kf_of ((f_X11_want_k _ _)) ?_
set_option maxHeartbeats 4000000 in
set_option maxRecDepth 100000 in
theorem f_X11_make_k (x1 : Int32) (x2 : Int32) (S : im_S) : Kf kR kT (f_X11_make x1 x2 S) S := by
  unfold f_X11_make
  repeat' first | with_reducible exact Kf_none _ | with_reducible refine Kf_gd ?_ | with_reducible refine Kf_ite ?_ ?_ | with_reducible refine Kf_bind ?_ (fun q => ?_) | with_reducible refine Kf_some ?_ | with_reducible exact Kp_refl _ | refine Kp_uI rfl ?_ | refine Kp_uJ rfl ?_
set_option maxHeartbeats 4000000 in
set_option maxRecDepth 100000 in
theorem f_X11_addRow_k (x1 : Int32) (x2 : Int32) (S : im_S) : Kf kR kT (f_X11_addRow x1 x2 S) S := by
  unfold f_X11_addRow
  repeat' first | with_reducible exact Kf_none _ | with_reducible refine Kf_gd ?_ | with_reducible refine Kf_ite ?_ ?_ | with_reducible refine Kf_bind ?_ (fun q => ?_) | with_reducible refine Kf_some ?_ | with_reducible exact Kp_refl _ | refine Kp_uI rfl ?_ | refine Kp_uJ rfl ?_
set_option maxHeartbeats 4000000 in
set_option maxRecDepth 100000 in
theorem f_X11_layRow_L12_k (fu : Nat) : ∀ (nf : Nat) (y0 : Int32) (y1 : Int32) (y2 : Int32) (S : im_S), Kf kR kT (f_X11_layRow_L12 fu nf y0 y1 y2 S) S := by
  intro nf
  induction nf with
  | zero => intro y0 y1 y2 S; exact Kf_none _
  | succ nf ih =>
    intro y0 y1 y2 S
    unfold f_X11_layRow_L12
    repeat' first | with_reducible exact Kf_none _ | with_reducible refine Kf_gd ?_ | with_reducible refine Kf_ite ?_ ?_ | with_reducible refine Kf_bind ?_ (fun q => ?_) | with_reducible refine Kf_some ?_ | with_reducible exact Kp_refl _ | refine Kp_uI rfl ?_ | refine Kp_uJ rfl ?_ | with_reducible refine Kf_of ((f_X11_addRow_k _ _ _)) ?_ | with_reducible refine Kf_of (ih _ _ _ _) ?_ | with_reducible exact ih
set_option maxHeartbeats 4000000 in
set_option maxRecDepth 100000 in
theorem f_X11_layRow_k (fu : Nat) (x1 : Int32) (S : im_S) : Kf kR kT (f_X11_layRow fu x1 S) S := by
  unfold f_X11_layRow
  repeat' first | with_reducible exact Kf_none _ | with_reducible refine Kf_gd ?_ | with_reducible refine Kf_ite ?_ ?_ | with_reducible refine Kf_bind ?_ (fun q => ?_) | with_reducible refine Kf_some ?_ | with_reducible exact Kp_refl _ | refine Kp_uI rfl ?_ | refine Kp_uJ rfl ?_ | with_reducible refine Kf_of ((f_X11_layRow_L12_k _ _ _ _ _ _)) ?_
set_option maxHeartbeats 4000000 in
set_option maxRecDepth 100000 in
theorem f_X11_firm_k (S : im_S) : Kf kR kT (f_X11_firm S) S := by
  unfold f_X11_firm
  repeat' first | with_reducible exact Kf_none _ | with_reducible refine Kf_gd ?_ | with_reducible refine Kf_ite ?_ ?_ | with_reducible refine Kf_bind ?_ (fun q => ?_) | with_reducible refine Kf_some ?_ | with_reducible exact Kp_refl _ | refine Kp_uI rfl ?_ | refine Kp_uJ rfl ?_
set_option maxHeartbeats 4000000 in
set_option maxRecDepth 100000 in
theorem f_X11_note_k (x1 : Int32) (x2 : Int32) (S : im_S) : Kf kR kT (f_X11_note x1 x2 S) S := by
  unfold f_X11_note
  repeat' first | with_reducible exact Kf_none _ | with_reducible refine Kf_gd ?_ | with_reducible refine Kf_ite ?_ ?_ | with_reducible refine Kf_bind ?_ (fun q => ?_) | with_reducible refine Kf_some ?_ | with_reducible exact Kp_refl _ | refine Kp_uI rfl ?_ | refine Kp_uJ rfl ?_
set_option maxHeartbeats 4000000 in
set_option maxRecDepth 100000 in
theorem f_X11_firstLetter_L2_k (fu : Nat) : ∀ (nf : Nat) (y0 : Int64) (y1 : Int64) (S : im_S), Kf kR kT (f_X11_firstLetter_L2 fu nf y0 y1 S) S := by
  intro nf
  induction nf with
  | zero => intro y0 y1 S; exact Kf_none _
  | succ nf ih =>
    intro y0 y1 S
    unfold f_X11_firstLetter_L2
    repeat' first | with_reducible exact Kf_none _ | with_reducible refine Kf_gd ?_ | with_reducible refine Kf_ite ?_ ?_ | with_reducible refine Kf_bind ?_ (fun q => ?_) | with_reducible refine Kf_some ?_ | with_reducible exact Kp_refl _ | refine Kp_uI rfl ?_ | refine Kp_uJ rfl ?_ | with_reducible refine Kf_of (ih _ _ _) ?_ | with_reducible exact ih
set_option maxHeartbeats 4000000 in
set_option maxRecDepth 100000 in
theorem f_X11_firstLetter_k (fu : Nat) (x0 : Int64) (S : im_S) : Kf kR kT (f_X11_firstLetter fu x0 S) S := by
  unfold f_X11_firstLetter
  repeat' first | with_reducible exact Kf_none _ | with_reducible refine Kf_gd ?_ | with_reducible refine Kf_ite ?_ ?_ | with_reducible refine Kf_bind ?_ (fun q => ?_) | with_reducible refine Kf_some ?_ | with_reducible exact Kp_refl _ | refine Kp_uI rfl ?_ | refine Kp_uJ rfl ?_ | with_reducible refine Kf_of ((f_X11_firstLetter_L2_k _ _ _ _ _)) ?_
set_option maxHeartbeats 4000000 in
set_option maxRecDepth 100000 in
theorem f_X11_typeOf_k (fu : Nat) (x0 : Int64) (S : im_S) : Kf kR kT (f_X11_typeOf fu x0 S) S := by
  unfold f_X11_typeOf
  repeat' first | with_reducible exact Kf_none _ | with_reducible refine Kf_gd ?_ | with_reducible refine Kf_ite ?_ ?_ | with_reducible refine Kf_bind ?_ (fun q => ?_) | with_reducible refine Kf_some ?_ | with_reducible exact Kp_refl _ | refine Kp_uI rfl ?_ | refine Kp_uJ rfl ?_ | with_reducible refine Kf_of ((f_X11_firstLetter_k _ _ _)) ?_
set_option maxHeartbeats 4000000 in
set_option maxRecDepth 100000 in
theorem f_X11_find_L7_k (fu : Nat) : ∀ (nf : Nat) (y0 : Int64) (y1 : Int32) (S : im_S), Kf kR kT (f_X11_find_L7 fu nf y0 y1 S) S := by
  intro nf
  induction nf with
  | zero => intro y0 y1 S; exact Kf_none _
  | succ nf ih =>
    intro y0 y1 S
    unfold f_X11_find_L7
    repeat' first | with_reducible exact Kf_none _ | with_reducible refine Kf_gd ?_ | with_reducible refine Kf_ite ?_ ?_ | with_reducible refine Kf_bind ?_ (fun q => ?_) | with_reducible refine Kf_some ?_ | with_reducible exact Kp_refl _ | refine Kp_uI rfl ?_ | refine Kp_uJ rfl ?_ | with_reducible refine Kf_of (ih _ _ _) ?_ | with_reducible exact ih
set_option maxHeartbeats 4000000 in
set_option maxRecDepth 100000 in
theorem f_X11_find_k (fu : Nat) (x1 : Int64) (S : im_S) : Kf kR kT (f_X11_find fu x1 S) S := by
  unfold f_X11_find
  repeat' first | with_reducible exact Kf_none _ | with_reducible refine Kf_gd ?_ | with_reducible refine Kf_ite ?_ ?_ | with_reducible refine Kf_bind ?_ (fun q => ?_) | with_reducible refine Kf_some ?_ | with_reducible exact Kp_refl _ | refine Kp_uI rfl ?_ | refine Kp_uJ rfl ?_ | with_reducible refine Kf_of ((f_X11_find_L7_k _ _ _ _ _)) ?_
set_option maxHeartbeats 4000000 in
set_option maxRecDepth 100000 in
theorem f_X11_know_k (fu : Nat) (x1 : Int64) (x3 : Int32) (x4 : Int32) (x5 : Int32) (x6 : Int32) (S : im_S) : Kf kR kT (f_X11_know fu x1 x3 x4 x5 x6 S) S := by
  unfold f_X11_know
  repeat' first | with_reducible exact Kf_none _ | with_reducible refine Kf_gd ?_ | with_reducible refine Kf_ite ?_ ?_ | with_reducible refine Kf_bind ?_ (fun q => ?_) | with_reducible refine Kf_some ?_ | with_reducible exact Kp_refl _ | refine Kp_uI rfl ?_ | refine Kp_uJ rfl ?_ | with_reducible refine Kf_of ((f_X11_note_k _ _ _)) ?_ | with_reducible refine Kf_of ((f_X11_find_k _ _ _)) ?_
set_option maxHeartbeats 4000000 in
set_option maxRecDepth 100000 in
theorem f_X11_functionOf_L10_k (fu : Nat) : ∀ (nf : Nat) (y0 : Int64) (y1 : Int32) (S : im_S), Kf kR kT (f_X11_functionOf_L10 fu nf y0 y1 S) S := by
  intro nf
  induction nf with
  | zero => intro y0 y1 S; exact Kf_none _
  | succ nf ih =>
    intro y0 y1 S
    unfold f_X11_functionOf_L10
    repeat' first | with_reducible exact Kf_none _ | with_reducible refine Kf_gd ?_ | with_reducible refine Kf_ite ?_ ?_ | with_reducible refine Kf_bind ?_ (fun q => ?_) | with_reducible refine Kf_some ?_ | with_reducible exact Kp_refl _ | refine Kp_uI rfl ?_ | refine Kp_uJ rfl ?_ | with_reducible refine Kf_of (ih _ _ _) ?_ | with_reducible exact ih
set_option maxHeartbeats 4000000 in
set_option maxRecDepth 100000 in
theorem f_X11_functionOf_k (fu : Nat) (x1 : Int64) (S : im_S) : Kf kR kT (f_X11_functionOf fu x1 S) S := by
  unfold f_X11_functionOf
  repeat' first | with_reducible exact Kf_none _ | with_reducible refine Kf_gd ?_ | with_reducible refine Kf_ite ?_ ?_ | with_reducible refine Kf_bind ?_ (fun q => ?_) | with_reducible refine Kf_some ?_ | with_reducible exact Kp_refl _ | refine Kp_uI rfl ?_ | refine Kp_uJ rfl ?_ | with_reducible refine Kf_of ((f_X11_functionOf_L10_k _ _ _ _ _)) ?_
set_option maxHeartbeats 4000000 in
set_option maxRecDepth 100000 in
theorem f_X11_lookName_k (fu : Nat) (x1 : Int32) (S : im_S) : Kf kR kT (f_X11_lookName fu x1 S) S := by
  unfold f_X11_lookName
  repeat' first | with_reducible exact Kf_none _ | with_reducible refine Kf_gd ?_ | with_reducible refine Kf_ite ?_ ?_ | with_reducible refine Kf_bind ?_ (fun q => ?_) | with_reducible refine Kf_some ?_ | with_reducible exact Kp_refl _ | refine Kp_uI rfl ?_ | refine Kp_uJ rfl ?_ | with_reducible refine Kf_of ((f_X11_note_k _ _ _)) ?_ | with_reducible refine Kf_of ((f_X11_typeOf_k _ _ _)) ?_ | with_reducible refine Kf_of ((f_X11_find_k _ _ _)) ?_
set_option maxHeartbeats 4000000 in
set_option maxRecDepth 100000 in
theorem f_X11_partOf_L3_k (fu : Nat) : ∀ (nf : Nat) (y0 : Int32) (y1 : Int64) (y2 : Int32) (S : im_S), Kf kR kT (f_X11_partOf_L3 fu nf y0 y1 y2 S) S := by
  intro nf
  induction nf with
  | zero => intro y0 y1 y2 S; exact Kf_none _
  | succ nf ih =>
    intro y0 y1 y2 S
    unfold f_X11_partOf_L3
    repeat' first | with_reducible exact Kf_none _ | with_reducible refine Kf_gd ?_ | with_reducible refine Kf_ite ?_ ?_ | with_reducible refine Kf_bind ?_ (fun q => ?_) | with_reducible refine Kf_some ?_ | with_reducible exact Kp_refl _ | refine Kp_uI rfl ?_ | refine Kp_uJ rfl ?_ | with_reducible refine Kf_of (ih _ _ _ _) ?_ | with_reducible exact ih
set_option maxHeartbeats 4000000 in
set_option maxRecDepth 100000 in
theorem f_X11_partOf_k (fu : Nat) (x1 : Int32) (x2 : Int64) (S : im_S) : Kf kR kT (f_X11_partOf fu x1 x2 S) S := by
  unfold f_X11_partOf
  repeat' first | with_reducible exact Kf_none _ | with_reducible refine Kf_gd ?_ | with_reducible refine Kf_ite ?_ ?_ | with_reducible refine Kf_bind ?_ (fun q => ?_) | with_reducible refine Kf_some ?_ | with_reducible exact Kp_refl _ | refine Kp_uI rfl ?_ | refine Kp_uJ rfl ?_ | with_reducible refine Kf_of ((f_X11_partOf_L3_k _ _ _ _ _ _)) ?_
set_option maxHeartbeats 4000000 in
set_option maxRecDepth 100000 in
theorem f_X11_addRegion_k (x1 : Int32) (S : im_S) : Kf kR kT (f_X11_addRegion x1 S) S := by
  unfold f_X11_addRegion
  repeat' first | with_reducible exact Kf_none _ | with_reducible refine Kf_gd ?_ | with_reducible refine Kf_ite ?_ ?_ | with_reducible refine Kf_bind ?_ (fun q => ?_) | with_reducible refine Kf_some ?_ | with_reducible exact Kp_refl _ | refine Kp_uI rfl ?_ | refine Kp_uJ rfl ?_
set_option maxHeartbeats 4000000 in
set_option maxRecDepth 100000 in
theorem f_X11_fault_k (x1 : Int32) (S : im_S) : Kf kR kT (f_X11_fault x1 S) S := by
  unfold f_X11_fault
  repeat' first | with_reducible exact Kf_none _ | with_reducible refine Kf_gd ?_ | with_reducible refine Kf_ite ?_ ?_ | with_reducible refine Kf_bind ?_ (fun q => ?_) | with_reducible refine Kf_some ?_ | with_reducible exact Kp_refl _ | refine Kp_uI rfl ?_ | refine Kp_uJ rfl ?_
set_option maxHeartbeats 4000000 in
set_option maxRecDepth 100000 in
theorem f_X11_enter_L79_k (fu : Nat) : ∀ (nf : Nat) (y0 : Int32) (y1 : Int32) (y2 : Int32) (y3 : Int32) (y4 : Int32) (y5 : Int32) (S : im_S), Kf kR kT (f_X11_enter_L79 fu nf y0 y1 y2 y3 y4 y5 S) S := by
  intro nf
  induction nf with
  | zero => intro y0 y1 y2 y3 y4 y5 S; exact Kf_none _
  | succ nf ih =>
    intro y0 y1 y2 y3 y4 y5 S
    unfold f_X11_enter_L79
    repeat' first | with_reducible exact Kf_none _ | with_reducible refine Kf_gd ?_ | with_reducible refine Kf_ite ?_ ?_ | with_reducible refine Kf_bind ?_ (fun q => ?_) | with_reducible refine Kf_some ?_ | with_reducible exact Kp_refl _ | refine Kp_uI rfl ?_ | refine Kp_uJ rfl ?_ | with_reducible refine Kf_of (ih _ _ _ _ _ _ _) ?_ | with_reducible exact ih
set_option maxHeartbeats 4000000 in
set_option maxRecDepth 100000 in
theorem f_X11_enter_k (fu : Nat) (x1 : Int32) (x2 : Int32) (x3 : Int32) (x4 : Int32) (S : im_S) : Kf kR kT (f_X11_enter fu x1 x2 x3 x4 S) S := by
  unfold f_X11_enter
  repeat' first | with_reducible exact Kf_none _ | with_reducible refine Kf_gd ?_ | with_reducible refine Kf_ite ?_ ?_ | with_reducible refine Kf_bind ?_ (fun q => ?_) | with_reducible refine Kf_some ?_ | with_reducible exact Kp_refl _ | refine Kp_uI rfl ?_ | refine Kp_uJ rfl ?_ | with_reducible refine Kf_of ((f_X11_enter_L79_k _ _ _ _ _ _ _ _ _)) ?_
set_option maxHeartbeats 4000000 in
set_option maxRecDepth 100000 in
theorem f_X11_slot_k (x1 : Int32) (x2 : Int32) (S : im_S) : Kf kR kT (f_X11_slot x1 x2 S) S := by
  unfold f_X11_slot
  repeat' first | with_reducible exact Kf_none _ | with_reducible refine Kf_gd ?_ | with_reducible refine Kf_ite ?_ ?_ | with_reducible refine Kf_bind ?_ (fun q => ?_) | with_reducible refine Kf_some ?_ | with_reducible exact Kp_refl _ | refine Kp_uI rfl ?_ | refine Kp_uJ rfl ?_
set_option maxHeartbeats 4000000 in
set_option maxRecDepth 100000 in
theorem f_X11_foundAt_k (x1 : Int32) (S : im_S) : Kf kR kT (f_X11_foundAt x1 S) S := by
  unfold f_X11_foundAt
  repeat' first | with_reducible exact Kf_none _ | with_reducible refine Kf_gd ?_ | with_reducible refine Kf_ite ?_ ?_ | with_reducible refine Kf_bind ?_ (fun q => ?_) | with_reducible refine Kf_some ?_ | with_reducible exact Kp_refl _ | refine Kp_uI rfl ?_ | refine Kp_uJ rfl ?_
set_option maxHeartbeats 4000000 in
set_option maxRecDepth 100000 in
theorem f_X11_around_L2_k (fu : Nat) : ∀ (nf : Nat) (y0 : Int32) (y1 : Int32) (y2 : Int32) (S : im_S), Kf kR kT (f_X11_around_L2 fu nf y0 y1 y2 S) S := by
  intro nf
  induction nf with
  | zero => intro y0 y1 y2 S; exact Kf_none _
  | succ nf ih =>
    intro y0 y1 y2 S
    unfold f_X11_around_L2
    repeat' first | with_reducible exact Kf_none _ | with_reducible refine Kf_gd ?_ | with_reducible refine Kf_ite ?_ ?_ | with_reducible refine Kf_bind ?_ (fun q => ?_) | with_reducible refine Kf_some ?_ | with_reducible exact Kp_refl _ | refine Kp_uI rfl ?_ | refine Kp_uJ rfl ?_ | with_reducible refine Kf_of (ih _ _ _ _) ?_ | with_reducible exact ih
set_option maxHeartbeats 4000000 in
set_option maxRecDepth 100000 in
theorem f_X11_around_k (fu : Nat) (x1 : Int32) (x2 : Int32) (S : im_S) : Kf kR kT (f_X11_around fu x1 x2 S) S := by
  unfold f_X11_around
  repeat' first | with_reducible exact Kf_none _ | with_reducible refine Kf_gd ?_ | with_reducible refine Kf_ite ?_ ?_ | with_reducible refine Kf_bind ?_ (fun q => ?_) | with_reducible refine Kf_some ?_ | with_reducible exact Kp_refl _ | refine Kp_uI rfl ?_ | refine Kp_uJ rfl ?_ | with_reducible refine Kf_of ((f_X11_around_L2_k _ _ _ _ _ _)) ?_
set_option maxHeartbeats 4000000 in
set_option maxRecDepth 100000 in
theorem f_X11_loopName_L17_k (fu : Nat) (K3 : Int32 → Int32 → Int32 → Int32 → im_S → Option (Unit × im_S)) (hK3 : ∀ (a0 : Int32) (a1 : Int32) (a2 : Int32) (a3 : Int32) (S : im_S), Kf kR kT (K3 a0 a1 a2 a3 S) S) : ∀ (nf : Nat) (y0 : Int32) (y1 : Int32) (y2 : Int32) (y3 : Int32) (y4 : Int32) (S : im_S), Kf kR kT (f_X11_loopName_L17 fu K3 nf y0 y1 y2 y3 y4 S) S := by
  intro nf
  induction nf with
  | zero => intro y0 y1 y2 y3 y4 S; exact Kf_none _
  | succ nf ih =>
    intro y0 y1 y2 y3 y4 S
    unfold f_X11_loopName_L17
    repeat' first | with_reducible exact Kf_none _ | with_reducible refine Kf_gd ?_ | with_reducible refine Kf_ite ?_ ?_ | with_reducible refine Kf_bind ?_ (fun q => ?_) | with_reducible refine Kf_some ?_ | with_reducible exact Kp_refl _ | refine Kp_uI rfl ?_ | refine Kp_uJ rfl ?_ | with_reducible refine Kf_of ((f_X11_partOf_k _ _ _ _)) ?_ | with_reducible refine Kf_of ((f_X11_slot_k _ _ _)) ?_ | with_reducible refine Kf_of ((f_X11_foundAt_k _ _)) ?_ | with_reducible refine Kf_of (hK3 _ _ _ _ _) ?_ | with_reducible exact hK3 | with_reducible refine Kf_of (ih _ _ _ _ _ _) ?_ | with_reducible exact ih
set_option maxHeartbeats 4000000 in
set_option maxRecDepth 100000 in
theorem f_X11_loopName_L3_k (fu : Nat) : ∀ (nf : Nat) (y0 : Int32) (y1 : Int32) (y2 : Int32) (y3 : Int32) (S : im_S), Kf kR kT (f_X11_loopName_L3 fu nf y0 y1 y2 y3 S) S := by
  intro nf
  induction nf with
  | zero => intro y0 y1 y2 y3 S; exact Kf_none _
  | succ nf ih =>
    intro y0 y1 y2 y3 S
    unfold f_X11_loopName_L3
    repeat' first | with_reducible exact Kf_none _ | with_reducible refine Kf_gd ?_ | with_reducible refine Kf_ite ?_ ?_ | with_reducible refine Kf_bind ?_ (fun q => ?_) | with_reducible refine Kf_some ?_ | with_reducible exact Kp_refl _ | refine Kp_uI rfl ?_ | refine Kp_uJ rfl ?_ | with_reducible refine Kf_of ((f_X11_slot_k _ _ _)) ?_ | with_reducible refine Kf_of ((f_X11_foundAt_k _ _)) ?_ | with_reducible refine Kf_of (f_X11_loopName_L17_k _ _ ?_ _ _ _ _ _ _ _) ?_ | with_reducible refine Kf_of (ih _ _ _ _ _) ?_ | with_reducible exact ih
set_option maxHeartbeats 4000000 in
set_option maxRecDepth 100000 in
theorem f_X11_loopName_k (fu : Nat) (x1 : Int32) (x2 : Int32) (x3 : Int32) (S : im_S) : Kf kR kT (f_X11_loopName fu x1 x2 x3 S) S := by
  unfold f_X11_loopName
  repeat' first | with_reducible exact Kf_none _ | with_reducible refine Kf_gd ?_ | with_reducible refine Kf_ite ?_ ?_ | with_reducible refine Kf_bind ?_ (fun q => ?_) | with_reducible refine Kf_some ?_ | with_reducible exact Kp_refl _ | refine Kp_uI rfl ?_ | refine Kp_uJ rfl ?_ | with_reducible refine Kf_of ((f_X11_loopName_L3_k _ _ _ _ _ _ _)) ?_
set_option maxHeartbeats 4000000 in
set_option maxRecDepth 100000 in
theorem f_X11_give_k (x1 : Int32) (x2 : Int32) (x3 : Int64) (S : im_S) : Kf kR kT (f_X11_give x1 x2 x3 S) S := by
  unfold f_X11_give
  repeat' first | with_reducible exact Kf_none _ | with_reducible refine Kf_gd ?_ | with_reducible refine Kf_ite ?_ ?_ | with_reducible refine Kf_bind ?_ (fun q => ?_) | with_reducible refine Kf_some ?_ | with_reducible exact Kp_refl _ | refine Kp_uI rfl ?_ | refine Kp_uJ rfl ?_
set_option maxHeartbeats 4000000 in
set_option maxRecDepth 100000 in
theorem f_X11_pass_k (x1 : Int32) (x2 : Int32) (S : im_S) : Kf kR kT (f_X11_pass x1 x2 S) S := by
  unfold f_X11_pass
  repeat' first | with_reducible exact Kf_none _ | with_reducible refine Kf_gd ?_ | with_reducible refine Kf_ite ?_ ?_ | with_reducible refine Kf_bind ?_ (fun q => ?_) | with_reducible refine Kf_some ?_ | with_reducible exact Kp_refl _ | refine Kp_uI rfl ?_ | refine Kp_uJ rfl ?_ | with_reducible refine Kf_of ((f_X11_give_k _ _ _ _)) ?_
set_option maxHeartbeats 4000000 in
set_option maxRecDepth 100000 in
theorem f_X11_event_k (x1 : Int32) (x2 : Int32) (x3 : Int64) (S : im_S) : Kf kR kT (f_X11_event x1 x2 x3 S) S := by
  unfold f_X11_event
  repeat' first | with_reducible exact Kf_none _ | with_reducible refine Kf_gd ?_ | with_reducible refine Kf_ite ?_ ?_ | with_reducible refine Kf_bind ?_ (fun q => ?_) | with_reducible refine Kf_some ?_ | with_reducible exact Kp_refl _ | refine Kp_uI rfl ?_ | refine Kp_uJ rfl ?_ | with_reducible refine Kf_of ((f_X11_give_k _ _ _ _)) ?_
set_option maxHeartbeats 4000000 in
set_option maxRecDepth 100000 in
theorem f_X11_rootSlot_k (x1 : Int32) (S : im_S) : Kf kR kT (f_X11_rootSlot x1 S) S := by
  unfold f_X11_rootSlot
  repeat' first | with_reducible exact Kf_none _ | with_reducible refine Kf_gd ?_ | with_reducible refine Kf_ite ?_ ?_ | with_reducible refine Kf_bind ?_ (fun q => ?_) | with_reducible refine Kf_some ?_ | with_reducible exact Kp_refl _ | refine Kp_uI rfl ?_ | refine Kp_uJ rfl ?_ | with_reducible refine Kf_of ((f_X11_slot_k _ _ _)) ?_
set_option maxHeartbeats 4000000 in
set_option maxRecDepth 100000 in
theorem f_X11_call_k (fu : Nat) (x1 : Int32) (x2 : Int32) (x3 : Int32) (S : im_S) : Kf kR kT (f_X11_call fu x1 x2 x3 S) S := by
  unfold f_X11_call
  repeat' first | with_reducible exact Kf_none _ | with_reducible refine Kf_gd ?_ | with_reducible refine Kf_ite ?_ ?_ | with_reducible refine Kf_bind ?_ (fun q => ?_) | with_reducible refine Kf_some ?_ | with_reducible exact Kp_refl _ | refine Kp_uI rfl ?_ | refine Kp_uJ rfl ?_ | with_reducible refine Kf_of ((f_X11_enter_k _ _ _ _ _ _)) ?_ | with_reducible refine Kf_of ((f_X11_pass_k _ _ _)) ?_ | with_reducible refine Kf_of ((f_X11_rootSlot_k _ _)) ?_
set_option maxHeartbeats 4000000 in
set_option maxRecDepth 100000 in
theorem f_X11_branch_k (fu : Nat) (x1 : Int32) (x2 : Int32) (x3 : Int32) (S : im_S) : Kf kR kT (f_X11_branch fu x1 x2 x3 S) S := by
  unfold f_X11_branch
  repeat' first | with_reducible exact Kf_none _ | with_reducible refine Kf_gd ?_ | with_reducible refine Kf_ite ?_ ?_ | with_reducible refine Kf_bind ?_ (fun q => ?_) | with_reducible refine Kf_some ?_ | with_reducible exact Kp_refl _ | refine Kp_uI rfl ?_ | refine Kp_uJ rfl ?_ | with_reducible refine Kf_of ((f_X11_enter_k _ _ _ _ _ _)) ?_ | with_reducible refine Kf_of ((f_X11_slot_k _ _ _)) ?_ | with_reducible refine Kf_of ((f_X11_pass_k _ _ _)) ?_ | with_reducible refine Kf_of ((f_X11_event_k _ _ _ _)) ?_ | with_reducible refine Kf_of ((f_X11_rootSlot_k _ _)) ?_
set_option maxHeartbeats 4000000 in
set_option maxRecDepth 100000 in
theorem f_X11_round_k (fu : Nat) (x1 : Int32) (x2 : Int32) (x3 : Int32) (S : im_S) : Kf kR kT (f_X11_round fu x1 x2 x3 S) S := by
  unfold f_X11_round
  repeat' first | with_reducible exact Kf_none _ | with_reducible refine Kf_gd ?_ | with_reducible refine Kf_ite ?_ ?_ | with_reducible refine Kf_bind ?_ (fun q => ?_) | with_reducible refine Kf_some ?_ | with_reducible exact Kp_refl _ | refine Kp_uI rfl ?_ | refine Kp_uJ rfl ?_ | with_reducible refine Kf_of ((f_X11_enter_k _ _ _ _ _ _)) ?_ | with_reducible refine Kf_of ((f_X11_pass_k _ _ _)) ?_ | with_reducible refine Kf_of ((f_X11_event_k _ _ _ _)) ?_ | with_reducible refine Kf_of ((f_X11_rootSlot_k _ _)) ?_
set_option maxHeartbeats 4000000 in
set_option maxRecDepth 100000 in
theorem f_X11_ahead_k (x1 : Int32) (x2 : Int32) (x3 : Int32) (S : im_S) : Kf kR kT (f_X11_ahead x1 x2 x3 S) S := by
  unfold f_X11_ahead
  repeat' first | with_reducible exact Kf_none _ | with_reducible refine Kf_gd ?_ | with_reducible refine Kf_ite ?_ ?_ | with_reducible refine Kf_bind ?_ (fun q => ?_) | with_reducible refine Kf_some ?_ | with_reducible exact Kp_refl _ | refine Kp_uI rfl ?_ | refine Kp_uJ rfl ?_ | with_reducible refine Kf_of ((f_X11_event_k _ _ _ _)) ?_
set_option maxHeartbeats 4000000 in
set_option maxRecDepth 100000 in
theorem f_X11_errorOf_k (x1 : Int32) (x2 : Int32) (S : im_S) : Kf kR kT (f_X11_errorOf x1 x2 S) S := by
  unfold f_X11_errorOf
  repeat' first | with_reducible exact Kf_none _ | with_reducible refine Kf_gd ?_ | with_reducible refine Kf_ite ?_ ?_ | with_reducible refine Kf_bind ?_ (fun q => ?_) | with_reducible refine Kf_some ?_ | with_reducible exact Kp_refl _ | refine Kp_uI rfl ?_ | refine Kp_uJ rfl ?_
set_option maxHeartbeats 4000000 in
set_option maxRecDepth 100000 in
theorem f_X11_both_k (x1 : Int32) (x2 : Int32) (x3 : Int32) (x4 : Int32) (S : im_S) : Kf kR kT (f_X11_both x1 x2 x3 x4 S) S := by
  unfold f_X11_both
  repeat' first | with_reducible exact Kf_none _ | with_reducible refine Kf_gd ?_ | with_reducible refine Kf_ite ?_ ?_ | with_reducible refine Kf_bind ?_ (fun q => ?_) | with_reducible refine Kf_some ?_ | with_reducible exact Kp_refl _ | refine Kp_uI rfl ?_ | refine Kp_uJ rfl ?_ | with_reducible refine Kf_of ((f_X11_event_k _ _ _ _)) ?_ | with_reducible refine Kf_of ((f_X11_errorOf_k _ _ _)) ?_
set_option maxHeartbeats 4000000 in
set_option maxRecDepth 100000 in
theorem f_X11_cellOf_k (x1 : Int32) (x2 : Int32) (x3 : Int32) (S : im_S) : Kf kR kT (f_X11_cellOf x1 x2 x3 S) S := by
  unfold f_X11_cellOf
  repeat' first | with_reducible exact Kf_none _ | with_reducible refine Kf_gd ?_ | with_reducible refine Kf_ite ?_ ?_ | with_reducible refine Kf_bind ?_ (fun q => ?_) | with_reducible refine Kf_some ?_ | with_reducible exact Kp_refl _ | refine Kp_uI rfl ?_ | refine Kp_uJ rfl ?_ | with_reducible refine Kf_of ((f_X11_event_k _ _ _ _)) ?_ | with_reducible refine Kf_of ((f_X11_rootSlot_k _ _)) ?_ | with_reducible refine Kf_of ((f_X11_errorOf_k _ _ _)) ?_
set_option maxHeartbeats 4000000 in
set_option maxRecDepth 100000 in
theorem f_X11_table_L110_k (fu : Nat) : ∀ (nf : Nat) (y0 : Int32) (y1 : Int32) (y2 : Int32) (y3 : Int32) (y4 : Int32) (y5 : Int32) (S : im_S), Kf kR kT (f_X11_table_L110 fu nf y0 y1 y2 y3 y4 y5 S) S := by
  intro nf
  induction nf with
  | zero => intro y0 y1 y2 y3 y4 y5 S; exact Kf_none _
  | succ nf ih =>
    intro y0 y1 y2 y3 y4 y5 S
    unfold f_X11_table_L110
    repeat' first | with_reducible exact Kf_none _ | with_reducible refine Kf_gd ?_ | with_reducible refine Kf_ite ?_ ?_ | with_reducible refine Kf_bind ?_ (fun q => ?_) | with_reducible refine Kf_some ?_ | with_reducible exact Kp_refl _ | refine Kp_uI rfl ?_ | refine Kp_uJ rfl ?_ | with_reducible refine Kf_of ((f_X11_enter_k _ _ _ _ _ _)) ?_ | with_reducible refine Kf_of ((f_X11_event_k _ _ _ _)) ?_ | with_reducible refine Kf_of (ih _ _ _ _ _ _ _) ?_ | with_reducible exact ih
set_option maxHeartbeats 4000000 in
set_option maxRecDepth 100000 in
theorem f_X11_table_k (fu : Nat) (x1 : Int32) (x2 : Int32) (x3 : Int32) (x4 : Int32) (S : im_S) : Kf kR kT (f_X11_table fu x1 x2 x3 x4 S) S := by
  unfold f_X11_table
  repeat' first | with_reducible exact Kf_none _ | with_reducible refine Kf_gd ?_ | with_reducible refine Kf_ite ?_ ?_ | with_reducible refine Kf_bind ?_ (fun q => ?_) | with_reducible refine Kf_some ?_ | with_reducible exact Kp_refl _ | refine Kp_uI rfl ?_ | refine Kp_uJ rfl ?_ | with_reducible refine Kf_of ((f_X11_event_k _ _ _ _)) ?_ | with_reducible refine Kf_of ((f_X11_table_L110_k _ _ _ _ _ _ _ _ _)) ?_
set_option maxHeartbeats 4000000 in
set_option maxRecDepth 100000 in
theorem f_X11_limit_k (S : im_S) : Kf kR kT (f_X11_limit S) S := by
  unfold f_X11_limit
  repeat' first | with_reducible exact Kf_none _ | with_reducible refine Kf_gd ?_ | with_reducible refine Kf_ite ?_ ?_ | with_reducible refine Kf_bind ?_ (fun q => ?_) | with_reducible refine Kf_some ?_ | with_reducible exact Kp_refl _ | refine Kp_uI rfl ?_ | refine Kp_uJ rfl ?_
set_option maxHeartbeats 4000000 in
set_option maxRecDepth 100000 in
theorem f_X11_stateOf_k (S : im_S) : Kf kR kT (f_X11_stateOf S) S := by
  unfold f_X11_stateOf
  repeat' first | with_reducible exact Kf_none _ | with_reducible refine Kf_gd ?_ | with_reducible refine Kf_ite ?_ ?_ | with_reducible refine Kf_bind ?_ (fun q => ?_) | with_reducible refine Kf_some ?_ | with_reducible exact Kp_refl _ | refine Kp_uI rfl ?_ | refine Kp_uJ rfl ?_ | with_reducible refine Kf_of ((f_X11_rootSlot_k _ _)) ?_ | with_reducible refine Kf_of ((f_X11_limit_k _)) ?_
set_option maxHeartbeats 4000000 in
set_option maxRecDepth 100000 in
theorem f_X11_state_k (S : im_S) : Kf kR kT (f_X11_state S) S := by
  unfold f_X11_state
  repeat' first | with_reducible exact Kf_none _ | with_reducible refine Kf_gd ?_ | with_reducible refine Kf_ite ?_ ?_ | with_reducible refine Kf_bind ?_ (fun q => ?_) | with_reducible refine Kf_some ?_ | with_reducible exact Kp_refl _ | refine Kp_uI rfl ?_ | refine Kp_uJ rfl ?_ | with_reducible refine Kf_of ((f_X11_stateOf_k _)) ?_
set_option maxHeartbeats 4000000 in
set_option maxRecDepth 100000 in
theorem f_X11_kind_k (S : im_S) : Kf kR kT (f_X11_kind S) S := by
  unfold f_X11_kind
  repeat' first | with_reducible exact Kf_none _ | with_reducible refine Kf_gd ?_ | with_reducible refine Kf_ite ?_ ?_ | with_reducible refine Kf_bind ?_ (fun q => ?_) | with_reducible refine Kf_some ?_ | with_reducible exact Kp_refl _ | refine Kp_uI rfl ?_ | refine Kp_uJ rfl ?_ | with_reducible refine Kf_of ((f_X11_rootSlot_k _ _)) ?_ | with_reducible refine Kf_of ((f_X11_stateOf_k _)) ?_
set_option maxHeartbeats 4000000 in
set_option maxRecDepth 100000 in
theorem f_X11_value_k (S : im_S) : Kf kR kT (f_X11_value S) S := by
  unfold f_X11_value
  repeat' first | with_reducible exact Kf_none _ | with_reducible refine Kf_gd ?_ | with_reducible refine Kf_ite ?_ ?_ | with_reducible refine Kf_bind ?_ (fun q => ?_) | with_reducible refine Kf_some ?_ | with_reducible exact Kp_refl _ | refine Kp_uI rfl ?_ | refine Kp_uJ rfl ?_ | with_reducible refine Kf_of ((f_X11_rootSlot_k _ _)) ?_ | with_reducible refine Kf_of ((f_X11_stateOf_k _)) ?_
set_option maxHeartbeats 4000000 in
set_option maxRecDepth 100000 in
theorem f_X11_cell_k (x1 : Int32) (x2 : Int32) (S : im_S) : Kf kR kT (f_X11_cell x1 x2 S) S := by
  unfold f_X11_cell
  repeat' first | with_reducible exact Kf_none _ | with_reducible refine Kf_gd ?_ | with_reducible refine Kf_ite ?_ ?_ | with_reducible refine Kf_bind ?_ (fun q => ?_) | with_reducible refine Kf_some ?_ | with_reducible exact Kp_refl _ | refine Kp_uI rfl ?_ | refine Kp_uJ rfl ?_ | with_reducible refine Kf_of ((f_X11_rootSlot_k _ _)) ?_ | with_reducible refine Kf_of ((f_X11_stateOf_k _)) ?_
set_option maxHeartbeats 4000000 in
set_option maxRecDepth 100000 in
theorem f_X11_count_k (x1 : Int32) (S : im_S) : Kf kR kT (f_X11_count x1 S) S := by
  unfold f_X11_count
  repeat' first | with_reducible exact Kf_none _ | with_reducible refine Kf_gd ?_ | with_reducible refine Kf_ite ?_ ?_ | with_reducible refine Kf_bind ?_ (fun q => ?_) | with_reducible refine Kf_some ?_ | with_reducible exact Kp_refl _ | refine Kp_uI rfl ?_ | refine Kp_uJ rfl ?_
set_option maxHeartbeats 4000000 in
set_option maxRecDepth 100000 in
theorem f_X11_tokenize_L9_k (fu : Nat) : ∀ (nf : Nat) (y0 : Int32) (y1 : Int32) (S : im_S), Kf kR kT (f_X11_tokenize_L9 fu nf y0 y1 S) S := by
  intro nf
  induction nf with
  | zero => intro y0 y1 S; exact Kf_none _
  | succ nf ih =>
    intro y0 y1 S
    unfold f_X11_tokenize_L9
    repeat' first | with_reducible exact Kf_none _ | with_reducible refine Kf_gd ?_ | with_reducible refine Kf_ite ?_ ?_ | with_reducible refine Kf_bind ?_ (fun q => ?_) | with_reducible refine Kf_some ?_ | with_reducible exact Kp_refl _ | refine Kp_uI rfl ?_ | refine Kp_uJ rfl ?_ | with_reducible refine Kf_of ((f_X11_character_k _ _)) ?_ | with_reducible refine Kf_of ((f_X11_token_k _ _ _ _ _)) ?_ | with_reducible refine Kf_of ((f_X11_oneToken_k _ _ _)) ?_ | with_reducible refine Kf_of (ih _ _ _) ?_ | with_reducible exact ih
set_option maxHeartbeats 4000000 in
set_option maxRecDepth 100000 in
theorem f_X11_tokenize_k (fu : Nat) (S : im_S) : Kf kR kT (f_X11_tokenize fu S) S := by
  unfold f_X11_tokenize
  repeat' first | with_reducible exact Kf_none _ | with_reducible refine Kf_gd ?_ | with_reducible refine Kf_ite ?_ ?_ | with_reducible refine Kf_bind ?_ (fun q => ?_) | with_reducible refine Kf_some ?_ | with_reducible exact Kp_refl _ | refine Kp_uI rfl ?_ | refine Kp_uJ rfl ?_ | with_reducible refine Kf_of ((f_X11_tokenize_L9_k _ _ _ _ _)) ?_
set_option maxHeartbeats 4000000 in
set_option maxRecDepth 100000 in
theorem f_X11_name_k (fu : Nat) (x1 : Int32) (x2 : Int32) (S : im_S) : Kf kR kT (f_X11_name fu x1 x2 S) S := by
  unfold f_X11_name
  repeat' first | with_reducible exact Kf_none _ | with_reducible refine Kf_gd ?_ | with_reducible refine Kf_ite ?_ ?_ | with_reducible refine Kf_bind ?_ (fun q => ?_) | with_reducible refine Kf_some ?_ | with_reducible exact Kp_refl _ | refine Kp_uI rfl ?_ | refine Kp_uJ rfl ?_ | with_reducible refine Kf_of ((f_X11_slot_k _ _ _)) ?_ | with_reducible refine Kf_of ((f_X11_foundAt_k _ _)) ?_ | with_reducible refine Kf_of ((f_X11_around_k _ _ _ _)) ?_ | with_reducible refine Kf_of ((f_X11_loopName_k _ _ _ _ _)) ?_
set_option maxHeartbeats 4000000 in
set_option maxRecDepth 100000 in
theorem f_X11_step_k (fu : Nat) (x1 : Int32) (x2 : Int32) (S : im_S) : Kf kR kT (f_X11_step fu x1 x2 S) S := by
  unfold f_X11_step
  repeat' first | with_reducible exact Kf_none _ | with_reducible refine Kf_gd ?_ | with_reducible refine Kf_ite ?_ ?_ | with_reducible refine Kf_bind ?_ (fun q => ?_) | with_reducible refine Kf_some ?_ | with_reducible exact Kp_refl _ | refine Kp_uI rfl ?_ | refine Kp_uJ rfl ?_ | with_reducible refine Kf_of ((f_X11_slot_k _ _ _)) ?_ | with_reducible refine Kf_of ((f_X11_give_k _ _ _ _)) ?_ | with_reducible refine Kf_of ((f_X11_pass_k _ _ _)) ?_ | with_reducible refine Kf_of ((f_X11_call_k _ _ _ _ _)) ?_ | with_reducible refine Kf_of ((f_X11_branch_k _ _ _ _ _)) ?_ | with_reducible refine Kf_of ((f_X11_round_k _ _ _ _ _)) ?_ | with_reducible refine Kf_of ((f_X11_ahead_k _ _ _ _)) ?_ | with_reducible refine Kf_of ((f_X11_both_k _ _ _ _ _)) ?_ | with_reducible refine Kf_of ((f_X11_cellOf_k _ _ _ _)) ?_ | with_reducible refine Kf_of ((f_X11_table_k _ _ _ _ _ _)) ?_ | with_reducible refine Kf_of ((f_X11_name_k _ _ _ _)) ?_
set_option maxHeartbeats 4000000 in
set_option maxRecDepth 100000 in
theorem f_X11_sweep_L14_k (fu : Nat) : ∀ (nf : Nat) (y0 : Int32) (y1 : Int32) (y2 : Int32) (S : im_S), Kf kR kT (f_X11_sweep_L14 fu nf y0 y1 y2 S) S := by
  intro nf
  induction nf with
  | zero => intro y0 y1 y2 S; exact Kf_none _
  | succ nf ih =>
    intro y0 y1 y2 S
    unfold f_X11_sweep_L14
    repeat' first | with_reducible exact Kf_none _ | with_reducible refine Kf_gd ?_ | with_reducible refine Kf_ite ?_ ?_ | with_reducible refine Kf_bind ?_ (fun q => ?_) | with_reducible refine Kf_some ?_ | with_reducible exact Kp_refl _ | refine Kp_uI rfl ?_ | refine Kp_uJ rfl ?_ | with_reducible refine Kf_of ((f_X11_slot_k _ _ _)) ?_ | with_reducible refine Kf_of ((f_X11_step_k _ _ _ _)) ?_ | with_reducible refine Kf_of (ih _ _ _ _) ?_ | with_reducible exact ih
set_option maxHeartbeats 4000000 in
set_option maxRecDepth 100000 in
theorem f_X11_sweep_k (fu : Nat) (x1 : Int32) (S : im_S) : Kf kR kT (f_X11_sweep fu x1 S) S := by
  unfold f_X11_sweep
  repeat' first | with_reducible exact Kf_none _ | with_reducible refine Kf_gd ?_ | with_reducible refine Kf_ite ?_ ?_ | with_reducible refine Kf_bind ?_ (fun q => ?_) | with_reducible refine Kf_some ?_ | with_reducible exact Kp_refl _ | refine Kp_uI rfl ?_ | refine Kp_uJ rfl ?_ | with_reducible refine Kf_of ((f_X11_sweep_L14_k _ _ _ _ _ _)) ?_
set_option maxHeartbeats 4000000 in
set_option maxRecDepth 100000 in
theorem f_X11_happen_L20_k (fu : Nat) (K2 : Int32 → im_S → Option (Unit × im_S)) (hK2 : ∀ (a0 : Int32) (S : im_S), Kf kR kT (K2 a0 S) S) : ∀ (nf : Nat) (y0 : Int32) (y1 : Int32) (S : im_S), Kf kR kT (f_X11_happen_L20 fu K2 nf y0 y1 S) S := by
  intro nf
  induction nf with
  | zero => intro y0 y1 S; exact Kf_none _
  | succ nf ih =>
    intro y0 y1 S
    unfold f_X11_happen_L20
    repeat' first | with_reducible exact Kf_none _ | with_reducible refine Kf_gd ?_ | with_reducible refine Kf_ite ?_ ?_ | with_reducible refine Kf_bind ?_ (fun q => ?_) | with_reducible refine Kf_some ?_ | with_reducible exact Kp_refl _ | refine Kp_uI rfl ?_ | refine Kp_uJ rfl ?_ | with_reducible refine Kf_of ((f_X11_sweep_k _ _ _)) ?_ | with_reducible refine Kf_of (hK2 _ _) ?_ | with_reducible exact hK2 | with_reducible refine Kf_of (ih _ _ _) ?_ | with_reducible exact ih
set_option maxHeartbeats 4000000 in
set_option maxRecDepth 100000 in
theorem f_X11_happen_L2_k (fu : Nat) : ∀ (nf : Nat) (y0 : Int32) (S : im_S), Kf kR kT (f_X11_happen_L2 fu nf y0 S) S := by
  intro nf
  induction nf with
  | zero => intro y0 S; exact Kf_none _
  | succ nf ih =>
    intro y0 S
    unfold f_X11_happen_L2
    repeat' first | with_reducible exact Kf_none _ | with_reducible refine Kf_gd ?_ | with_reducible refine Kf_ite ?_ ?_ | with_reducible refine Kf_bind ?_ (fun q => ?_) | with_reducible refine Kf_some ?_ | with_reducible exact Kp_refl _ | refine Kp_uI rfl ?_ | refine Kp_uJ rfl ?_ | with_reducible refine Kf_of (f_X11_happen_L20_k _ _ ?_ _ _ _ _) ?_ | with_reducible refine Kf_of (ih _ _) ?_ | with_reducible exact ih
set_option maxHeartbeats 4000000 in
set_option maxRecDepth 100000 in
theorem f_X11_happen_k (fu : Nat) (S : im_S) : Kf kR kT (f_X11_happen fu S) S := by
  unfold f_X11_happen
  repeat' first | with_reducible exact Kf_none _ | with_reducible refine Kf_gd ?_ | with_reducible refine Kf_ite ?_ ?_ | with_reducible refine Kf_bind ?_ (fun q => ?_) | with_reducible refine Kf_some ?_ | with_reducible exact Kp_refl _ | refine Kp_uI rfl ?_ | refine Kp_uJ rfl ?_ | with_reducible refine Kf_of ((f_X11_happen_L2_k _ _ _ _)) ?_
set_option maxHeartbeats 4000000 in
set_option maxRecDepth 100000 in
theorem f_X11_start_L33_k (fu : Nat) : ∀ (nf : Nat) (y0 : Int32) (y1 : Int64) (y2 : Int64) (y3 : Int64) (y4 : Int64) (y5 : Int32) (y6 : Int32) (S : im_S), Kf kR kT (f_X11_start_L33 fu nf y0 y1 y2 y3 y4 y5 y6 S) S := by
  intro nf
  induction nf with
  | zero => intro y0 y1 y2 y3 y4 y5 y6 S; exact Kf_none _
  | succ nf ih =>
    intro y0 y1 y2 y3 y4 y5 y6 S
    unfold f_X11_start_L33
    repeat' first | with_reducible exact Kf_none _ | with_reducible refine Kf_gd ?_ | with_reducible refine Kf_ite ?_ ?_ | with_reducible refine Kf_bind ?_ (fun q => ?_) | with_reducible refine Kf_some ?_ | with_reducible exact Kp_refl _ | refine Kp_uI rfl ?_ | refine Kp_uJ rfl ?_ | with_reducible refine Kf_of ((f_X11_typeOf_k _ _ _)) ?_ | with_reducible refine Kf_of ((f_X11_enter_k _ _ _ _ _ _)) ?_ | with_reducible refine Kf_of ((f_X11_happen_k _ _)) ?_ | with_reducible refine Kf_of (ih _ _ _ _ _ _ _ _) ?_ | with_reducible exact ih
set_option maxHeartbeats 4000000 in
set_option maxRecDepth 100000 in
theorem f_X11_start_k (fu : Nat) (x1 : Int32) (x2 : Int64) (x4 : Int64) (x6 : Int64) (x8 : Int64) (S : im_S) : Kf kR kT (f_X11_start fu x1 x2 x4 x6 x8 S) S := by
  unfold f_X11_start
  repeat' first | with_reducible exact Kf_none _ | with_reducible refine Kf_gd ?_ | with_reducible refine Kf_ite ?_ ?_ | with_reducible refine Kf_bind ?_ (fun q => ?_) | with_reducible refine Kf_some ?_ | with_reducible exact Kp_refl _ | refine Kp_uI rfl ?_ | refine Kp_uJ rfl ?_ | with_reducible refine Kf_of ((f_X11_start_L33_k _ _ _ _ _ _ _ _ _ _)) ?_
set_option maxHeartbeats 4000000 in
set_option maxRecDepth 100000 in
theorem f_X11_fire_k (x1 : Int32) (x2 : Int64) (S : im_S) : Kf kR kT (f_X11_fire x1 x2 S) S := by
  unfold f_X11_fire
  repeat' first | with_reducible exact Kf_none _ | with_reducible refine Kf_gd ?_ | with_reducible refine Kf_ite ?_ ?_ | with_reducible refine Kf_bind ?_ (fun q => ?_) | with_reducible refine Kf_some ?_ | with_reducible exact Kp_refl _ | refine Kp_uI rfl ?_ | refine Kp_uJ rfl ?_ | with_reducible refine Kf_of ((f_X11_raise_k _ _)) ?_ | with_reducible refine Kf_of ((f_X11_limit_k _)) ?_ | with_reducible refine Kf_of ((f_X11_stateOf_k _)) ?_
set_option maxHeartbeats 4000000 in
set_option maxRecDepth 100000 in
theorem f_X11_readX_k (K : Nat → Int32 → Int32 → im_S → Option (Int32 × im_S)) (fu : Nat) (S : im_S) (hK : ∀ (a0 : Nat) (a1 : Int32) (a2 : Int32) (S : im_S), Kf kR kT (K a0 a1 a2 S) S) : Kf kR kT (f_X11_readX K fu S) S := by
  unfold f_X11_readX
  repeat' first | with_reducible exact Kf_none _ | with_reducible refine Kf_gd ?_ | with_reducible refine Kf_ite ?_ ?_ | with_reducible refine Kf_bind ?_ (fun q => ?_) | with_reducible refine Kf_some ?_ | with_reducible exact Kp_refl _ | refine Kp_uI rfl ?_ | refine Kp_uJ rfl ?_ | with_reducible refine Kf_of ((f_X11_refuse_k _)) ?_ | with_reducible refine Kf_of ((f_X11_isWord_k _ _)) ?_ | with_reducible refine Kf_of (hK _ _ _ _) ?_ | with_reducible exact hK
set_option maxHeartbeats 4000000 in
set_option maxRecDepth 100000 in
theorem f_X11_readWithin_k (K : Nat → Int32 → Int32 → im_S → Option (Int32 × im_S)) (fu : Nat) (S : im_S) (hK : ∀ (a0 : Nat) (a1 : Int32) (a2 : Int32) (S : im_S), Kf kR kT (K a0 a1 a2 S) S) : Kf kR kT (f_X11_readWithin K fu S) S := by
  unfold f_X11_readWithin
  repeat' first | with_reducible exact Kf_none _ | with_reducible refine Kf_gd ?_ | with_reducible refine Kf_ite ?_ ?_ | with_reducible refine Kf_bind ?_ (fun q => ?_) | with_reducible refine Kf_some ?_ | with_reducible exact Kp_refl _ | refine Kp_uI rfl ?_ | refine Kp_uJ rfl ?_ | with_reducible refine Kf_of (hK _ _ _ _) ?_ | with_reducible exact hK
set_option maxHeartbeats 4000000 in
set_option maxRecDepth 100000 in
theorem f_X11_readLet_k (K : Nat → Int32 → Int32 → im_S → Option (Int32 × im_S)) (fu : Nat) (S : im_S) (hK : ∀ (a0 : Nat) (a1 : Int32) (a2 : Int32) (S : im_S), Kf kR kT (K a0 a1 a2 S) S) : Kf kR kT (f_X11_readLet K fu S) S := by
  unfold f_X11_readLet
  repeat' first | with_reducible exact Kf_none _ | with_reducible refine Kf_gd ?_ | with_reducible refine Kf_ite ?_ ?_ | with_reducible refine Kf_bind ?_ (fun q => ?_) | with_reducible refine Kf_some ?_ | with_reducible exact Kp_refl _ | refine Kp_uI rfl ?_ | refine Kp_uJ rfl ?_ | with_reducible refine Kf_of ((f_X11_isSign_k _ _)) ?_ | with_reducible refine Kf_of ((f_X11_isWord_k _ _)) ?_ | with_reducible refine Kf_of ((f_X11_want_k _ _)) ?_ | with_reducible refine Kf_of ((f_X11_wantName_k _)) ?_ | with_reducible refine Kf_of ((f_X11_make_k _ _ _)) ?_ | with_reducible refine Kf_of (hK _ _ _ _) ?_ | with_reducible exact hK
set_option maxHeartbeats 4000000 in
set_option maxRecDepth 100000 in
theorem f_X11_readIf_k (K : Nat → Int32 → Int32 → im_S → Option (Int32 × im_S)) (fu : Nat) (S : im_S) (hK : ∀ (a0 : Nat) (a1 : Int32) (a2 : Int32) (S : im_S), Kf kR kT (K a0 a1 a2 S) S) : Kf kR kT (f_X11_readIf K fu S) S := by
  unfold f_X11_readIf
  repeat' first | with_reducible exact Kf_none _ | with_reducible refine Kf_gd ?_ | with_reducible refine Kf_ite ?_ ?_ | with_reducible refine Kf_bind ?_ (fun q => ?_) | with_reducible refine Kf_some ?_ | with_reducible exact Kp_refl _ | refine Kp_uI rfl ?_ | refine Kp_uJ rfl ?_ | with_reducible refine Kf_of ((f_X11_isWord_k _ _)) ?_ | with_reducible refine Kf_of ((f_X11_want_k _ _)) ?_ | with_reducible refine Kf_of ((f_X11_make_k _ _ _)) ?_ | with_reducible refine Kf_of (hK _ _ _ _) ?_ | with_reducible exact hK
set_option maxHeartbeats 4000000 in
set_option maxRecDepth 100000 in
theorem f_X11_readBindings_L2_k (K : Nat → Int32 → Int32 → im_S → Option (Int32 × im_S)) (fu : Nat) (hK : ∀ (a0 : Nat) (a1 : Int32) (a2 : Int32) (S : im_S), Kf kR kT (K a0 a1 a2 S) S) : ∀ (nf : Nat) (y0 : Int32) (y1 : Int32) (S : im_S), Kf kR kT (f_X11_readBindings_L2 K fu nf y0 y1 S) S := by
  intro nf
  induction nf with
  | zero => intro y0 y1 S; exact Kf_none _
  | succ nf ih =>
    intro y0 y1 S
    unfold f_X11_readBindings_L2
    repeat' first | with_reducible exact Kf_none _ | with_reducible refine Kf_gd ?_ | with_reducible refine Kf_ite ?_ ?_ | with_reducible refine Kf_bind ?_ (fun q => ?_) | with_reducible refine Kf_some ?_ | with_reducible exact Kp_refl _ | refine Kp_uI rfl ?_ | refine Kp_uJ rfl ?_ | with_reducible refine Kf_of ((f_X11_refuse_k _)) ?_ | with_reducible refine Kf_of ((f_X11_isSign_k _ _)) ?_ | with_reducible refine Kf_of ((f_X11_takes_k _ _)) ?_ | with_reducible refine Kf_of ((f_X11_want_k _ _)) ?_ | with_reducible refine Kf_of ((f_X11_wantName_k _)) ?_ | with_reducible refine Kf_of (hK _ _ _ _) ?_ | with_reducible exact hK | with_reducible refine Kf_of (ih _ _ _) ?_ | with_reducible exact ih
set_option maxHeartbeats 4000000 in
set_option maxRecDepth 100000 in
theorem f_X11_readBindings_k (K : Nat → Int32 → Int32 → im_S → Option (Int32 × im_S)) (fu : Nat) (x1 : Int32) (S : im_S) (hK : ∀ (a0 : Nat) (a1 : Int32) (a2 : Int32) (S : im_S), Kf kR kT (K a0 a1 a2 S) S) : Kf kR kT (f_X11_readBindings K fu x1 S) S := by
  unfold f_X11_readBindings
  repeat' first | with_reducible exact Kf_none _ | with_reducible refine Kf_gd ?_ | with_reducible refine Kf_ite ?_ ?_ | with_reducible refine Kf_bind ?_ (fun q => ?_) | with_reducible refine Kf_some ?_ | with_reducible exact Kp_refl _ | refine Kp_uI rfl ?_ | refine Kp_uJ rfl ?_ | with_reducible refine Kf_of (f_X11_readBindings_L2_k _ _ ?_ _ _ _ _) ?_ | with_reducible refine Kf_of (hK _ _ _ _) ?_ | with_reducible exact hK
set_option maxHeartbeats 4000000 in
set_option maxRecDepth 100000 in
theorem f_X11_readLoop_k (K : Nat → Int32 → Int32 → im_S → Option (Int32 × im_S)) (fu : Nat) (S : im_S) (hK : ∀ (a0 : Nat) (a1 : Int32) (a2 : Int32) (S : im_S), Kf kR kT (K a0 a1 a2 S) S) : Kf kR kT (f_X11_readLoop K fu S) S := by
  unfold f_X11_readLoop
  repeat' first | with_reducible exact Kf_none _ | with_reducible refine Kf_gd ?_ | with_reducible refine Kf_ite ?_ ?_ | with_reducible refine Kf_bind ?_ (fun q => ?_) | with_reducible refine Kf_some ?_ | with_reducible exact Kp_refl _ | refine Kp_uI rfl ?_ | refine Kp_uJ rfl ?_ | with_reducible refine Kf_of ((f_X11_isWord_k _ _)) ?_ | with_reducible refine Kf_of ((f_X11_want_k _ _)) ?_ | with_reducible refine Kf_of ((f_X11_make_k _ _ _)) ?_ | with_reducible refine Kf_of ((f_X11_layRow_k _ _ _)) ?_ | with_reducible refine Kf_of (hK _ _ _ _) ?_ | with_reducible exact hK
set_option maxHeartbeats 4000000 in
set_option maxRecDepth 100000 in
theorem f_X11_readSigns_L15_k (K : Nat → Int32 → Int32 → im_S → Option (Int32 × im_S)) (fu : Nat) (hK : ∀ (a0 : Nat) (a1 : Int32) (a2 : Int32) (S : im_S), Kf kR kT (K a0 a1 a2 S) S) : ∀ (nf : Nat) (y0 : Int32) (y1 : Int32) (y2 : Int32) (S : im_S), Kf kR kT (f_X11_readSigns_L15 K fu nf y0 y1 y2 S) S := by
  intro nf
  induction nf with
  | zero => intro y0 y1 y2 S; exact Kf_none _
  | succ nf ih =>
    intro y0 y1 y2 S
    unfold f_X11_readSigns_L15
    repeat' first | with_reducible exact Kf_none _ | with_reducible refine Kf_gd ?_ | with_reducible refine Kf_ite ?_ ?_ | with_reducible refine Kf_bind ?_ (fun q => ?_) | with_reducible refine Kf_some ?_ | with_reducible exact Kp_refl _ | refine Kp_uI rfl ?_ | refine Kp_uJ rfl ?_ | with_reducible refine Kf_of ((f_X11_make_k _ _ _)) ?_ | with_reducible refine Kf_of ((f_X11_firm_k _)) ?_ | with_reducible refine Kf_of (hK _ _ _ _) ?_ | with_reducible exact hK | with_reducible refine Kf_of (ih _ _ _ _) ?_ | with_reducible exact ih
set_option maxHeartbeats 4000000 in
set_option maxRecDepth 100000 in
theorem f_X11_readSigns_k (K : Nat → Int32 → Int32 → im_S → Option (Int32 × im_S)) (fu : Nat) (x1 : Int32) (S : im_S) (hK : ∀ (a0 : Nat) (a1 : Int32) (a2 : Int32) (S : im_S), Kf kR kT (K a0 a1 a2 S) S) : Kf kR kT (f_X11_readSigns K fu x1 S) S := by
  unfold f_X11_readSigns
  repeat' first | with_reducible exact Kf_none _ | with_reducible refine Kf_gd ?_ | with_reducible refine Kf_ite ?_ ?_ | with_reducible refine Kf_bind ?_ (fun q => ?_) | with_reducible refine Kf_some ?_ | with_reducible exact Kp_refl _ | refine Kp_uI rfl ?_ | refine Kp_uJ rfl ?_ | with_reducible refine Kf_of (f_X11_readSigns_L15_k _ _ ?_ _ _ _ _ _) ?_ | with_reducible refine Kf_of (hK _ _ _ _) ?_ | with_reducible exact hK
set_option maxHeartbeats 4000000 in
set_option maxRecDepth 100000 in
theorem f_X11_readAhead_L150_k (K : Nat → Int32 → Int32 → im_S → Option (Int32 × im_S)) (fu : Nat) (hK : ∀ (a0 : Nat) (a1 : Int32) (a2 : Int32) (S : im_S), Kf kR kT (K a0 a1 a2 S) S) : ∀ (nf : Nat) (y0 : Int32) (y1 : Int32) (y2 : Int32) (S : im_S), Kf kR kT (f_X11_readAhead_L150 K fu nf y0 y1 y2 S) S := by
  intro nf
  induction nf with
  | zero => intro y0 y1 y2 S; exact Kf_none _
  | succ nf ih =>
    intro y0 y1 y2 S
    unfold f_X11_readAhead_L150
    repeat' first | with_reducible exact Kf_none _ | with_reducible refine Kf_gd ?_ | with_reducible refine Kf_ite ?_ ?_ | with_reducible refine Kf_bind ?_ (fun q => ?_) | with_reducible refine Kf_some ?_ | with_reducible exact Kp_refl _ | refine Kp_uI rfl ?_ | refine Kp_uJ rfl ?_ | with_reducible refine Kf_of ((f_X11_isSign_k _ _)) ?_ | with_reducible refine Kf_of ((f_X11_want_k _ _)) ?_ | with_reducible refine Kf_of ((f_X11_make_k _ _ _)) ?_ | with_reducible refine Kf_of (hK _ _ _ _) ?_ | with_reducible exact hK | with_reducible refine Kf_of (ih _ _ _ _) ?_ | with_reducible exact ih
set_option maxHeartbeats 4000000 in
set_option maxRecDepth 100000 in
theorem f_X11_readAhead_L4_k (K : Nat → Int32 → Int32 → im_S → Option (Int32 × im_S)) (fu : Nat) (hK : ∀ (a0 : Nat) (a1 : Int32) (a2 : Int32) (S : im_S), Kf kR kT (K a0 a1 a2 S) S) : ∀ (nf : Nat) (y0 : Int32) (y1 : Int32) (S : im_S), Kf kR kT (f_X11_readAhead_L4 K fu nf y0 y1 S) S := by
  intro nf
  induction nf with
  | zero => intro y0 y1 S; exact Kf_none _
  | succ nf ih =>
    intro y0 y1 S
    unfold f_X11_readAhead_L4
    repeat' first | with_reducible exact Kf_none _ | with_reducible refine Kf_gd ?_ | with_reducible refine Kf_ite ?_ ?_ | with_reducible refine Kf_bind ?_ (fun q => ?_) | with_reducible refine Kf_some ?_ | with_reducible exact Kp_refl _ | refine Kp_uI rfl ?_ | refine Kp_uJ rfl ?_ | with_reducible refine Kf_of ((f_X11_isSign_k _ _)) ?_ | with_reducible refine Kf_of ((f_X11_want_k _ _)) ?_ | with_reducible refine Kf_of ((f_X11_make_k _ _ _)) ?_ | with_reducible refine Kf_of (f_X11_readAhead_L150_k _ _ ?_ _ _ _ _ _) ?_ | with_reducible refine Kf_of (hK _ _ _ _) ?_ | with_reducible exact hK | with_reducible refine Kf_of (ih _ _ _) ?_ | with_reducible exact ih
set_option maxHeartbeats 4000000 in
set_option maxRecDepth 100000 in
theorem f_X11_readAhead_k (K : Nat → Int32 → Int32 → im_S → Option (Int32 × im_S)) (fu : Nat) (S : im_S) (hK : ∀ (a0 : Nat) (a1 : Int32) (a2 : Int32) (S : im_S), Kf kR kT (K a0 a1 a2 S) S) : Kf kR kT (f_X11_readAhead K fu S) S := by
  unfold f_X11_readAhead
  repeat' first | with_reducible exact Kf_none _ | with_reducible refine Kf_gd ?_ | with_reducible refine Kf_ite ?_ ?_ | with_reducible refine Kf_bind ?_ (fun q => ?_) | with_reducible refine Kf_some ?_ | with_reducible exact Kp_refl _ | refine Kp_uI rfl ?_ | refine Kp_uJ rfl ?_ | with_reducible refine Kf_of (f_X11_readAhead_L4_k _ _ ?_ _ _ _ _) ?_ | with_reducible refine Kf_of (hK _ _ _ _) ?_ | with_reducible exact hK
set_option maxHeartbeats 4000000 in
set_option maxRecDepth 100000 in
theorem f_X11_readAtom_L188_k (K : Nat → Int32 → Int32 → im_S → Option (Int32 × im_S)) (fu : Nat) (hK : ∀ (a0 : Nat) (a1 : Int32) (a2 : Int32) (S : im_S), Kf kR kT (K a0 a1 a2 S) S) : ∀ (nf : Nat) (y0 : Int32) (y1 : Int32) (S : im_S), Kf kR kT (f_X11_readAtom_L188 K fu nf y0 y1 S) S := by
  intro nf
  induction nf with
  | zero => intro y0 y1 S; exact Kf_none _
  | succ nf ih =>
    intro y0 y1 S
    unfold f_X11_readAtom_L188
    repeat' first | with_reducible exact Kf_none _ | with_reducible refine Kf_gd ?_ | with_reducible refine Kf_ite ?_ ?_ | with_reducible refine Kf_bind ?_ (fun q => ?_) | with_reducible refine Kf_some ?_ | with_reducible exact Kp_refl _ | refine Kp_uI rfl ?_ | refine Kp_uJ rfl ?_ | with_reducible refine Kf_of ((f_X11_refuse_k _)) ?_ | with_reducible refine Kf_of ((f_X11_isSign_k _ _)) ?_ | with_reducible refine Kf_of ((f_X11_takes_k _ _)) ?_ | with_reducible refine Kf_of ((f_X11_want_k _ _)) ?_ | with_reducible refine Kf_of ((f_X11_layRow_k _ _ _)) ?_ | with_reducible refine Kf_of (hK _ _ _ _) ?_ | with_reducible exact hK | with_reducible refine Kf_of (ih _ _ _) ?_ | with_reducible exact ih
set_option maxHeartbeats 4000000 in
set_option maxRecDepth 100000 in
theorem f_X11_readAtom_k (K : Nat → Int32 → Int32 → im_S → Option (Int32 × im_S)) (fu : Nat) (S : im_S) (hK : ∀ (a0 : Nat) (a1 : Int32) (a2 : Int32) (S : im_S), Kf kR kT (K a0 a1 a2 S) S) : Kf kR kT (f_X11_readAtom K fu S) S := by
  unfold f_X11_readAtom
  repeat' first | with_reducible exact Kf_none _ | with_reducible refine Kf_gd ?_ | with_reducible refine Kf_ite ?_ ?_ | with_reducible refine Kf_bind ?_ (fun q => ?_) | with_reducible refine Kf_some ?_ | with_reducible exact Kp_refl _ | refine Kp_uI rfl ?_ | refine Kp_uJ rfl ?_ | with_reducible refine Kf_of ((f_X11_refuse_k _)) ?_ | with_reducible refine Kf_of ((f_X11_isSign_k _ _)) ?_ | with_reducible refine Kf_of ((f_X11_isWord_k _ _)) ?_ | with_reducible refine Kf_of ((f_X11_takes_k _ _)) ?_ | with_reducible refine Kf_of ((f_X11_make_k _ _ _)) ?_ | with_reducible refine Kf_of (f_X11_readAtom_L188_k _ _ ?_ _ _ _ _) ?_ | with_reducible refine Kf_of (hK _ _ _ _) ?_ | with_reducible exact hK
set_option maxHeartbeats 4000000 in
set_option maxRecDepth 100000 in
theorem f_X11_readTable_k (K : Nat → Int32 → Int32 → im_S → Option (Int32 × im_S)) (fu : Nat) (S : im_S) (hK : ∀ (a0 : Nat) (a1 : Int32) (a2 : Int32) (S : im_S), Kf kR kT (K a0 a1 a2 S) S) : Kf kR kT (f_X11_readTable K fu S) S := by
  unfold f_X11_readTable
  repeat' first | with_reducible exact Kf_none _ | with_reducible refine Kf_gd ?_ | with_reducible refine Kf_ite ?_ ?_ | with_reducible refine Kf_bind ?_ (fun q => ?_) | with_reducible refine Kf_some ?_ | with_reducible exact Kp_refl _ | refine Kp_uI rfl ?_ | refine Kp_uJ rfl ?_ | with_reducible refine Kf_of ((f_X11_isSign_k _ _)) ?_ | with_reducible refine Kf_of ((f_X11_isWord_k _ _)) ?_ | with_reducible refine Kf_of ((f_X11_want_k _ _)) ?_ | with_reducible refine Kf_of ((f_X11_wantName_k _)) ?_ | with_reducible refine Kf_of ((f_X11_make_k _ _ _)) ?_ | with_reducible refine Kf_of ((f_X11_addRow_k _ _ _)) ?_ | with_reducible refine Kf_of (hK _ _ _ _) ?_ | with_reducible exact hK
theorem rc_read_k (fu : Nat) : ∀ (d lab : Nat) (a b : Int32) (S : im_S), Kf kR kT (rc_read fu d lab a b S) S := by
  intro d
  induction d with
  | zero => intro lab a b S; exact Kf_none _
  | succ d ih =>
    intro lab a b S
    unfold rc_read
    repeat' first | with_reducible exact Kf_none _ | with_reducible refine Kf_gd ?_ | with_reducible refine Kf_ite ?_ ?_ | with_reducible refine Kf_bind ?_ (fun q => ?_) | with_reducible refine Kf_some ?_ | with_reducible exact Kp_refl _ | refine Kp_uI rfl ?_ | refine Kp_uJ rfl ?_ | with_reducible refine Kf_of (f_X11_readX_k _ _ _ ?_) ?_ | with_reducible refine Kf_of (f_X11_readWithin_k _ _ _ ?_) ?_ | with_reducible refine Kf_of (f_X11_readLet_k _ _ _ ?_) ?_ | with_reducible refine Kf_of (f_X11_readIf_k _ _ _ ?_) ?_ | with_reducible refine Kf_of (f_X11_readBindings_k _ _ _ _ ?_) ?_ | with_reducible refine Kf_of (f_X11_readLoop_k _ _ _ ?_) ?_ | with_reducible refine Kf_of (f_X11_readSigns_k _ _ _ _ ?_) ?_ | with_reducible refine Kf_of (f_X11_readAhead_k _ _ _ ?_) ?_ | with_reducible refine Kf_of (f_X11_readAtom_k _ _ _ ?_) ?_ | with_reducible refine Kf_of (f_X11_readTable_k _ _ _ ?_) ?_ | with_reducible exact ih
set_option maxHeartbeats 4000000 in
set_option maxRecDepth 100000 in
theorem g_X11_readX_k (fu : Nat) (S : im_S) : Kf kR kT (g_X11_readX fu S) S := by
  unfold g_X11_readX
  repeat' first | with_reducible exact Kf_none _ | with_reducible refine Kf_gd ?_ | with_reducible refine Kf_ite ?_ ?_ | with_reducible refine Kf_bind ?_ (fun q => ?_) | with_reducible refine Kf_some ?_ | with_reducible exact Kp_refl _ | refine Kp_uI rfl ?_ | refine Kp_uJ rfl ?_ | with_reducible refine Kf_of ((rc_read_k _ _ _ _ _ _)) ?_
set_option maxHeartbeats 4000000 in
set_option maxRecDepth 100000 in
theorem g_X11_readWithin_k (fu : Nat) (S : im_S) : Kf kR kT (g_X11_readWithin fu S) S := by
  unfold g_X11_readWithin
  repeat' first | with_reducible exact Kf_none _ | with_reducible refine Kf_gd ?_ | with_reducible refine Kf_ite ?_ ?_ | with_reducible refine Kf_bind ?_ (fun q => ?_) | with_reducible refine Kf_some ?_ | with_reducible exact Kp_refl _ | refine Kp_uI rfl ?_ | refine Kp_uJ rfl ?_ | with_reducible refine Kf_of ((rc_read_k _ _ _ _ _ _)) ?_
set_option maxHeartbeats 4000000 in
set_option maxRecDepth 100000 in
theorem g_X11_readLet_k (fu : Nat) (S : im_S) : Kf kR kT (g_X11_readLet fu S) S := by
  unfold g_X11_readLet
  repeat' first | with_reducible exact Kf_none _ | with_reducible refine Kf_gd ?_ | with_reducible refine Kf_ite ?_ ?_ | with_reducible refine Kf_bind ?_ (fun q => ?_) | with_reducible refine Kf_some ?_ | with_reducible exact Kp_refl _ | refine Kp_uI rfl ?_ | refine Kp_uJ rfl ?_ | with_reducible refine Kf_of ((rc_read_k _ _ _ _ _ _)) ?_
set_option maxHeartbeats 4000000 in
set_option maxRecDepth 100000 in
theorem g_X11_readIf_k (fu : Nat) (S : im_S) : Kf kR kT (g_X11_readIf fu S) S := by
  unfold g_X11_readIf
  repeat' first | with_reducible exact Kf_none _ | with_reducible refine Kf_gd ?_ | with_reducible refine Kf_ite ?_ ?_ | with_reducible refine Kf_bind ?_ (fun q => ?_) | with_reducible refine Kf_some ?_ | with_reducible exact Kp_refl _ | refine Kp_uI rfl ?_ | refine Kp_uJ rfl ?_ | with_reducible refine Kf_of ((rc_read_k _ _ _ _ _ _)) ?_
set_option maxHeartbeats 4000000 in
set_option maxRecDepth 100000 in
theorem g_X11_readBindings_k (fu : Nat) (a : Int32) (S : im_S) : Kf kR kT (g_X11_readBindings fu a S) S := by
  unfold g_X11_readBindings
  repeat' first | with_reducible exact Kf_none _ | with_reducible refine Kf_gd ?_ | with_reducible refine Kf_ite ?_ ?_ | with_reducible refine Kf_bind ?_ (fun q => ?_) | with_reducible refine Kf_some ?_ | with_reducible exact Kp_refl _ | refine Kp_uI rfl ?_ | refine Kp_uJ rfl ?_ | with_reducible refine Kf_of ((rc_read_k _ _ _ _ _ _)) ?_
set_option maxHeartbeats 4000000 in
set_option maxRecDepth 100000 in
theorem g_X11_readLoop_k (fu : Nat) (S : im_S) : Kf kR kT (g_X11_readLoop fu S) S := by
  unfold g_X11_readLoop
  repeat' first | with_reducible exact Kf_none _ | with_reducible refine Kf_gd ?_ | with_reducible refine Kf_ite ?_ ?_ | with_reducible refine Kf_bind ?_ (fun q => ?_) | with_reducible refine Kf_some ?_ | with_reducible exact Kp_refl _ | refine Kp_uI rfl ?_ | refine Kp_uJ rfl ?_ | with_reducible refine Kf_of ((rc_read_k _ _ _ _ _ _)) ?_
set_option maxHeartbeats 4000000 in
set_option maxRecDepth 100000 in
theorem g_X11_readSigns_k (fu : Nat) (a : Int32) (S : im_S) : Kf kR kT (g_X11_readSigns fu a S) S := by
  unfold g_X11_readSigns
  repeat' first | with_reducible exact Kf_none _ | with_reducible refine Kf_gd ?_ | with_reducible refine Kf_ite ?_ ?_ | with_reducible refine Kf_bind ?_ (fun q => ?_) | with_reducible refine Kf_some ?_ | with_reducible exact Kp_refl _ | refine Kp_uI rfl ?_ | refine Kp_uJ rfl ?_ | with_reducible refine Kf_of ((rc_read_k _ _ _ _ _ _)) ?_
set_option maxHeartbeats 4000000 in
set_option maxRecDepth 100000 in
theorem g_X11_readAhead_k (fu : Nat) (S : im_S) : Kf kR kT (g_X11_readAhead fu S) S := by
  unfold g_X11_readAhead
  repeat' first | with_reducible exact Kf_none _ | with_reducible refine Kf_gd ?_ | with_reducible refine Kf_ite ?_ ?_ | with_reducible refine Kf_bind ?_ (fun q => ?_) | with_reducible refine Kf_some ?_ | with_reducible exact Kp_refl _ | refine Kp_uI rfl ?_ | refine Kp_uJ rfl ?_ | with_reducible refine Kf_of ((rc_read_k _ _ _ _ _ _)) ?_
set_option maxHeartbeats 4000000 in
set_option maxRecDepth 100000 in
theorem g_X11_readAtom_k (fu : Nat) (S : im_S) : Kf kR kT (g_X11_readAtom fu S) S := by
  unfold g_X11_readAtom
  repeat' first | with_reducible exact Kf_none _ | with_reducible refine Kf_gd ?_ | with_reducible refine Kf_ite ?_ ?_ | with_reducible refine Kf_bind ?_ (fun q => ?_) | with_reducible refine Kf_some ?_ | with_reducible exact Kp_refl _ | refine Kp_uI rfl ?_ | refine Kp_uJ rfl ?_ | with_reducible refine Kf_of ((rc_read_k _ _ _ _ _ _)) ?_
set_option maxHeartbeats 4000000 in
set_option maxRecDepth 100000 in
theorem g_X11_readTable_k (fu : Nat) (S : im_S) : Kf kR kT (g_X11_readTable fu S) S := by
  unfold g_X11_readTable
  repeat' first | with_reducible exact Kf_none _ | with_reducible refine Kf_gd ?_ | with_reducible refine Kf_ite ?_ ?_ | with_reducible refine Kf_bind ?_ (fun q => ?_) | with_reducible refine Kf_some ?_ | with_reducible exact Kp_refl _ | refine Kp_uI rfl ?_ | refine Kp_uJ rfl ?_ | with_reducible refine Kf_of ((rc_read_k _ _ _ _ _ _)) ?_
set_option maxHeartbeats 4000000 in
set_option maxRecDepth 100000 in
theorem f_X11_look_k (K : Nat → Int32 → Int32 → im_S → Option (Int32 × im_S)) (fu : Nat) (x1 : Int32) (S : im_S) (hK : ∀ (a0 : Nat) (a1 : Int32) (a2 : Int32) (S : im_S), Kf kR kT (K a0 a1 a2 S) S) : Kf kR kT (f_X11_look K fu x1 S) S := by
  unfold f_X11_look
  repeat' first | with_reducible exact Kf_none _ | with_reducible refine Kf_gd ?_ | with_reducible refine Kf_ite ?_ ?_ | with_reducible refine Kf_bind ?_ (fun q => ?_) | with_reducible refine Kf_some ?_ | with_reducible exact Kp_refl _ | refine Kp_uI rfl ?_ | refine Kp_uJ rfl ?_ | with_reducible refine Kf_of (hK _ _ _ _) ?_ | with_reducible exact hK
set_option maxHeartbeats 4000000 in
set_option maxRecDepth 100000 in
theorem f_X11_typed_k (K : Nat → Int32 → Int32 → im_S → Option (Int32 × im_S)) (fu : Nat) (x1 : Int32) (S : im_S) (hK : ∀ (a0 : Nat) (a1 : Int32) (a2 : Int32) (S : im_S), Kf kR kT (K a0 a1 a2 S) S) : Kf kR kT (f_X11_typed K fu x1 S) S := by
  unfold f_X11_typed
  repeat' first | with_reducible exact Kf_none _ | with_reducible refine Kf_gd ?_ | with_reducible refine Kf_ite ?_ ?_ | with_reducible refine Kf_bind ?_ (fun q => ?_) | with_reducible refine Kf_some ?_ | with_reducible exact Kp_refl _ | refine Kp_uI rfl ?_ | refine Kp_uJ rfl ?_ | with_reducible refine Kf_of ((f_X11_lookName_k _ _ _)) ?_ | with_reducible refine Kf_of (hK _ _ _ _) ?_ | with_reducible exact hK
set_option maxHeartbeats 4000000 in
set_option maxRecDepth 100000 in
theorem f_X11_wants_k (K : Nat → Int32 → Int32 → im_S → Option (Int32 × im_S)) (fu : Nat) (x1 : Int32) (x2 : Int32) (S : im_S) (hK : ∀ (a0 : Nat) (a1 : Int32) (a2 : Int32) (S : im_S), Kf kR kT (K a0 a1 a2 S) S) : Kf kR kT (f_X11_wants K fu x1 x2 S) S := by
  unfold f_X11_wants
  repeat' first | with_reducible exact Kf_none _ | with_reducible refine Kf_gd ?_ | with_reducible refine Kf_ite ?_ ?_ | with_reducible refine Kf_bind ?_ (fun q => ?_) | with_reducible refine Kf_some ?_ | with_reducible exact Kp_refl _ | refine Kp_uI rfl ?_ | refine Kp_uJ rfl ?_ | with_reducible refine Kf_of ((f_X11_note_k _ _ _)) ?_ | with_reducible refine Kf_of (hK _ _ _ _) ?_ | with_reducible exact hK
set_option maxHeartbeats 4000000 in
set_option maxRecDepth 100000 in
theorem f_X11_lookCall_L51_k (K : Nat → Int32 → Int32 → im_S → Option (Int32 × im_S)) (fu : Nat) (hK : ∀ (a0 : Nat) (a1 : Int32) (a2 : Int32) (S : im_S), Kf kR kT (K a0 a1 a2 S) S) : ∀ (nf : Nat) (y0 : Int32) (y1 : Int32) (y2 : Int32) (S : im_S), Kf kR kT (f_X11_lookCall_L51 K fu nf y0 y1 y2 S) S := by
  intro nf
  induction nf with
  | zero => intro y0 y1 y2 S; exact Kf_none _
  | succ nf ih =>
    intro y0 y1 y2 S
    unfold f_X11_lookCall_L51
    repeat' first | with_reducible exact Kf_none _ | with_reducible refine Kf_gd ?_ | with_reducible refine Kf_ite ?_ ?_ | with_reducible refine Kf_bind ?_ (fun q => ?_) | with_reducible refine Kf_some ?_ | with_reducible exact Kp_refl _ | refine Kp_uI rfl ?_ | refine Kp_uJ rfl ?_ | with_reducible refine Kf_of ((f_X11_typeOf_k _ _ _)) ?_ | with_reducible refine Kf_of (hK _ _ _ _) ?_ | with_reducible exact hK | with_reducible refine Kf_of (ih _ _ _ _) ?_ | with_reducible exact ih
set_option maxHeartbeats 4000000 in
set_option maxRecDepth 100000 in
theorem f_X11_lookCall_k (K : Nat → Int32 → Int32 → im_S → Option (Int32 × im_S)) (fu : Nat) (x1 : Int32) (S : im_S) (hK : ∀ (a0 : Nat) (a1 : Int32) (a2 : Int32) (S : im_S), Kf kR kT (K a0 a1 a2 S) S) : Kf kR kT (f_X11_lookCall K fu x1 S) S := by
  unfold f_X11_lookCall
  repeat' first | with_reducible exact Kf_none _ | with_reducible refine Kf_gd ?_ | with_reducible refine Kf_ite ?_ ?_ | with_reducible refine Kf_bind ?_ (fun q => ?_) | with_reducible refine Kf_some ?_ | with_reducible exact Kp_refl _ | refine Kp_uI rfl ?_ | refine Kp_uJ rfl ?_ | with_reducible refine Kf_of ((f_X11_note_k _ _ _)) ?_ | with_reducible refine Kf_of ((f_X11_functionOf_k _ _ _)) ?_ | with_reducible refine Kf_of (f_X11_lookCall_L51_k _ _ ?_ _ _ _ _ _) ?_ | with_reducible refine Kf_of (hK _ _ _ _) ?_ | with_reducible exact hK
set_option maxHeartbeats 4000000 in
set_option maxRecDepth 100000 in
theorem f_X11_lookLet_k (K : Nat → Int32 → Int32 → im_S → Option (Int32 × im_S)) (fu : Nat) (x1 : Int32) (S : im_S) (hK : ∀ (a0 : Nat) (a1 : Int32) (a2 : Int32) (S : im_S), Kf kR kT (K a0 a1 a2 S) S) : Kf kR kT (f_X11_lookLet K fu x1 S) S := by
  unfold f_X11_lookLet
  repeat' first | with_reducible exact Kf_none _ | with_reducible refine Kf_gd ?_ | with_reducible refine Kf_ite ?_ ?_ | with_reducible refine Kf_bind ?_ (fun q => ?_) | with_reducible refine Kf_some ?_ | with_reducible exact Kp_refl _ | refine Kp_uI rfl ?_ | refine Kp_uJ rfl ?_ | with_reducible refine Kf_of ((f_X11_typeOf_k _ _ _)) ?_ | with_reducible refine Kf_of ((f_X11_know_k _ _ _ _ _ _ _)) ?_ | with_reducible refine Kf_of (hK _ _ _ _) ?_ | with_reducible exact hK
set_option maxHeartbeats 4000000 in
set_option maxRecDepth 100000 in
theorem f_X11_lookLoop_L163_k (K : Nat → Int32 → Int32 → im_S → Option (Int32 × im_S)) (fu : Nat) (K112 : Int32 → Int32 → Int32 → im_S → Option (Int32 × im_S)) (hK : ∀ (a0 : Nat) (a1 : Int32) (a2 : Int32) (S : im_S), Kf kR kT (K a0 a1 a2 S) S) (hK112 : ∀ (a0 : Int32) (a1 : Int32) (a2 : Int32) (S : im_S), Kf kR kT (K112 a0 a1 a2 S) S) : ∀ (nf : Nat) (y0 : Int32) (y1 : Int32) (y2 : Int32) (y3 : Int32) (y4 : Int32) (y5 : Int32) (S : im_S), Kf kR kT (f_X11_lookLoop_L163 K fu K112 nf y0 y1 y2 y3 y4 y5 S) S := by
  intro nf
  induction nf with
  | zero => intro y0 y1 y2 y3 y4 y5 S; exact Kf_none _
  | succ nf ih =>
    intro y0 y1 y2 y3 y4 y5 S
    unfold f_X11_lookLoop_L163
    repeat' first | with_reducible exact Kf_none _ | with_reducible refine Kf_gd ?_ | with_reducible refine Kf_ite ?_ ?_ | with_reducible refine Kf_bind ?_ (fun q => ?_) | with_reducible refine Kf_some ?_ | with_reducible exact Kp_refl _ | refine Kp_uI rfl ?_ | refine Kp_uJ rfl ?_ | with_reducible refine Kf_of ((f_X11_note_k _ _ _)) ?_ | with_reducible refine Kf_of ((f_X11_typeOf_k _ _ _)) ?_ | with_reducible refine Kf_of (hK _ _ _ _) ?_ | with_reducible exact hK | with_reducible refine Kf_of (hK112 _ _ _ _) ?_ | with_reducible exact hK112 | with_reducible refine Kf_of (ih _ _ _ _ _ _ _) ?_ | with_reducible exact ih
set_option maxHeartbeats 4000000 in
set_option maxRecDepth 100000 in
theorem f_X11_lookLoop_L112_k (K : Nat → Int32 → Int32 → im_S → Option (Int32 × im_S)) (fu : Nat) (hK : ∀ (a0 : Nat) (a1 : Int32) (a2 : Int32) (S : im_S), Kf kR kT (K a0 a1 a2 S) S) : ∀ (nf : Nat) (y0 : Int32) (y1 : Int32) (y2 : Int32) (S : im_S), Kf kR kT (f_X11_lookLoop_L112 K fu nf y0 y1 y2 S) S := by
  intro nf
  induction nf with
  | zero => intro y0 y1 y2 S; exact Kf_none _
  | succ nf ih =>
    intro y0 y1 y2 S
    unfold f_X11_lookLoop_L112
    repeat' first | with_reducible exact Kf_none _ | with_reducible refine Kf_gd ?_ | with_reducible refine Kf_ite ?_ ?_ | with_reducible refine Kf_bind ?_ (fun q => ?_) | with_reducible refine Kf_some ?_ | with_reducible exact Kp_refl _ | refine Kp_uI rfl ?_ | refine Kp_uJ rfl ?_ | with_reducible refine Kf_of ((f_X11_partOf_k _ _ _ _)) ?_ | with_reducible refine Kf_of (f_X11_lookLoop_L163_k _ _ _ ?_ ?_ _ _ _ _ _ _ _ _) ?_ | with_reducible refine Kf_of (hK _ _ _ _) ?_ | with_reducible exact hK | with_reducible refine Kf_of (ih _ _ _ _) ?_ | with_reducible exact ih
set_option maxHeartbeats 4000000 in
set_option maxRecDepth 100000 in
theorem f_X11_lookLoop_L55_k (K : Nat → Int32 → Int32 → im_S → Option (Int32 × im_S)) (fu : Nat) (hK : ∀ (a0 : Nat) (a1 : Int32) (a2 : Int32) (S : im_S), Kf kR kT (K a0 a1 a2 S) S) : ∀ (nf : Nat) (y0 : Int32) (y1 : Int32) (y2 : Int32) (S : im_S), Kf kR kT (f_X11_lookLoop_L55 K fu nf y0 y1 y2 S) S := by
  intro nf
  induction nf with
  | zero => intro y0 y1 y2 S; exact Kf_none _
  | succ nf ih =>
    intro y0 y1 y2 S
    unfold f_X11_lookLoop_L55
    repeat' first | with_reducible exact Kf_none _ | with_reducible refine Kf_gd ?_ | with_reducible refine Kf_ite ?_ ?_ | with_reducible refine Kf_bind ?_ (fun q => ?_) | with_reducible refine Kf_some ?_ | with_reducible exact Kp_refl _ | refine Kp_uI rfl ?_ | refine Kp_uJ rfl ?_ | with_reducible refine Kf_of ((f_X11_know_k _ _ _ _ _ _ _)) ?_ | with_reducible refine Kf_of (f_X11_lookLoop_L112_k _ _ ?_ _ _ _ _ _) ?_ | with_reducible refine Kf_of (hK _ _ _ _) ?_ | with_reducible exact hK | with_reducible refine Kf_of (ih _ _ _ _) ?_ | with_reducible exact ih
set_option maxHeartbeats 4000000 in
set_option maxRecDepth 100000 in
theorem f_X11_lookLoop_L9_k (K : Nat → Int32 → Int32 → im_S → Option (Int32 × im_S)) (fu : Nat) (hK : ∀ (a0 : Nat) (a1 : Int32) (a2 : Int32) (S : im_S), Kf kR kT (K a0 a1 a2 S) S) : ∀ (nf : Nat) (y0 : Int32) (y1 : Int32) (y2 : Int32) (S : im_S), Kf kR kT (f_X11_lookLoop_L9 K fu nf y0 y1 y2 S) S := by
  intro nf
  induction nf with
  | zero => intro y0 y1 y2 S; exact Kf_none _
  | succ nf ih =>
    intro y0 y1 y2 S
    unfold f_X11_lookLoop_L9
    repeat' first | with_reducible exact Kf_none _ | with_reducible refine Kf_gd ?_ | with_reducible refine Kf_ite ?_ ?_ | with_reducible refine Kf_bind ?_ (fun q => ?_) | with_reducible refine Kf_some ?_ | with_reducible exact Kp_refl _ | refine Kp_uI rfl ?_ | refine Kp_uJ rfl ?_ | with_reducible refine Kf_of ((f_X11_typeOf_k _ _ _)) ?_ | with_reducible refine Kf_of (f_X11_lookLoop_L55_k _ _ ?_ _ _ _ _ _) ?_ | with_reducible refine Kf_of (hK _ _ _ _) ?_ | with_reducible exact hK | with_reducible refine Kf_of (ih _ _ _ _) ?_ | with_reducible exact ih
set_option maxHeartbeats 4000000 in
set_option maxRecDepth 100000 in
theorem f_X11_lookLoop_k (K : Nat → Int32 → Int32 → im_S → Option (Int32 × im_S)) (fu : Nat) (x1 : Int32) (S : im_S) (hK : ∀ (a0 : Nat) (a1 : Int32) (a2 : Int32) (S : im_S), Kf kR kT (K a0 a1 a2 S) S) : Kf kR kT (f_X11_lookLoop K fu x1 S) S := by
  unfold f_X11_lookLoop
  repeat' first | with_reducible exact Kf_none _ | with_reducible refine Kf_gd ?_ | with_reducible refine Kf_ite ?_ ?_ | with_reducible refine Kf_bind ?_ (fun q => ?_) | with_reducible refine Kf_some ?_ | with_reducible exact Kp_refl _ | refine Kp_uI rfl ?_ | refine Kp_uJ rfl ?_ | with_reducible refine Kf_of (f_X11_lookLoop_L9_k _ _ ?_ _ _ _ _ _) ?_ | with_reducible refine Kf_of (hK _ _ _ _) ?_ | with_reducible exact hK
set_option maxHeartbeats 4000000 in
set_option maxRecDepth 100000 in
theorem f_X11_lookTable_k (K : Nat → Int32 → Int32 → im_S → Option (Int32 × im_S)) (fu : Nat) (x1 : Int32) (S : im_S) (hK : ∀ (a0 : Nat) (a1 : Int32) (a2 : Int32) (S : im_S), Kf kR kT (K a0 a1 a2 S) S) : Kf kR kT (f_X11_lookTable K fu x1 S) S := by
  unfold f_X11_lookTable
  repeat' first | with_reducible exact Kf_none _ | with_reducible refine Kf_gd ?_ | with_reducible refine Kf_ite ?_ ?_ | with_reducible refine Kf_bind ?_ (fun q => ?_) | with_reducible refine Kf_some ?_ | with_reducible exact Kp_refl _ | refine Kp_uI rfl ?_ | refine Kp_uJ rfl ?_ | with_reducible refine Kf_of ((f_X11_note_k _ _ _)) ?_ | with_reducible refine Kf_of ((f_X11_typeOf_k _ _ _)) ?_ | with_reducible refine Kf_of ((f_X11_know_k _ _ _ _ _ _ _)) ?_ | with_reducible refine Kf_of (hK _ _ _ _) ?_ | with_reducible exact hK
theorem rc_look_k (fu : Nat) : ∀ (d lab : Nat) (a b : Int32) (S : im_S), Kf kR kT (rc_look fu d lab a b S) S := by
  intro d
  induction d with
  | zero => intro lab a b S; exact Kf_none _
  | succ d ih =>
    intro lab a b S
    unfold rc_look
    repeat' first | with_reducible exact Kf_none _ | with_reducible refine Kf_gd ?_ | with_reducible refine Kf_ite ?_ ?_ | with_reducible refine Kf_bind ?_ (fun q => ?_) | with_reducible refine Kf_some ?_ | with_reducible exact Kp_refl _ | refine Kp_uI rfl ?_ | refine Kp_uJ rfl ?_ | with_reducible refine Kf_of (f_X11_look_k _ _ _ _ ?_) ?_ | with_reducible refine Kf_of (f_X11_typed_k _ _ _ _ ?_) ?_ | with_reducible refine Kf_of (f_X11_wants_k _ _ _ _ _ ?_) ?_ | with_reducible refine Kf_of (f_X11_lookCall_k _ _ _ _ ?_) ?_ | with_reducible refine Kf_of (f_X11_lookLet_k _ _ _ _ ?_) ?_ | with_reducible refine Kf_of (f_X11_lookLoop_k _ _ _ _ ?_) ?_ | with_reducible refine Kf_of (f_X11_lookTable_k _ _ _ _ ?_) ?_ | with_reducible exact ih
set_option maxHeartbeats 4000000 in
set_option maxRecDepth 100000 in
theorem g_X11_look_k (fu : Nat) (a : Int32) (S : im_S) : Kf kR kT (g_X11_look fu a S) S := by
  unfold g_X11_look
  repeat' first | with_reducible exact Kf_none _ | with_reducible refine Kf_gd ?_ | with_reducible refine Kf_ite ?_ ?_ | with_reducible refine Kf_bind ?_ (fun q => ?_) | with_reducible refine Kf_some ?_ | with_reducible exact Kp_refl _ | refine Kp_uI rfl ?_ | refine Kp_uJ rfl ?_ | with_reducible refine Kf_of ((rc_look_k _ _ _ _ _ _)) ?_
set_option maxHeartbeats 4000000 in
set_option maxRecDepth 100000 in
theorem g_X11_typed_k (fu : Nat) (a : Int32) (S : im_S) : Kf kR kT (g_X11_typed fu a S) S := by
  unfold g_X11_typed
  repeat' first | with_reducible exact Kf_none _ | with_reducible refine Kf_gd ?_ | with_reducible refine Kf_ite ?_ ?_ | with_reducible refine Kf_bind ?_ (fun q => ?_) | with_reducible refine Kf_some ?_ | with_reducible exact Kp_refl _ | refine Kp_uI rfl ?_ | refine Kp_uJ rfl ?_ | with_reducible refine Kf_of ((rc_look_k _ _ _ _ _ _)) ?_
set_option maxHeartbeats 4000000 in
set_option maxRecDepth 100000 in
theorem g_X11_wants_k (fu : Nat) (a : Int32) (b : Int32) (S : im_S) : Kf kR kT (g_X11_wants fu a b S) S := by
  unfold g_X11_wants
  repeat' first | with_reducible exact Kf_none _ | with_reducible refine Kf_gd ?_ | with_reducible refine Kf_ite ?_ ?_ | with_reducible refine Kf_bind ?_ (fun q => ?_) | with_reducible refine Kf_some ?_ | with_reducible exact Kp_refl _ | refine Kp_uI rfl ?_ | refine Kp_uJ rfl ?_ | with_reducible refine Kf_of ((rc_look_k _ _ _ _ _ _)) ?_
set_option maxHeartbeats 4000000 in
set_option maxRecDepth 100000 in
theorem g_X11_lookCall_k (fu : Nat) (a : Int32) (S : im_S) : Kf kR kT (g_X11_lookCall fu a S) S := by
  unfold g_X11_lookCall
  repeat' first | with_reducible exact Kf_none _ | with_reducible refine Kf_gd ?_ | with_reducible refine Kf_ite ?_ ?_ | with_reducible refine Kf_bind ?_ (fun q => ?_) | with_reducible refine Kf_some ?_ | with_reducible exact Kp_refl _ | refine Kp_uI rfl ?_ | refine Kp_uJ rfl ?_ | with_reducible refine Kf_of ((rc_look_k _ _ _ _ _ _)) ?_
set_option maxHeartbeats 4000000 in
set_option maxRecDepth 100000 in
theorem g_X11_lookLet_k (fu : Nat) (a : Int32) (S : im_S) : Kf kR kT (g_X11_lookLet fu a S) S := by
  unfold g_X11_lookLet
  repeat' first | with_reducible exact Kf_none _ | with_reducible refine Kf_gd ?_ | with_reducible refine Kf_ite ?_ ?_ | with_reducible refine Kf_bind ?_ (fun q => ?_) | with_reducible refine Kf_some ?_ | with_reducible exact Kp_refl _ | refine Kp_uI rfl ?_ | refine Kp_uJ rfl ?_ | with_reducible refine Kf_of ((rc_look_k _ _ _ _ _ _)) ?_
set_option maxHeartbeats 4000000 in
set_option maxRecDepth 100000 in
theorem g_X11_lookLoop_k (fu : Nat) (a : Int32) (S : im_S) : Kf kR kT (g_X11_lookLoop fu a S) S := by
  unfold g_X11_lookLoop
  repeat' first | with_reducible exact Kf_none _ | with_reducible refine Kf_gd ?_ | with_reducible refine Kf_ite ?_ ?_ | with_reducible refine Kf_bind ?_ (fun q => ?_) | with_reducible refine Kf_some ?_ | with_reducible exact Kp_refl _ | refine Kp_uI rfl ?_ | refine Kp_uJ rfl ?_ | with_reducible refine Kf_of ((rc_look_k _ _ _ _ _ _)) ?_
set_option maxHeartbeats 4000000 in
set_option maxRecDepth 100000 in
theorem g_X11_lookTable_k (fu : Nat) (a : Int32) (S : im_S) : Kf kR kT (g_X11_lookTable fu a S) S := by
  unfold g_X11_lookTable
  repeat' first | with_reducible exact Kf_none _ | with_reducible refine Kf_gd ?_ | with_reducible refine Kf_ite ?_ ?_ | with_reducible refine Kf_bind ?_ (fun q => ?_) | with_reducible refine Kf_some ?_ | with_reducible exact Kp_refl _ | refine Kp_uI rfl ?_ | refine Kp_uJ rfl ?_ | with_reducible refine Kf_of ((rc_look_k _ _ _ _ _ _)) ?_
set_option maxHeartbeats 4000000 in
set_option maxRecDepth 100000 in
theorem f_X11_lay_L261_k (K : Nat → Int32 → Int32 → im_S → Option (Int32 × im_S)) (fu : Nat) (hK : ∀ (a0 : Nat) (a1 : Int32) (a2 : Int32) (S : im_S), Kf kR kT (K a0 a1 a2 S) S) : ∀ (nf : Nat) (y0 : Int32) (y1 : Int32) (y2 : Int32) (S : im_S), Kf kR kT (f_X11_lay_L261 K fu nf y0 y1 y2 S) S := by
  intro nf
  induction nf with
  | zero => intro y0 y1 y2 S; exact Kf_none _
  | succ nf ih =>
    intro y0 y1 y2 S
    unfold f_X11_lay_L261
    repeat' first | with_reducible exact Kf_none _ | with_reducible refine Kf_gd ?_ | with_reducible refine Kf_ite ?_ ?_ | with_reducible refine Kf_bind ?_ (fun q => ?_) | with_reducible refine Kf_some ?_ | with_reducible exact Kp_refl _ | refine Kp_uI rfl ?_ | refine Kp_uJ rfl ?_ | with_reducible refine Kf_of (hK _ _ _ _) ?_ | with_reducible exact hK | with_reducible refine Kf_of (ih _ _ _ _) ?_ | with_reducible exact ih
set_option maxHeartbeats 4000000 in
set_option maxRecDepth 100000 in
theorem f_X11_lay_L171_k (K : Nat → Int32 → Int32 → im_S → Option (Int32 × im_S)) (fu : Nat) (hK : ∀ (a0 : Nat) (a1 : Int32) (a2 : Int32) (S : im_S), Kf kR kT (K a0 a1 a2 S) S) : ∀ (nf : Nat) (y0 : Int32) (y1 : Int32) (y2 : Int32) (S : im_S), Kf kR kT (f_X11_lay_L171 K fu nf y0 y1 y2 S) S := by
  intro nf
  induction nf with
  | zero => intro y0 y1 y2 S; exact Kf_none _
  | succ nf ih =>
    intro y0 y1 y2 S
    unfold f_X11_lay_L171
    repeat' first | with_reducible exact Kf_none _ | with_reducible refine Kf_gd ?_ | with_reducible refine Kf_ite ?_ ?_ | with_reducible refine Kf_bind ?_ (fun q => ?_) | with_reducible refine Kf_some ?_ | with_reducible exact Kp_refl _ | refine Kp_uI rfl ?_ | refine Kp_uJ rfl ?_ | with_reducible refine Kf_of (hK _ _ _ _) ?_ | with_reducible exact hK | with_reducible refine Kf_of (ih _ _ _ _) ?_ | with_reducible exact ih
set_option maxHeartbeats 4000000 in
set_option maxRecDepth 100000 in
theorem f_X11_lay_L108_k (K : Nat → Int32 → Int32 → im_S → Option (Int32 × im_S)) (fu : Nat) (hK : ∀ (a0 : Nat) (a1 : Int32) (a2 : Int32) (S : im_S), Kf kR kT (K a0 a1 a2 S) S) : ∀ (nf : Nat) (y0 : Int32) (y1 : Int32) (y2 : Int32) (S : im_S), Kf kR kT (f_X11_lay_L108 K fu nf y0 y1 y2 S) S := by
  intro nf
  induction nf with
  | zero => intro y0 y1 y2 S; exact Kf_none _
  | succ nf ih =>
    intro y0 y1 y2 S
    unfold f_X11_lay_L108
    repeat' first | with_reducible exact Kf_none _ | with_reducible refine Kf_gd ?_ | with_reducible refine Kf_ite ?_ ?_ | with_reducible refine Kf_bind ?_ (fun q => ?_) | with_reducible refine Kf_some ?_ | with_reducible exact Kp_refl _ | refine Kp_uI rfl ?_ | refine Kp_uJ rfl ?_ | with_reducible refine Kf_of ((f_X11_addRegion_k _ _)) ?_ | with_reducible refine Kf_of (f_X11_lay_L171_k _ _ ?_ _ _ _ _ _) ?_ | with_reducible refine Kf_of (hK _ _ _ _) ?_ | with_reducible exact hK | with_reducible refine Kf_of (ih _ _ _ _) ?_ | with_reducible exact ih
set_option maxHeartbeats 4000000 in
set_option maxRecDepth 100000 in
theorem f_X11_lay_k (K : Nat → Int32 → Int32 → im_S → Option (Int32 × im_S)) (fu : Nat) (x1 : Int32) (x2 : Int32) (S : im_S) (hK : ∀ (a0 : Nat) (a1 : Int32) (a2 : Int32) (S : im_S), Kf kR kT (K a0 a1 a2 S) S) : Kf kR kT (f_X11_lay K fu x1 x2 S) S := by
  unfold f_X11_lay
  repeat' first | with_reducible exact Kf_none _ | with_reducible refine Kf_gd ?_ | with_reducible refine Kf_ite ?_ ?_ | with_reducible refine Kf_bind ?_ (fun q => ?_) | with_reducible refine Kf_some ?_ | with_reducible exact Kp_refl _ | refine Kp_uI rfl ?_ | refine Kp_uJ rfl ?_ | with_reducible refine Kf_of (f_X11_lay_L261_k _ _ ?_ _ _ _ _ _) ?_ | with_reducible refine Kf_of (f_X11_lay_L108_k _ _ ?_ _ _ _ _ _) ?_ | with_reducible refine Kf_of (hK _ _ _ _) ?_ | with_reducible exact hK
set_option maxHeartbeats 4000000 in
set_option maxRecDepth 100000 in
theorem f_X11_opened_k (K : Nat → Int32 → Int32 → im_S → Option (Int32 × im_S)) (fu : Nat) (x1 : Int32) (S : im_S) (hK : ∀ (a0 : Nat) (a1 : Int32) (a2 : Int32) (S : im_S), Kf kR kT (K a0 a1 a2 S) S) : Kf kR kT (f_X11_opened K fu x1 S) S := by
  unfold f_X11_opened
  repeat' first | with_reducible exact Kf_none _ | with_reducible refine Kf_gd ?_ | with_reducible refine Kf_ite ?_ ?_ | with_reducible refine Kf_bind ?_ (fun q => ?_) | with_reducible refine Kf_some ?_ | with_reducible exact Kp_refl _ | refine Kp_uI rfl ?_ | refine Kp_uJ rfl ?_ | with_reducible refine Kf_of ((f_X11_addRegion_k _ _)) ?_ | with_reducible refine Kf_of (hK _ _ _ _) ?_ | with_reducible exact hK
theorem rc_lay_k (fu : Nat) : ∀ (d lab : Nat) (a b : Int32) (S : im_S), Kf kR kT (rc_lay fu d lab a b S) S := by
  intro d
  induction d with
  | zero => intro lab a b S; exact Kf_none _
  | succ d ih =>
    intro lab a b S
    unfold rc_lay
    repeat' first | with_reducible exact Kf_none _ | with_reducible refine Kf_gd ?_ | with_reducible refine Kf_ite ?_ ?_ | with_reducible refine Kf_bind ?_ (fun q => ?_) | with_reducible refine Kf_some ?_ | with_reducible exact Kp_refl _ | refine Kp_uI rfl ?_ | refine Kp_uJ rfl ?_ | with_reducible refine Kf_of (f_X11_lay_k _ _ _ _ _ ?_) ?_ | with_reducible refine Kf_of (f_X11_opened_k _ _ _ _ ?_) ?_ | with_reducible exact ih
set_option maxHeartbeats 4000000 in
set_option maxRecDepth 100000 in
theorem g_X11_lay_k (fu : Nat) (a : Int32) (b : Int32) (S : im_S) : Kf kR kT (g_X11_lay fu a b S) S := by
  unfold g_X11_lay
  repeat' first | with_reducible exact Kf_none _ | with_reducible refine Kf_gd ?_ | with_reducible refine Kf_ite ?_ ?_ | with_reducible refine Kf_bind ?_ (fun q => ?_) | with_reducible refine Kf_some ?_ | with_reducible exact Kp_refl _ | refine Kp_uI rfl ?_ | refine Kp_uJ rfl ?_ | with_reducible refine Kf_of ((rc_lay_k _ _ _ _ _ _)) ?_
set_option maxHeartbeats 4000000 in
set_option maxRecDepth 100000 in
theorem g_X11_opened_k (fu : Nat) (a : Int32) (S : im_S) : Kf kR kT (g_X11_opened fu a S) S := by
  unfold g_X11_opened
  repeat' first | with_reducible exact Kf_none _ | with_reducible refine Kf_gd ?_ | with_reducible refine Kf_ite ?_ ?_ | with_reducible refine Kf_bind ?_ (fun q => ?_) | with_reducible refine Kf_some ?_ | with_reducible exact Kp_refl _ | refine Kp_uI rfl ?_ | refine Kp_uJ rfl ?_ | with_reducible refine Kf_of ((rc_lay_k _ _ _ _ _ _)) ?_
set_option maxHeartbeats 4000000 in
set_option maxRecDepth 100000 in
theorem f_X11_readFunction_L101_k (fu : Nat) : ∀ (nf : Nat) (y0 : Int32) (S : im_S), Kf kR kT (f_X11_readFunction_L101 fu nf y0 S) S := by
  intro nf
  induction nf with
  | zero => intro y0 S; exact Kf_none _
  | succ nf ih =>
    intro y0 S
    unfold f_X11_readFunction_L101
    repeat' first | with_reducible exact Kf_none _ | with_reducible refine Kf_gd ?_ | with_reducible refine Kf_ite ?_ ?_ | with_reducible refine Kf_bind ?_ (fun q => ?_) | with_reducible refine Kf_some ?_ | with_reducible exact Kp_refl _ | refine Kp_uI rfl ?_ | refine Kp_uJ rfl ?_ | with_reducible refine Kf_of ((f_X11_refuse_k _)) ?_ | with_reducible refine Kf_of ((f_X11_isSign_k _ _)) ?_ | with_reducible refine Kf_of ((f_X11_takes_k _ _)) ?_ | with_reducible refine Kf_of ((f_X11_want_k _ _)) ?_ | with_reducible refine Kf_of ((f_X11_wantName_k _)) ?_ | with_reducible refine Kf_of ((g_X11_readX_k _ _)) ?_ | with_reducible refine Kf_of (ih _ _) ?_ | with_reducible exact ih
set_option maxHeartbeats 4000000 in
set_option maxRecDepth 100000 in
theorem f_X11_readFunction_k (fu : Nat) (S : im_S) : Kf kR kT (f_X11_readFunction fu S) S := by
  unfold f_X11_readFunction
  repeat' first | with_reducible exact Kf_none _ | with_reducible refine Kf_gd ?_ | with_reducible refine Kf_ite ?_ ?_ | with_reducible refine Kf_bind ?_ (fun q => ?_) | with_reducible refine Kf_some ?_ | with_reducible exact Kp_refl _ | refine Kp_uI rfl ?_ | refine Kp_uJ rfl ?_ | with_reducible refine Kf_of ((f_X11_refuse_k _)) ?_ | with_reducible refine Kf_of ((f_X11_isSign_k _ _)) ?_ | with_reducible refine Kf_of ((f_X11_takes_k _ _)) ?_ | with_reducible refine Kf_of ((f_X11_want_k _ _)) ?_ | with_reducible refine Kf_of ((f_X11_wantName_k _)) ?_ | with_reducible refine Kf_of ((g_X11_readX_k _ _)) ?_ | with_reducible refine Kf_of ((f_X11_readFunction_L101_k _ _ _ _)) ?_
set_option maxHeartbeats 4000000 in
set_option maxRecDepth 100000 in
theorem f_X11_readProgram_L52_k (fu : Nat) : ∀ (nf : Nat)  (S : im_S), Kf kR kT (f_X11_readProgram_L52 fu nf  S) S := by
  intro nf
  induction nf with
  | zero => intro  S; exact Kf_none _
  | succ nf ih =>
    intro  S
    unfold f_X11_readProgram_L52
    repeat' first | with_reducible exact Kf_none _ | with_reducible refine Kf_gd ?_ | with_reducible refine Kf_ite ?_ ?_ | with_reducible refine Kf_bind ?_ (fun q => ?_) | with_reducible refine Kf_some ?_ | with_reducible exact Kp_refl _ | refine Kp_uI rfl ?_ | refine Kp_uJ rfl ?_ | with_reducible refine Kf_of ((f_X11_readFunction_k _ _)) ?_ | with_reducible refine Kf_of (ih _) ?_ | with_reducible exact ih
set_option maxHeartbeats 4000000 in
set_option maxRecDepth 100000 in
theorem f_X11_readProgram_k (fu : Nat) (S : im_S) : Kf kR kT (f_X11_readProgram fu S) S := by
  unfold f_X11_readProgram
  repeat' first | with_reducible exact Kf_none _ | with_reducible refine Kf_gd ?_ | with_reducible refine Kf_ite ?_ ?_ | with_reducible refine Kf_bind ?_ (fun q => ?_) | with_reducible refine Kf_some ?_ | with_reducible exact Kp_refl _ | refine Kp_uI rfl ?_ | refine Kp_uJ rfl ?_ | with_reducible refine Kf_of ((f_X11_tokenize_k _ _)) ?_ | with_reducible refine Kf_of ((f_X11_readProgram_L52_k _ _ _)) ?_
set_option maxHeartbeats 4000000 in
set_option maxRecDepth 100000 in
theorem f_X11_lookAll_L54_k (fu : Nat) (K12 : Int32 → Int32 → im_S → Option (Unit × im_S)) (hK12 : ∀ (a0 : Int32) (a1 : Int32) (S : im_S), Kf kR kT (K12 a0 a1 S) S) : ∀ (nf : Nat) (y0 : Int32) (y1 : Int32) (y2 : Int32) (S : im_S), Kf kR kT (f_X11_lookAll_L54 fu K12 nf y0 y1 y2 S) S := by
  intro nf
  induction nf with
  | zero => intro y0 y1 y2 S; exact Kf_none _
  | succ nf ih =>
    intro y0 y1 y2 S
    unfold f_X11_lookAll_L54
    repeat' first | with_reducible exact Kf_none _ | with_reducible refine Kf_gd ?_ | with_reducible refine Kf_ite ?_ ?_ | with_reducible refine Kf_bind ?_ (fun q => ?_) | with_reducible refine Kf_some ?_ | with_reducible exact Kp_refl _ | refine Kp_uI rfl ?_ | refine Kp_uJ rfl ?_ | with_reducible refine Kf_of ((f_X11_typeOf_k _ _ _)) ?_ | with_reducible refine Kf_of ((f_X11_know_k _ _ _ _ _ _ _)) ?_ | with_reducible refine Kf_of ((g_X11_wants_k _ _ _ _)) ?_ | with_reducible refine Kf_of (hK12 _ _ _) ?_ | with_reducible exact hK12 | with_reducible refine Kf_of (ih _ _ _ _) ?_ | with_reducible exact ih
set_option maxHeartbeats 4000000 in
set_option maxRecDepth 100000 in
theorem f_X11_lookAll_L12_k (fu : Nat) : ∀ (nf : Nat) (y0 : Int32) (y1 : Int32) (S : im_S), Kf kR kT (f_X11_lookAll_L12 fu nf y0 y1 S) S := by
  intro nf
  induction nf with
  | zero => intro y0 y1 S; exact Kf_none _
  | succ nf ih =>
    intro y0 y1 S
    unfold f_X11_lookAll_L12
    repeat' first | with_reducible exact Kf_none _ | with_reducible refine Kf_gd ?_ | with_reducible refine Kf_ite ?_ ?_ | with_reducible refine Kf_bind ?_ (fun q => ?_) | with_reducible refine Kf_some ?_ | with_reducible exact Kp_refl _ | refine Kp_uI rfl ?_ | refine Kp_uJ rfl ?_ | with_reducible refine Kf_of ((f_X11_note_k _ _ _)) ?_ | with_reducible refine Kf_of ((f_X11_functionOf_k _ _ _)) ?_ | with_reducible refine Kf_of (f_X11_lookAll_L54_k _ _ ?_ _ _ _ _ _) ?_ | with_reducible refine Kf_of (ih _ _ _) ?_ | with_reducible exact ih
set_option maxHeartbeats 4000000 in
set_option maxRecDepth 100000 in
theorem f_X11_lookAll_k (fu : Nat) (S : im_S) : Kf kR kT (f_X11_lookAll fu S) S := by
  unfold f_X11_lookAll
  repeat' first | with_reducible exact Kf_none _ | with_reducible refine Kf_gd ?_ | with_reducible refine Kf_ite ?_ ?_ | with_reducible refine Kf_bind ?_ (fun q => ?_) | with_reducible refine Kf_some ?_ | with_reducible exact Kp_refl _ | refine Kp_uI rfl ?_ | refine Kp_uJ rfl ?_ | with_reducible refine Kf_of ((f_X11_lookAll_L12_k _ _ _ _ _)) ?_
set_option maxHeartbeats 4000000 in
set_option maxRecDepth 100000 in
theorem f_X11_compile_L114_k (fu : Nat) (K104 : Int32 → im_S → Option (Int32 × im_S)) (hK104 : ∀ (a0 : Int32) (S : im_S), Kf kR kT (K104 a0 S) S) : ∀ (nf : Nat) (y0 : Int32) (y1 : Int32) (S : im_S), Kf kR kT (f_X11_compile_L114 fu K104 nf y0 y1 S) S := by
  intro nf
  induction nf with
  | zero => intro y0 y1 S; exact Kf_none _
  | succ nf ih =>
    intro y0 y1 S
    unfold f_X11_compile_L114
    repeat' first | with_reducible exact Kf_none _ | with_reducible refine Kf_gd ?_ | with_reducible refine Kf_ite ?_ ?_ | with_reducible refine Kf_bind ?_ (fun q => ?_) | with_reducible refine Kf_some ?_ | with_reducible exact Kp_refl _ | refine Kp_uI rfl ?_ | refine Kp_uJ rfl ?_ | with_reducible refine Kf_of (hK104 _ _) ?_ | with_reducible exact hK104 | with_reducible refine Kf_of (ih _ _ _) ?_ | with_reducible exact ih
set_option maxHeartbeats 4000000 in
set_option maxRecDepth 100000 in
theorem f_X11_compile_L104_k (fu : Nat) : ∀ (nf : Nat) (y0 : Int32) (S : im_S), Kf kR kT (f_X11_compile_L104 fu nf y0 S) S := by
  intro nf
  induction nf with
  | zero => intro y0 S; exact Kf_none _
  | succ nf ih =>
    intro y0 S
    unfold f_X11_compile_L104
    repeat' first | with_reducible exact Kf_none _ | with_reducible refine Kf_gd ?_ | with_reducible refine Kf_ite ?_ ?_ | with_reducible refine Kf_bind ?_ (fun q => ?_) | with_reducible refine Kf_some ?_ | with_reducible exact Kp_refl _ | refine Kp_uI rfl ?_ | refine Kp_uJ rfl ?_ | with_reducible refine Kf_of (f_X11_compile_L114_k _ _ ?_ _ _ _ _) ?_ | with_reducible refine Kf_of (ih _ _) ?_ | with_reducible exact ih
set_option maxHeartbeats 4000000 in
set_option maxRecDepth 100000 in
theorem f_X11_compile_L69_k (fu : Nat) : ∀ (nf : Nat) (y0 : Int32) (S : im_S), Kf kR kT (f_X11_compile_L69 fu nf y0 S) S := by
  intro nf
  induction nf with
  | zero => intro y0 S; exact Kf_none _
  | succ nf ih =>
    intro y0 S
    unfold f_X11_compile_L69
    repeat' first | with_reducible exact Kf_none _ | with_reducible refine Kf_gd ?_ | with_reducible refine Kf_ite ?_ ?_ | with_reducible refine Kf_bind ?_ (fun q => ?_) | with_reducible refine Kf_some ?_ | with_reducible exact Kp_refl _ | refine Kp_uI rfl ?_ | refine Kp_uJ rfl ?_ | with_reducible refine Kf_of ((g_X11_opened_k _ _ _)) ?_ | with_reducible refine Kf_of ((f_X11_compile_L104_k _ _ _ _)) ?_ | with_reducible refine Kf_of (ih _ _) ?_ | with_reducible exact ih
set_option maxHeartbeats 4000000 in
set_option maxRecDepth 100000 in
theorem f_X11_compile_k (fu : Nat) (S : im_S) : Kf kR kT (f_X11_compile fu S) S := by
  unfold f_X11_compile
  repeat' first | with_reducible exact Kf_none _ | with_reducible refine Kf_gd ?_ | with_reducible refine Kf_ite ?_ ?_ | with_reducible refine Kf_bind ?_ (fun q => ?_) | with_reducible refine Kf_some ?_ | with_reducible exact Kp_refl _ | refine Kp_uI rfl ?_ | refine Kp_uJ rfl ?_ | with_reducible refine Kf_of ((f_X11_raise_k _ _)) ?_ | with_reducible refine Kf_of ((f_X11_readProgram_k _ _)) ?_ | with_reducible refine Kf_of ((f_X11_lookAll_k _ _)) ?_ | with_reducible refine Kf_of ((f_X11_compile_L69_k _ _ _ _)) ?_
set_option maxHeartbeats 4000000 in
set_option maxRecDepth 100000 in
theorem f_X9_nameOrWord_L2_k : ∀ (nf : Nat) (y0 : Int64) (y1 : Int32) (S : im_S), Kf kP kT (f_X9_nameOrWord_L2  nf y0 y1 S) S := by
  intro nf
  induction nf with
  | zero => intro y0 y1 S; exact Kf_none _
  | succ nf ih =>
    intro y0 y1 S
    unfold f_X9_nameOrWord_L2
    repeat' first | with_reducible exact Kf_none _ | with_reducible refine Kf_gd ?_ | with_reducible refine Kf_ite ?_ ?_ | with_reducible refine Kf_bind ?_ (fun q => ?_) | with_reducible refine Kf_some ?_ | with_reducible exact Kp_refl _ | refine Kp_uI rfl ?_ | refine Kp_uJ rfl ?_ | with_reducible refine Kf_of (ih _ _ _) ?_ | with_reducible exact ih
set_option maxHeartbeats 4000000 in
set_option maxRecDepth 100000 in
theorem f_X9_nameOrWord_k (x0 : Int64) (S : im_S) : Kf kP kT (f_X9_nameOrWord x0 S) S := by
  unfold f_X9_nameOrWord
  repeat' first | with_reducible exact Kf_none _ | with_reducible refine Kf_gd ?_ | with_reducible refine Kf_ite ?_ ?_ | with_reducible refine Kf_bind ?_ (fun q => ?_) | with_reducible refine Kf_some ?_ | with_reducible exact Kp_refl _ | refine Kp_uI rfl ?_ | refine Kp_uJ rfl ?_ | with_reducible refine Kf_of ((f_X9_nameOrWord_L2_k _ _ _ _)) ?_
set_option maxHeartbeats 4000000 in
set_option maxRecDepth 100000 in
theorem f_X9_readLetters_L6_k (fu : Nat) : ∀ (nf : Nat) (y0 : Int32) (y1 : Int32) (y2 : Int64) (y3 : Int32) (S : im_S), Kf kP kT (f_X9_readLetters_L6 fu nf y0 y1 y2 y3 S) S := by
  intro nf
  induction nf with
  | zero => intro y0 y1 y2 y3 S; exact Kf_none _
  | succ nf ih =>
    intro y0 y1 y2 y3 S
    unfold f_X9_readLetters_L6
    repeat' first | with_reducible exact Kf_none _ | with_reducible refine Kf_gd ?_ | with_reducible refine Kf_ite ?_ ?_ | with_reducible refine Kf_bind ?_ (fun q => ?_) | with_reducible refine Kf_some ?_ | with_reducible exact Kp_refl _ | refine Kp_uI rfl ?_ | refine Kp_uJ rfl ?_ | with_reducible refine Kf_of ((f_X9_isDigit_k _ _)) ?_ | with_reducible refine Kf_of ((f_X9_isLetter_k _ _)) ?_ | with_reducible refine Kf_of ((f_X9_add_k _ _ _ _)) ?_ | with_reducible refine Kf_of ((f_X9_nameOrWord_k _ _)) ?_ | with_reducible refine Kf_of (ih _ _ _ _ _) ?_ | with_reducible exact ih
set_option maxHeartbeats 4000000 in
set_option maxRecDepth 100000 in
theorem f_X9_readLetters_k (fu : Nat) (x2 : Int32) (x3 : Int32) (S : im_S) : Kf kP kT (f_X9_readLetters fu x2 x3 S) S := by
  unfold f_X9_readLetters
  repeat' first | with_reducible exact Kf_none _ | with_reducible refine Kf_gd ?_ | with_reducible refine Kf_ite ?_ ?_ | with_reducible refine Kf_bind ?_ (fun q => ?_) | with_reducible refine Kf_some ?_ | with_reducible exact Kp_refl _ | refine Kp_uI rfl ?_ | refine Kp_uJ rfl ?_ | with_reducible refine Kf_of ((f_X9_readLetters_L6_k _ _ _ _ _ _ _)) ?_
set_option maxHeartbeats 4000000 in
set_option maxRecDepth 100000 in
theorem f_X9_readAt_k (fu : Nat) (x2 : Int32) (x3 : Int32) (S : im_S) : Kf kP kT (f_X9_readAt fu x2 x3 S) S := by
  unfold f_X9_readAt
  repeat' first | with_reducible exact Kf_none _ | with_reducible refine Kf_gd ?_ | with_reducible refine Kf_ite ?_ ?_ | with_reducible refine Kf_bind ?_ (fun q => ?_) | with_reducible refine Kf_some ?_ | with_reducible exact Kp_refl _ | refine Kp_uI rfl ?_ | refine Kp_uJ rfl ?_ | with_reducible refine Kf_of ((f_X9_isDigit_k _ _)) ?_ | with_reducible refine Kf_of ((f_X9_isLetter_k _ _)) ?_ | with_reducible refine Kf_of ((f_X9_add_k _ _ _ _)) ?_ | with_reducible refine Kf_of ((f_X9_readNumeral_k _ _ _ _)) ?_ | with_reducible refine Kf_of ((f_sg_indexOf_k _ _)) ?_ | with_reducible refine Kf_of ((f_X9_readLetters_k _ _ _ _)) ?_
set_option maxHeartbeats 4000000 in
set_option maxRecDepth 100000 in
theorem f_X9_read_L10_k (fu : Nat) : ∀ (nf : Nat) (y0 : Int32) (y1 : Int32) (y2 : Int32) (S : im_S), Kf kP kT (f_X9_read_L10 fu nf y0 y1 y2 S) S := by
  intro nf
  induction nf with
  | zero => intro y0 y1 y2 S; exact Kf_none _
  | succ nf ih =>
    intro y0 y1 y2 S
    unfold f_X9_read_L10
    repeat' first | with_reducible exact Kf_none _ | with_reducible refine Kf_gd ?_ | with_reducible refine Kf_ite ?_ ?_ | with_reducible refine Kf_bind ?_ (fun q => ?_) | with_reducible refine Kf_some ?_ | with_reducible exact Kp_refl _ | refine Kp_uI rfl ?_ | refine Kp_uJ rfl ?_ | with_reducible refine Kf_of ((f_X9_add_k _ _ _ _)) ?_ | with_reducible refine Kf_of ((f_X9_readAt_k _ _ _ _)) ?_ | with_reducible refine Kf_of (ih _ _ _ _) ?_ | with_reducible exact ih
set_option maxHeartbeats 4000000 in
set_option maxRecDepth 100000 in
theorem f_X9_read_k (fu : Nat) (x2 : Int32) (S : im_S) : Kf kP kT (f_X9_read fu x2 S) S := by
  unfold f_X9_read
  repeat' first | with_reducible exact Kf_none _ | with_reducible refine Kf_gd ?_ | with_reducible refine Kf_ite ?_ ?_ | with_reducible refine Kf_bind ?_ (fun q => ?_) | with_reducible refine Kf_some ?_ | with_reducible exact Kp_refl _ | refine Kp_uI rfl ?_ | refine Kp_uJ rfl ?_ | with_reducible refine Kf_of ((f_X9_read_L10_k _ _ _ _ _ _)) ?_
set_option maxHeartbeats 4000000 in
set_option maxRecDepth 100000 in
theorem f_X7_read_L51_k (fu : Nat) : ∀ (nf : Nat) (y0 : Int32) (y1 : Int32) (y2 : Int32) (S : im_S), Kf kP kT (f_X7_read_L51 fu nf y0 y1 y2 S) S := by
  intro nf
  induction nf with
  | zero => intro y0 y1 y2 S; exact Kf_none _
  | succ nf ih =>
    intro y0 y1 y2 S
    unfold f_X7_read_L51
    repeat' first | with_reducible exact Kf_none _ | with_reducible refine Kf_gd ?_ | with_reducible refine Kf_ite ?_ ?_ | with_reducible refine Kf_bind ?_ (fun q => ?_) | with_reducible refine Kf_some ?_ | with_reducible exact Kp_refl _ | refine Kp_uI rfl ?_ | refine Kp_uJ rfl ?_ | with_reducible refine Kf_of ((f_X7_kindHere_k _)) ?_ | with_reducible refine Kf_of ((f_X7_refuse_k _)) ?_ | with_reducible refine Kf_of ((f_X7_linkCalls_k _ _)) ?_ | with_reducible refine Kf_of ((f_X7_header_k _ _)) ?_ | with_reducible refine Kf_of ((f_X7_expression_k _ _)) ?_ | with_reducible refine Kf_of (ih _ _ _ _) ?_ | with_reducible exact ih
set_option maxHeartbeats 4000000 in
set_option maxRecDepth 100000 in
theorem f_X7_read_k (fu : Nat) (x2 : Int32) (S : im_S) : Kf kP kT (f_X7_read fu x2 S) S := by
  unfold f_X7_read
  repeat' first | with_reducible exact Kf_none _ | with_reducible refine Kf_gd ?_ | with_reducible refine Kf_ite ?_ ?_ | with_reducible refine Kf_bind ?_ (fun q => ?_) | with_reducible refine Kf_some ?_ | with_reducible exact Kp_refl _ | refine Kp_uI rfl ?_ | refine Kp_uJ rfl ?_ | with_reducible refine Kf_of ((f_X1_clear_k _)) ?_ | with_reducible refine Kf_of ((f_X3_clear_k _)) ?_ | with_reducible refine Kf_of ((f_X7_header_k _ _)) ?_ | with_reducible refine Kf_of ((f_X7_expression_k _ _)) ?_ | with_reducible refine Kf_of ((f_X9_read_k _ _ _)) ?_ | with_reducible refine Kf_of ((f_X7_read_L51_k _ _ _ _ _ _)) ?_
set_option maxHeartbeats 4000000 in
set_option maxRecDepth 100000 in
theorem f_gr65_k (n : Int32) (S : im_S) : Kf kM kG (f_gr65 n S) S := by
  unfold f_gr65
  repeat' first | with_reducible exact Kf_none _ | with_reducible refine Kf_gd ?_ | with_reducible refine Kf_ite ?_ ?_ | with_reducible refine Kf_bind ?_ (fun q => ?_) | with_reducible refine Kf_some ?_ | with_reducible exact Kp_refl _ | refine Kp_uI rfl ?_ | refine Kp_uJ rfl ?_ | refine Kp_gI rfl rfl ?_ | refine Kp_gJ rfl rfl ?_
set_option maxHeartbeats 4000000 in
set_option maxRecDepth 100000 in
theorem f_gr66_k (n : Int32) (S : im_S) : Kf kM kG (f_gr66 n S) S := by
  unfold f_gr66
  repeat' first | with_reducible exact Kf_none _ | with_reducible refine Kf_gd ?_ | with_reducible refine Kf_ite ?_ ?_ | with_reducible refine Kf_bind ?_ (fun q => ?_) | with_reducible refine Kf_some ?_ | with_reducible exact Kp_refl _ | refine Kp_uI rfl ?_ | refine Kp_uJ rfl ?_ | refine Kp_gI rfl rfl ?_ | refine Kp_gJ rfl rfl ?_
set_option maxHeartbeats 4000000 in
set_option maxRecDepth 100000 in
theorem f_gr68_k (n : Int32) (S : im_S) : Kf kM kG (f_gr68 n S) S := by
  unfold f_gr68
  repeat' first | with_reducible exact Kf_none _ | with_reducible refine Kf_gd ?_ | with_reducible refine Kf_ite ?_ ?_ | with_reducible refine Kf_bind ?_ (fun q => ?_) | with_reducible refine Kf_some ?_ | with_reducible exact Kp_refl _ | refine Kp_uI rfl ?_ | refine Kp_uJ rfl ?_ | refine Kp_gI rfl rfl ?_ | refine Kp_gJ rfl rfl ?_
set_option maxHeartbeats 4000000 in
set_option maxRecDepth 100000 in
theorem f_gr69_k (n : Int32) (S : im_S) : Kf kM kG (f_gr69 n S) S := by
  unfold f_gr69
  repeat' first | with_reducible exact Kf_none _ | with_reducible refine Kf_gd ?_ | with_reducible refine Kf_ite ?_ ?_ | with_reducible refine Kf_bind ?_ (fun q => ?_) | with_reducible refine Kf_some ?_ | with_reducible exact Kp_refl _ | refine Kp_uI rfl ?_ | refine Kp_uJ rfl ?_ | refine Kp_gI rfl rfl ?_ | refine Kp_gJ rfl rfl ?_
set_option maxHeartbeats 4000000 in
set_option maxRecDepth 100000 in
theorem f_gr70_k (n : Int32) (S : im_S) : Kf kM kG (f_gr70 n S) S := by
  unfold f_gr70
  repeat' first | with_reducible exact Kf_none _ | with_reducible refine Kf_gd ?_ | with_reducible refine Kf_ite ?_ ?_ | with_reducible refine Kf_bind ?_ (fun q => ?_) | with_reducible refine Kf_some ?_ | with_reducible exact Kp_refl _ | refine Kp_uI rfl ?_ | refine Kp_uJ rfl ?_ | refine Kp_gI rfl rfl ?_ | refine Kp_gJ rfl rfl ?_
set_option maxHeartbeats 4000000 in
set_option maxRecDepth 100000 in
theorem f_gr71_k (n : Int32) (S : im_S) : Kf kM kG (f_gr71 n S) S := by
  unfold f_gr71
  repeat' first | with_reducible exact Kf_none _ | with_reducible refine Kf_gd ?_ | with_reducible refine Kf_ite ?_ ?_ | with_reducible refine Kf_bind ?_ (fun q => ?_) | with_reducible refine Kf_some ?_ | with_reducible exact Kp_refl _ | refine Kp_uI rfl ?_ | refine Kp_uJ rfl ?_ | refine Kp_gI rfl rfl ?_ | refine Kp_gJ rfl rfl ?_
set_option maxHeartbeats 4000000 in
set_option maxRecDepth 100000 in
theorem f_gr73_k (n : Int32) (S : im_S) : Kf kM kG (f_gr73 n S) S := by
  unfold f_gr73
  repeat' first | with_reducible exact Kf_none _ | with_reducible refine Kf_gd ?_ | with_reducible refine Kf_ite ?_ ?_ | with_reducible refine Kf_bind ?_ (fun q => ?_) | with_reducible refine Kf_some ?_ | with_reducible exact Kp_refl _ | refine Kp_uI rfl ?_ | refine Kp_uJ rfl ?_ | refine Kp_gI rfl rfl ?_ | refine Kp_gJ rfl rfl ?_
set_option maxHeartbeats 4000000 in
set_option maxRecDepth 100000 in
theorem f_gr74_k (n : Int32) (S : im_S) : Kf kM kG (f_gr74 n S) S := by
  unfold f_gr74
  repeat' first | with_reducible exact Kf_none _ | with_reducible refine Kf_gd ?_ | with_reducible refine Kf_ite ?_ ?_ | with_reducible refine Kf_bind ?_ (fun q => ?_) | with_reducible refine Kf_some ?_ | with_reducible exact Kp_refl _ | refine Kp_uI rfl ?_ | refine Kp_uJ rfl ?_ | refine Kp_gI rfl rfl ?_ | refine Kp_gJ rfl rfl ?_
set_option maxHeartbeats 4000000 in
set_option maxRecDepth 100000 in
theorem f_X0_add_k (x1 : Int32) (x2 : Int32) (S : im_S) : Kf kM kG (f_X0_add x1 x2 S) S := by
  unfold f_X0_add
  repeat' first | with_reducible exact Kf_none _ | with_reducible refine Kf_gd ?_ | with_reducible refine Kf_ite ?_ ?_ | with_reducible refine Kf_bind ?_ (fun q => ?_) | with_reducible refine Kf_some ?_ | with_reducible exact Kp_refl _ | refine Kp_uI rfl ?_ | refine Kp_uJ rfl ?_ | with_reducible refine Kf_of ((f_gr73_k _ _)) ?_ | with_reducible refine Kf_of ((f_gr74_k _ _)) ?_
set_option maxHeartbeats 4000000 in
set_option maxRecDepth 100000 in
theorem f_X2_add_k (x1 : Int32) (x2 : Int32) (x3 : Int32) (S : im_S) : Kf kM kG (f_X2_add x1 x2 x3 S) S := by
  unfold f_X2_add
  repeat' first | with_reducible exact Kf_none _ | with_reducible refine Kf_gd ?_ | with_reducible refine Kf_ite ?_ ?_ | with_reducible refine Kf_bind ?_ (fun q => ?_) | with_reducible refine Kf_some ?_ | with_reducible exact Kp_refl _ | refine Kp_uI rfl ?_ | refine Kp_uJ rfl ?_ | with_reducible refine Kf_of ((f_gr68_k _ _)) ?_ | with_reducible refine Kf_of ((f_gr69_k _ _)) ?_ | with_reducible refine Kf_of ((f_gr70_k _ _)) ?_ | with_reducible refine Kf_of ((f_gr71_k _ _)) ?_
set_option maxHeartbeats 4000000 in
set_option maxRecDepth 100000 in
theorem f_X8_take_k (fu : Nat) (x1 : Int32) (S : im_S) : Kf kM kG (f_X8_take fu x1 S) S := by
  unfold f_X8_take
  repeat' first | with_reducible exact Kf_none _ | with_reducible refine Kf_gd ?_ | with_reducible refine Kf_ite ?_ ?_ | with_reducible refine Kf_bind ?_ (fun q => ?_) | with_reducible refine Kf_some ?_ | with_reducible exact Kp_refl _ | refine Kp_uI rfl ?_ | refine Kp_uJ rfl ?_ | with_reducible refine Kf_of (Kf_wk (f_J7_fill_bad5a_k _ _ _ _ _)) ?_ | with_reducible refine Kf_of (Kf_wk (f_J7_fill_eb02e_k _ _ _ _ _)) ?_ | with_reducible refine Kf_of ((f_gr65_k _ _)) ?_ | with_reducible refine Kf_of ((f_gr66_k _ _)) ?_
set_option maxHeartbeats 4000000 in
set_option maxRecDepth 100000 in
theorem f_X5_openFrame_k (fu : Nat) (x1 : Int32) (x2 : Int32) (x3 : Int32) (S : im_S) : Kf kM kG (f_X5_openFrame fu x1 x2 x3 S) S := by
  unfold f_X5_openFrame
  repeat' first | with_reducible exact Kf_none _ | with_reducible refine Kf_gd ?_ | with_reducible refine Kf_ite ?_ ?_ | with_reducible refine Kf_bind ?_ (fun q => ?_) | with_reducible refine Kf_some ?_ | with_reducible exact Kp_refl _ | refine Kp_uI rfl ?_ | refine Kp_uJ rfl ?_ | with_reducible refine Kf_of ((f_X2_add_k _ _ _ _)) ?_ | with_reducible refine Kf_of ((f_X8_take_k _ _ _)) ?_
set_option maxHeartbeats 4000000 in
set_option maxRecDepth 100000 in
theorem f_X5_enter_L16_k (fu : Nat) : ∀ (nf : Nat) (y0 : Int32) (y1 : Int32) (y2 : Int32) (y3 : Int32) (S : im_S), Kf kM kG (f_X5_enter_L16 fu nf y0 y1 y2 y3 S) S := by
  intro nf
  induction nf with
  | zero => intro y0 y1 y2 y3 S; exact Kf_none _
  | succ nf ih =>
    intro y0 y1 y2 y3 S
    unfold f_X5_enter_L16
    repeat' first | with_reducible exact Kf_none _ | with_reducible refine Kf_gd ?_ | with_reducible refine Kf_ite ?_ ?_ | with_reducible refine Kf_bind ?_ (fun q => ?_) | with_reducible refine Kf_some ?_ | with_reducible exact Kp_refl _ | refine Kp_uI rfl ?_ | refine Kp_uJ rfl ?_ | with_reducible refine Kf_of ((f_X0_add_k _ _ _)) ?_ | with_reducible refine Kf_of (ih _ _ _ _ _) ?_ | with_reducible exact ih
set_option maxHeartbeats 4000000 in
set_option maxRecDepth 100000 in
theorem f_X5_enter_k (fu : Nat) (x1 : Int32) (x2 : Int32) (S : im_S) : Kf kM kG (f_X5_enter fu x1 x2 S) S := by
  unfold f_X5_enter
  repeat' first | with_reducible exact Kf_none _ | with_reducible refine Kf_gd ?_ | with_reducible refine Kf_ite ?_ ?_ | with_reducible refine Kf_bind ?_ (fun q => ?_) | with_reducible refine Kf_some ?_ | with_reducible exact Kp_refl _ | refine Kp_uI rfl ?_ | refine Kp_uJ rfl ?_ | with_reducible refine Kf_of ((f_X5_enter_L16_k _ _ _ _ _ _ _)) ?_
set_option maxHeartbeats 4000000 in
set_option maxRecDepth 100000 in
theorem f_X5_await_k (x1 : Int32) (x2 : Int32) (x3 : Int32) (S : im_S) : Kf kM kG (f_X5_await x1 x2 x3 S) S := by
  unfold f_X5_await
  repeat' first | with_reducible exact Kf_none _ | with_reducible refine Kf_gd ?_ | with_reducible refine Kf_ite ?_ ?_ | with_reducible refine Kf_bind ?_ (fun q => ?_) | with_reducible refine Kf_some ?_ | with_reducible exact Kp_refl _ | refine Kp_uI rfl ?_ | refine Kp_uJ rfl ?_ | with_reducible refine Kf_of ((f_X0_add_k _ _ _)) ?_
set_option maxHeartbeats 4000000 in
set_option maxRecDepth 100000 in
theorem f_X5_lookUp_k (fu : Nat) (x1 : Int32) (x2 : Int32) (S : im_S) : Kf kM kG (f_X5_lookUp fu x1 x2 S) S := by
  unfold f_X5_lookUp
  repeat' first | with_reducible exact Kf_none _ | with_reducible refine Kf_gd ?_ | with_reducible refine Kf_ite ?_ ?_ | with_reducible refine Kf_bind ?_ (fun q => ?_) | with_reducible refine Kf_some ?_ | with_reducible exact Kp_refl _ | refine Kp_uI rfl ?_ | refine Kp_uJ rfl ?_ | with_reducible refine Kf_of (Kf_wk (f_X2_outward_k _ _ _ _)) ?_ | with_reducible refine Kf_of (Kf_wk (f_X5_slotOf_k _ _ _)) ?_ | with_reducible refine Kf_of (Kf_wk (f_X5_send_k _ _ _ _ _)) ?_ | with_reducible refine Kf_of ((f_X5_await_k _ _ _ _)) ?_
set_option maxHeartbeats 4000000 in
set_option maxRecDepth 100000 in
theorem f_X5_beginLoop_L52_k (fu : Nat) : ∀ (nf : Nat) (y0 : Int32) (y1 : Int32) (y2 : Int32) (y3 : Int32) (y4 : Int32) (y5 : Int32) (S : im_S), Kf kM kG (f_X5_beginLoop_L52 fu nf y0 y1 y2 y3 y4 y5 S) S := by
  intro nf
  induction nf with
  | zero => intro y0 y1 y2 y3 y4 y5 S; exact Kf_none _
  | succ nf ih =>
    intro y0 y1 y2 y3 y4 y5 S
    unfold f_X5_beginLoop_L52
    repeat' first | with_reducible exact Kf_none _ | with_reducible refine Kf_gd ?_ | with_reducible refine Kf_ite ?_ ?_ | with_reducible refine Kf_bind ?_ (fun q => ?_) | with_reducible refine Kf_some ?_ | with_reducible exact Kp_refl _ | refine Kp_uI rfl ?_ | refine Kp_uJ rfl ?_ | with_reducible refine Kf_of (Kf_wk (f_X5_handIn_k _ _ _ _ _)) ?_ | with_reducible refine Kf_of ((f_X5_enter_k _ _ _ _)) ?_ | with_reducible refine Kf_of (ih _ _ _ _ _ _ _) ?_ | with_reducible exact ih
set_option maxHeartbeats 4000000 in
set_option maxRecDepth 100000 in
theorem f_X5_beginLoop_k (fu : Nat) (x1 : Int32) (x2 : Int32) (S : im_S) : Kf kM kG (f_X5_beginLoop fu x1 x2 S) S := by
  unfold f_X5_beginLoop
  repeat' first | with_reducible exact Kf_none _ | with_reducible refine Kf_gd ?_ | with_reducible refine Kf_ite ?_ ?_ | with_reducible refine Kf_bind ?_ (fun q => ?_) | with_reducible refine Kf_some ?_ | with_reducible exact Kp_refl _ | refine Kp_uI rfl ?_ | refine Kp_uJ rfl ?_ | with_reducible refine Kf_of (Kf_wk (f_X5_slotOf_k _ _ _)) ?_ | with_reducible refine Kf_of ((f_X5_openFrame_k _ _ _ _ _)) ?_ | with_reducible refine Kf_of ((f_X5_beginLoop_L52_k _ _ _ _ _ _ _ _ _)) ?_
set_option maxHeartbeats 4000000 in
set_option maxRecDepth 100000 in
theorem f_X5_visit_k (fu : Nat) (x1 : Int32) (x2 : Int32) (S : im_S) : Kf kM kG (f_X5_visit fu x1 x2 S) S := by
  unfold f_X5_visit
  repeat' first | with_reducible exact Kf_none _ | with_reducible refine Kf_gd ?_ | with_reducible refine Kf_ite ?_ ?_ | with_reducible refine Kf_bind ?_ (fun q => ?_) | with_reducible refine Kf_some ?_ | with_reducible exact Kp_refl _ | refine Kp_uI rfl ?_ | refine Kp_uJ rfl ?_ | with_reducible refine Kf_of (Kf_wk (f_X5_makeReady_k _ _ _)) ?_ | with_reducible refine Kf_of (Kf_wk (f_X5_send_k _ _ _ _ _)) ?_ | with_reducible refine Kf_of ((f_X5_lookUp_k _ _ _ _)) ?_ | with_reducible refine Kf_of ((f_X5_beginLoop_k _ _ _ _)) ?_
set_option maxHeartbeats 4000000 in
set_option maxRecDepth 100000 in
theorem f_X5_meet_k (x1 : Int32) (S : im_S) : Kf kM kG (f_X5_meet x1 S) S := by
  unfold f_X5_meet
  repeat' first | with_reducible exact Kf_none _ | with_reducible refine Kf_gd ?_ | with_reducible refine Kf_ite ?_ ?_ | with_reducible refine Kf_bind ?_ (fun q => ?_) | with_reducible refine Kf_some ?_ | with_reducible exact Kp_refl _ | refine Kp_uI rfl ?_ | refine Kp_uJ rfl ?_ | with_reducible refine Kf_of (Kf_wk (f_X5_slotOf_k _ _ _)) ?_ | with_reducible refine Kf_of (Kf_wk (f_X5_makeReady_k _ _ _)) ?_ | with_reducible refine Kf_of (Kf_wk (f_X5_cellAt_k _ _ _)) ?_ | with_reducible refine Kf_of ((f_X5_await_k _ _ _ _)) ?_
set_option maxHeartbeats 4000000 in
set_option maxRecDepth 100000 in
theorem f_X5_move_k (fu : Nat) (S : im_S) : Kf kM kG (f_X5_move fu S) S := by
  unfold f_X5_move
  repeat' first | with_reducible exact Kf_none _ | with_reducible refine Kf_gd ?_ | with_reducible refine Kf_ite ?_ ?_ | with_reducible refine Kf_bind ?_ (fun q => ?_) | with_reducible refine Kf_some ?_ | with_reducible exact Kp_refl _ | refine Kp_uI rfl ?_ | refine Kp_uJ rfl ?_ | with_reducible refine Kf_of (Kf_wk (f_X8_put_k _ _ _ _)) ?_ | with_reducible refine Kf_of (Kf_wk (f_X5_slotOf_k _ _ _)) ?_ | with_reducible refine Kf_of (Kf_wk (f_X5_makeReady_k _ _ _)) ?_ | with_reducible refine Kf_of (Kf_wk (f_X5_send_k _ _ _ _ _)) ?_ | with_reducible refine Kf_of (Kf_wk (f_X5_leaveFunction_k _)) ?_ | with_reducible refine Kf_of (Kf_wk (f_X5_settle_k _ _ _ _ _)) ?_ | with_reducible refine Kf_of (Kf_wk (f_X5_handIn_k _ _ _ _ _)) ?_ | with_reducible refine Kf_of ((f_X5_meet_k _ _)) ?_
set_option maxHeartbeats 4000000 in
set_option maxRecDepth 100000 in
theorem f_X5_flow_L2_k (fu : Nat) : ∀ (nf : Nat) (y0 : Int32) (S : im_S), Kf kM kG (f_X5_flow_L2 fu nf y0 S) S := by
  intro nf
  induction nf with
  | zero => intro y0 S; exact Kf_none _
  | succ nf ih =>
    intro y0 S
    unfold f_X5_flow_L2
    repeat' first | with_reducible exact Kf_none _ | with_reducible refine Kf_gd ?_ | with_reducible refine Kf_ite ?_ ?_ | with_reducible refine Kf_bind ?_ (fun q => ?_) | with_reducible refine Kf_some ?_ | with_reducible exact Kp_refl _ | refine Kp_uI rfl ?_ | refine Kp_uJ rfl ?_ | with_reducible refine Kf_of (Kf_wk (f_X0_release_k _ _)) ?_ | with_reducible refine Kf_of ((f_X5_visit_k _ _ _ _)) ?_ | with_reducible refine Kf_of ((f_X5_move_k _ _)) ?_ | with_reducible refine Kf_of (ih _ _) ?_ | with_reducible exact ih
set_option maxHeartbeats 4000000 in
set_option maxRecDepth 100000 in
theorem f_X5_flow_k (fu : Nat) (S : im_S) : Kf kM kG (f_X5_flow fu S) S := by
  unfold f_X5_flow
  repeat' first | with_reducible exact Kf_none _ | with_reducible refine Kf_gd ?_ | with_reducible refine Kf_ite ?_ ?_ | with_reducible refine Kf_bind ?_ (fun q => ?_) | with_reducible refine Kf_some ?_ | with_reducible exact Kp_refl _ | refine Kp_uI rfl ?_ | refine Kp_uJ rfl ?_ | with_reducible refine Kf_of ((f_X5_flow_L2_k _ _ _ _)) ?_
set_option maxHeartbeats 4000000 in
set_option maxRecDepth 100000 in
theorem f_X5_choose_k (fu : Nat) (x1 : Int32) (x2 : Int32) (S : im_S) : Kf kM kG (f_X5_choose fu x1 x2 S) S := by
  unfold f_X5_choose
  repeat' first | with_reducible exact Kf_none _ | with_reducible refine Kf_gd ?_ | with_reducible refine Kf_ite ?_ ?_ | with_reducible refine Kf_bind ?_ (fun q => ?_) | with_reducible refine Kf_some ?_ | with_reducible exact Kp_refl _ | refine Kp_uI rfl ?_ | refine Kp_uJ rfl ?_ | with_reducible refine Kf_of (Kf_wk (f_X5_slotOf_k _ _ _)) ?_ | with_reducible refine Kf_of (Kf_wk (f_X5_send_k _ _ _ _ _)) ?_ | with_reducible refine Kf_of ((f_X5_enter_k _ _ _ _)) ?_
set_option maxHeartbeats 4000000 in
set_option maxRecDepth 100000 in
theorem f_X5_enterFunction_L63_k (fu : Nat) : ∀ (nf : Nat) (y0 : Int32) (y1 : Int32) (y2 : Int32) (y3 : Int32) (y4 : Int32) (y5 : Int32) (S : im_S), Kf kM kG (f_X5_enterFunction_L63 fu nf y0 y1 y2 y3 y4 y5 S) S := by
  intro nf
  induction nf with
  | zero => intro y0 y1 y2 y3 y4 y5 S; exact Kf_none _
  | succ nf ih =>
    intro y0 y1 y2 y3 y4 y5 S
    unfold f_X5_enterFunction_L63
    repeat' first | with_reducible exact Kf_none _ | with_reducible refine Kf_gd ?_ | with_reducible refine Kf_ite ?_ ?_ | with_reducible refine Kf_bind ?_ (fun q => ?_) | with_reducible refine Kf_some ?_ | with_reducible exact Kp_refl _ | refine Kp_uI rfl ?_ | refine Kp_uJ rfl ?_ | with_reducible refine Kf_of (Kf_wk (f_X5_handIn_k _ _ _ _ _)) ?_ | with_reducible refine Kf_of ((f_X5_enter_k _ _ _ _)) ?_ | with_reducible refine Kf_of (ih _ _ _ _ _ _ _) ?_ | with_reducible exact ih
set_option maxHeartbeats 4000000 in
set_option maxRecDepth 100000 in
theorem f_X5_enterFunction_k (fu : Nat) (x1 : Int32) (x2 : Int32) (S : im_S) : Kf kM kG (f_X5_enterFunction fu x1 x2 S) S := by
  unfold f_X5_enterFunction
  repeat' first | with_reducible exact Kf_none _ | with_reducible refine Kf_gd ?_ | with_reducible refine Kf_ite ?_ ?_ | with_reducible refine Kf_bind ?_ (fun q => ?_) | with_reducible refine Kf_some ?_ | with_reducible exact Kp_refl _ | refine Kp_uI rfl ?_ | refine Kp_uJ rfl ?_ | with_reducible refine Kf_of (Kf_wk (f_X5_slotOf_k _ _ _)) ?_ | with_reducible refine Kf_of ((f_X5_openFrame_k _ _ _ _ _)) ?_ | with_reducible refine Kf_of ((f_X5_enterFunction_L63_k _ _ _ _ _ _ _ _ _)) ?_
set_option maxHeartbeats 4000000 in
set_option maxRecDepth 100000 in
theorem f_X5_endRound_k (fu : Nat) (x1 : Int32) (x2 : Int32) (S : im_S) : Kf kM kG (f_X5_endRound fu x1 x2 S) S := by
  unfold f_X5_endRound
  repeat' first | with_reducible exact Kf_none _ | with_reducible refine Kf_gd ?_ | with_reducible refine Kf_ite ?_ ?_ | with_reducible refine Kf_bind ?_ (fun q => ?_) | with_reducible refine Kf_some ?_ | with_reducible exact Kp_refl _ | refine Kp_uI rfl ?_ | refine Kp_uJ rfl ?_ | with_reducible refine Kf_of (Kf_wk (f_X5_slotOf_k _ _ _)) ?_ | with_reducible refine Kf_of (Kf_wk (f_X5_send_k _ _ _ _ _)) ?_ | with_reducible refine Kf_of ((f_X5_openFrame_k _ _ _ _ _)) ?_ | with_reducible refine Kf_of ((f_X5_enter_k _ _ _ _)) ?_
set_option maxHeartbeats 4000000 in
set_option maxRecDepth 100000 in
theorem f_X5_makeTable_L114_k (fu : Nat) : ∀ (nf : Nat) (y0 : Int32) (y1 : Int32) (y2 : Int32) (y3 : Int64) (y4 : Int32) (y5 : Int32) (y6 : Int32) (S : im_S), Kf kM kG (f_X5_makeTable_L114 fu nf y0 y1 y2 y3 y4 y5 y6 S) S := by
  intro nf
  induction nf with
  | zero => intro y0 y1 y2 y3 y4 y5 y6 S; exact Kf_none _
  | succ nf ih =>
    intro y0 y1 y2 y3 y4 y5 y6 S
    unfold f_X5_makeTable_L114
    repeat' first | with_reducible exact Kf_none _ | with_reducible refine Kf_gd ?_ | with_reducible refine Kf_ite ?_ ?_ | with_reducible refine Kf_bind ?_ (fun q => ?_) | with_reducible refine Kf_some ?_ | with_reducible exact Kp_refl _ | refine Kp_uI rfl ?_ | refine Kp_uJ rfl ?_ | with_reducible refine Kf_of (Kf_wk (f_X8_tableOf_k _ _ _)) ?_ | with_reducible refine Kf_of (Kf_wk (f_X5_makeReady_k _ _ _)) ?_ | with_reducible refine Kf_of (Kf_wk (f_X5_send_k _ _ _ _ _)) ?_ | with_reducible refine Kf_of ((f_X5_openFrame_k _ _ _ _ _)) ?_ | with_reducible refine Kf_of (ih _ _ _ _ _ _ _ _) ?_ | with_reducible exact ih
set_option maxHeartbeats 4000000 in
set_option maxRecDepth 100000 in
theorem f_X5_makeTable_k (fu : Nat) (x1 : Int32) (x2 : Int32) (S : im_S) : Kf kM kG (f_X5_makeTable fu x1 x2 S) S := by
  unfold f_X5_makeTable
  repeat' first | with_reducible exact Kf_none _ | with_reducible refine Kf_gd ?_ | with_reducible refine Kf_ite ?_ ?_ | with_reducible refine Kf_bind ?_ (fun q => ?_) | with_reducible refine Kf_some ?_ | with_reducible exact Kp_refl _ | refine Kp_uI rfl ?_ | refine Kp_uJ rfl ?_ | with_reducible refine Kf_of (Kf_wk (f_X5_slotOf_k _ _ _)) ?_ | with_reducible refine Kf_of (Kf_wk (f_X5_send_k _ _ _ _ _)) ?_ | with_reducible refine Kf_of ((f_X8_take_k _ _ _)) ?_ | with_reducible refine Kf_of ((f_X5_makeTable_L114_k _ _ _ _ _ _ _ _ _ _)) ?_
set_option maxHeartbeats 4000000 in
set_option maxRecDepth 100000 in
theorem f_X5_enterCell_k (fu : Nat) (x1 : Int32) (x2 : Int32) (S : im_S) : Kf kM kG (f_X5_enterCell fu x1 x2 S) S := by
  unfold f_X5_enterCell
  repeat' first | with_reducible exact Kf_none _ | with_reducible refine Kf_gd ?_ | with_reducible refine Kf_ite ?_ ?_ | with_reducible refine Kf_bind ?_ (fun q => ?_) | with_reducible refine Kf_some ?_ | with_reducible exact Kp_refl _ | refine Kp_uI rfl ?_ | refine Kp_uJ rfl ?_ | with_reducible refine Kf_of (Kf_wk (f_X8_firstCell_k _ _)) ?_ | with_reducible refine Kf_of (Kf_wk (f_X5_slotOf_k _ _ _)) ?_ | with_reducible refine Kf_of (Kf_wk (f_X5_settle_k _ _ _ _ _)) ?_ | with_reducible refine Kf_of ((f_X5_enter_k _ _ _ _)) ?_
set_option maxHeartbeats 4000000 in
set_option maxRecDepth 100000 in
theorem f_X5_happen_k (fu : Nat) (x1 : Int32) (S : im_S) : Kf kM kG (f_X5_happen fu x1 S) S := by
  unfold f_X5_happen
  repeat' first | with_reducible exact Kf_none _ | with_reducible refine Kf_gd ?_ | with_reducible refine Kf_ite ?_ ?_ | with_reducible refine Kf_bind ?_ (fun q => ?_) | with_reducible refine Kf_some ?_ | with_reducible exact Kp_refl _ | refine Kp_uI rfl ?_ | refine Kp_uJ rfl ?_ | with_reducible refine Kf_of (Kf_wk (f_X5_turn_k _ _ _)) ?_ | with_reducible refine Kf_of (Kf_wk (f_X5_operate_k _ _ _)) ?_ | with_reducible refine Kf_of (Kf_wk (f_X5_pickCell_k _ _ _)) ?_ | with_reducible refine Kf_of ((f_X5_choose_k _ _ _ _)) ?_ | with_reducible refine Kf_of ((f_X5_enterFunction_k _ _ _ _)) ?_ | with_reducible refine Kf_of ((f_X5_endRound_k _ _ _ _)) ?_ | with_reducible refine Kf_of ((f_X5_makeTable_k _ _ _ _)) ?_ | with_reducible refine Kf_of ((f_X5_enterCell_k _ _ _ _)) ?_
set_option maxHeartbeats 4000000 in
set_option maxRecDepth 100000 in
theorem f_X5_begin_L90_k (fu : Nat) : ∀ (nf : Nat) (y0 : Int32) (y1 : Int32) (y2 : Int32) (y3 : Int32) (y4 : Int32) (S : im_S), Kf kM kG (f_X5_begin_L90 fu nf y0 y1 y2 y3 y4 S) S := by
  intro nf
  induction nf with
  | zero => intro y0 y1 y2 y3 y4 S; exact Kf_none _
  | succ nf ih =>
    intro y0 y1 y2 y3 y4 S
    unfold f_X5_begin_L90
    repeat' first | with_reducible exact Kf_none _ | with_reducible refine Kf_gd ?_ | with_reducible refine Kf_ite ?_ ?_ | with_reducible refine Kf_bind ?_ (fun q => ?_) | with_reducible refine Kf_some ?_ | with_reducible exact Kp_refl _ | refine Kp_uI rfl ?_ | refine Kp_uJ rfl ?_ | with_reducible refine Kf_of (Kf_wk (f_X8_put_k _ _ _ _)) ?_ | with_reducible refine Kf_of (Kf_wk (f_X5_slotOf_k _ _ _)) ?_ | with_reducible refine Kf_of ((f_X5_enter_k _ _ _ _)) ?_ | with_reducible refine Kf_of ((f_X5_flow_k _ _)) ?_ | with_reducible refine Kf_of (ih _ _ _ _ _ _) ?_ | with_reducible exact ih
set_option maxHeartbeats 4000000 in
set_option maxRecDepth 100000 in
theorem f_X5_begin_k (fu : Nat) (x1 : Int32) (S : im_S) : Kf kM kG (f_X5_begin fu x1 S) S := by
  unfold f_X5_begin
  repeat' first | with_reducible exact Kf_none _ | with_reducible refine Kf_gd ?_ | with_reducible refine Kf_ite ?_ ?_ | with_reducible refine Kf_bind ?_ (fun q => ?_) | with_reducible refine Kf_some ?_ | with_reducible exact Kp_refl _ | refine Kp_uI rfl ?_ | refine Kp_uJ rfl ?_ | with_reducible refine Kf_of (Kf_wk (f_X0_clear_k _)) ?_ | with_reducible refine Kf_of (Kf_wk (f_X2_clear_k _)) ?_ | with_reducible refine Kf_of (Kf_wk (f_X8_clear_k _)) ?_ | with_reducible refine Kf_of ((f_X5_openFrame_k _ _ _ _ _)) ?_ | with_reducible refine Kf_of ((f_X5_begin_L90_k _ _ _ _ _ _ _ _)) ?_
set_option maxHeartbeats 4000000 in
set_option maxRecDepth 100000 in
theorem f_X5_run_L6_k (fu : Nat) : ∀ (nf : Nat) (y0 : Int32) (y1 : Int64) (y2 : Int64) (y3 : Int32) (S : im_S), Kf kM kG (f_X5_run_L6 fu nf y0 y1 y2 y3 S) S := by
  intro nf
  induction nf with
  | zero => intro y0 y1 y2 y3 S; exact Kf_none _
  | succ nf ih =>
    intro y0 y1 y2 y3 S
    unfold f_X5_run_L6
    repeat' first | with_reducible exact Kf_none _ | with_reducible refine Kf_gd ?_ | with_reducible refine Kf_ite ?_ ?_ | with_reducible refine Kf_bind ?_ (fun q => ?_) | with_reducible refine Kf_some ?_ | with_reducible exact Kp_refl _ | refine Kp_uI rfl ?_ | refine Kp_uJ rfl ?_ | with_reducible refine Kf_of (Kf_wk (f_J9_floorMod_f86c9_k _ _ _)) ?_ | with_reducible refine Kf_of (Kf_wk (f_X5_condition_k _)) ?_ | with_reducible refine Kf_of ((f_X5_flow_k _ _)) ?_ | with_reducible refine Kf_of ((f_X5_happen_k _ _ _)) ?_ | with_reducible refine Kf_of (ih _ _ _ _ _) ?_ | with_reducible exact ih
set_option maxHeartbeats 4000000 in
set_option maxRecDepth 100000 in
theorem f_X5_run_k (fu : Nat) (x1 : Int32) (x2 : Int64) (S : im_S) : Kf kM kG (f_X5_run fu x1 x2 S) S := by
  unfold f_X5_run
  repeat' first | with_reducible exact Kf_none _ | with_reducible refine Kf_gd ?_ | with_reducible refine Kf_ite ?_ ?_ | with_reducible refine Kf_bind ?_ (fun q => ?_) | with_reducible refine Kf_some ?_ | with_reducible exact Kp_refl _ | refine Kp_uI rfl ?_ | refine Kp_uJ rfl ?_ | with_reducible refine Kf_of ((f_X5_run_L6_k _ _ _ _ _ _ _)) ?_
