/-! the count of events and whether a run began stay: written by program (wip/whole/mkframe5.py) -/
def Vem (i j : Nat) : Bool := Nat.beq i 38 && (Nat.beq j 2 || Nat.beq j 9)
def Veq (S S1 : im_S) : Prop := S1.1 38 2 = S.1 38 2 ∧ S1.1 38 9 = S.1 38 9
theorem Veq_refl (S : im_S) : Veq S S := ⟨rfl, rfl⟩
theorem Veq_trans {S S1 S2 : im_S} (a : Veq S S1) (b : Veq S1 S2) : Veq S S2 := ⟨b.1.trans a.1, b.2.trans a.2⟩
theorem Vem_ne {a j : Nat} (h : Vem a j = false) : (38 ≠ a ∨ 2 ≠ j) ∧ (38 ≠ a ∨ 9 ≠ j) := by
  by_cases ha : 38 = a
  · subst ha
    refine ⟨Or.inr (fun z => ?_), Or.inr (fun z => ?_)⟩ <;> (rw [← z] at h; exact absurd h (by decide))
  · exact ⟨Or.inl ha, Or.inl ha⟩
theorem Veq_uI {S S1 : im_S} {a j : Nat} {v : Int32} (h : Vem a j = false) (k : Veq S S1) : Veq S (uI S1 a j v) := ⟨(uI_ne (Vem_ne h).1).trans k.1, (uI_ne (Vem_ne h).2).trans k.2⟩
theorem Veq_uJ {S S1 : im_S} {a j : Nat} {v : Int64} (k : Veq S S1) : Veq S (uJ S1 a j v) := k
def Veh {α : Type} (x : Option (α × im_S)) (S : im_S) : Prop := ∀ (r : α) (S' : im_S), x = some (r, S') → Veq S S'
theorem Veh_none {α : Type} (S : im_S) : Veh (none : Option (α × im_S)) S := fun _ _ h => by cases h
theorem Veh_gd {α : Type} {b : Bool} {x : Option (α × im_S)} {S : im_S} (h : Veh x S) : Veh (gd b x) S := fun r S' e => h r S' (gd_some e).2
theorem Veh_some {α : Type} {r : α} {S S1 : im_S} (k : Veq S S1) : Veh (some (r, S1)) S := fun _ _ h => by cases h; exact k
theorem Veh_ite {α : Type} {c : Prop} [Decidable c] {x y : Option (α × im_S)} {S : im_S} (h1 : Veh x S) (h2 : Veh y S) : Veh (if c then x else y) S := by
  by_cases hc : c
  · rw [if_pos hc]; exact h1
  · rw [if_neg hc]; exact h2
theorem Veh_bind {α β : Type} {x : Option (α × im_S)} {f : α × im_S → Option (β × im_S)} {S : im_S} (h1 : Veh x S) (h2 : ∀ q : α × im_S, Veh (f q) q.2) : Veh (x.bind f) S := by
  intro r S' e
  obtain ⟨a, ha, hb⟩ := bd_some e
  exact Veq_trans (h1 a.1 a.2 ha) (h2 a r S' hb)
theorem Veh_of {α : Type} {x : Option (α × im_S)} {S1 S : im_S} (h : Veh x S1) (k : Veq S S1) : Veh x S := fun r S' e => Veq_trans k (h r S' e)
theorem f_gr65_qve (n : Int32) (S : im_S) : Veh (f_gr65 n S) S := fun r S2 h => by
  rw [(gr65_some h).2.1]
  exact ⟨rfl, rfl⟩
theorem f_gr66_qve (n : Int32) (S : im_S) : Veh (f_gr66 n S) S := fun r S2 h => by
  rw [(gr66_some h).2.1]
  exact ⟨rfl, rfl⟩
theorem f_gr68_qve (n : Int32) (S : im_S) : Veh (f_gr68 n S) S := fun r S2 h => by
  rw [(gr68_some h).2.1]
  exact ⟨rfl, rfl⟩
theorem f_gr69_qve (n : Int32) (S : im_S) : Veh (f_gr69 n S) S := fun r S2 h => by
  rw [(gr69_some h).2.1]
  exact ⟨rfl, rfl⟩
theorem f_gr70_qve (n : Int32) (S : im_S) : Veh (f_gr70 n S) S := fun r S2 h => by
  rw [(gr70_some h).2.1]
  exact ⟨rfl, rfl⟩
theorem f_gr71_qve (n : Int32) (S : im_S) : Veh (f_gr71 n S) S := fun r S2 h => by
  rw [(gr71_some h).2.1]
  exact ⟨rfl, rfl⟩
theorem f_gr73_qve (n : Int32) (S : im_S) : Veh (f_gr73 n S) S := fun r S2 h => by
  rw [(gr73_some h).2.1]
  exact ⟨rfl, rfl⟩
theorem f_gr74_qve (n : Int32) (S : im_S) : Veh (f_gr74 n S) S := fun r S2 h => by
  rw [(gr74_some h).2.1]
  exact ⟨rfl, rfl⟩

set_option maxHeartbeats 4000000 in
set_option maxRecDepth 100000 in
theorem f_J7_rangeCheck_23922_qve (x0 : Int32) (x1 : Int32) (x2 : Int32) (S : im_S) : Veh (f_J7_rangeCheck_23922 x0 x1 x2 S) S := by
  unfold f_J7_rangeCheck_23922
  repeat' first | with_reducible exact Veh_none _ | with_reducible refine Veh_gd ?_ | with_reducible refine Veh_ite ?_ ?_ | with_reducible refine Veh_bind ?_ (fun q => ?_) | with_reducible refine Veh_some ?_ | with_reducible exact Veq_refl _ | refine Veq_uI rfl ?_ | refine Veq_uJ ?_
set_option maxHeartbeats 4000000 in
set_option maxRecDepth 100000 in
theorem f_J7_fill_bad5a_L10_qve (fu : Nat) : ∀ (nf : Nat) (y0 : Int32) (y1 : Int32) (y2 : Int64) (y3 : Int32) (S : im_S), Veh (f_J7_fill_bad5a_L10 fu nf y0 y1 y2 y3 S) S := by
  intro nf
  induction nf with
  | zero => intro y0 y1 y2 y3 S; exact Veh_none _
  | succ nf ih =>
    intro y0 y1 y2 y3 S
    unfold f_J7_fill_bad5a_L10
    repeat' first | with_reducible exact Veh_none _ | with_reducible refine Veh_gd ?_ | with_reducible refine Veh_ite ?_ ?_ | with_reducible refine Veh_bind ?_ (fun q => ?_) | with_reducible refine Veh_some ?_ | with_reducible exact Veq_refl _ | refine Veq_uI rfl ?_ | refine Veq_uJ ?_ | with_reducible refine Veh_of (ih _ _ _ _ _) ?_ | with_reducible exact ih
set_option maxHeartbeats 4000000 in
set_option maxRecDepth 100000 in
theorem f_J7_fill_bad5a_qve (fu : Nat) (x1 : Int32) (x2 : Int32) (x3 : Int64) (S : im_S) : Veh (f_J7_fill_bad5a fu x1 x2 x3 S) S := by
  unfold f_J7_fill_bad5a
  repeat' first | with_reducible exact Veh_none _ | with_reducible refine Veh_gd ?_ | with_reducible refine Veh_ite ?_ ?_ | with_reducible refine Veh_bind ?_ (fun q => ?_) | with_reducible refine Veh_some ?_ | with_reducible exact Veq_refl _ | refine Veq_uI rfl ?_ | refine Veq_uJ ?_ | with_reducible refine Veh_of (f_J7_rangeCheck_23922_qve _ _ _ _) ?_ | with_reducible refine Veh_of (f_J7_fill_bad5a_L10_qve _ _ _ _ _ _ _) ?_
set_option maxHeartbeats 4000000 in
set_option maxRecDepth 100000 in
theorem f_J7_fill_eb02e_L10_qve (fu : Nat) : ∀ (nf : Nat) (y0 : Int32) (y1 : Int32) (y2 : Int32) (y3 : Int32) (S : im_S), Veh (f_J7_fill_eb02e_L10 fu nf y0 y1 y2 y3 S) S := by
  intro nf
  induction nf with
  | zero => intro y0 y1 y2 y3 S; exact Veh_none _
  | succ nf ih =>
    intro y0 y1 y2 y3 S
    unfold f_J7_fill_eb02e_L10
    repeat' first | with_reducible exact Veh_none _ | with_reducible refine Veh_gd ?_ | with_reducible refine Veh_ite ?_ ?_ | with_reducible refine Veh_bind ?_ (fun q => ?_) | with_reducible refine Veh_some ?_ | with_reducible exact Veq_refl _ | refine Veq_uI rfl ?_ | refine Veq_uJ ?_ | with_reducible refine Veh_of (ih _ _ _ _ _) ?_ | with_reducible exact ih
set_option maxHeartbeats 4000000 in
set_option maxRecDepth 100000 in
theorem f_J7_fill_eb02e_qve (fu : Nat) (x1 : Int32) (x2 : Int32) (x3 : Int32) (S : im_S) : Veh (f_J7_fill_eb02e fu x1 x2 x3 S) S := by
  unfold f_J7_fill_eb02e
  repeat' first | with_reducible exact Veh_none _ | with_reducible refine Veh_gd ?_ | with_reducible refine Veh_ite ?_ ?_ | with_reducible refine Veh_bind ?_ (fun q => ?_) | with_reducible refine Veh_some ?_ | with_reducible exact Veq_refl _ | refine Veq_uI rfl ?_ | refine Veq_uJ ?_ | with_reducible refine Veh_of (f_J7_rangeCheck_23922_qve _ _ _ _) ?_ | with_reducible refine Veh_of (f_J7_fill_eb02e_L10_qve _ _ _ _ _ _ _) ?_
set_option maxHeartbeats 4000000 in
set_option maxRecDepth 100000 in
theorem f_X0_release_qve (x1 : Int32) (S : im_S) : Veh (f_X0_release x1 S) S := by
  unfold f_X0_release
  repeat' first | with_reducible exact Veh_none _ | with_reducible refine Veh_gd ?_ | with_reducible refine Veh_ite ?_ ?_ | with_reducible refine Veh_bind ?_ (fun q => ?_) | with_reducible refine Veh_some ?_ | with_reducible exact Veq_refl _ | refine Veq_uI rfl ?_ | refine Veq_uJ ?_
set_option maxHeartbeats 4000000 in
set_option maxRecDepth 100000 in
theorem f_X2_outward_L5_qve (fu : Nat) : ∀ (nf : Nat) (y0 : Int32) (y1 : Int32) (y2 : Int32) (y3 : Int32) (S : im_S), Veh (f_X2_outward_L5 fu nf y0 y1 y2 y3 S) S := by
  intro nf
  induction nf with
  | zero => intro y0 y1 y2 y3 S; exact Veh_none _
  | succ nf ih =>
    intro y0 y1 y2 y3 S
    unfold f_X2_outward_L5
    repeat' first | with_reducible exact Veh_none _ | with_reducible refine Veh_gd ?_ | with_reducible refine Veh_ite ?_ ?_ | with_reducible refine Veh_bind ?_ (fun q => ?_) | with_reducible refine Veh_some ?_ | with_reducible exact Veq_refl _ | refine Veq_uI rfl ?_ | refine Veq_uJ ?_ | with_reducible refine Veh_of (ih _ _ _ _ _) ?_ | with_reducible exact ih
set_option maxHeartbeats 4000000 in
set_option maxRecDepth 100000 in
theorem f_X2_outward_qve (fu : Nat) (x1 : Int32) (x2 : Int32) (S : im_S) : Veh (f_X2_outward fu x1 x2 S) S := by
  unfold f_X2_outward
  repeat' first | with_reducible exact Veh_none _ | with_reducible refine Veh_gd ?_ | with_reducible refine Veh_ite ?_ ?_ | with_reducible refine Veh_bind ?_ (fun q => ?_) | with_reducible refine Veh_some ?_ | with_reducible exact Veq_refl _ | refine Veq_uI rfl ?_ | refine Veq_uJ ?_ | with_reducible refine Veh_of (f_X2_outward_L5_qve _ _ _ _ _ _ _) ?_
set_option maxHeartbeats 4000000 in
set_option maxRecDepth 100000 in
theorem f_X8_put_qve (x1 : Int32) (x2 : Int32) (x3 : Int64) (S : im_S) : Veh (f_X8_put x1 x2 x3 S) S := by
  unfold f_X8_put
  repeat' first | with_reducible exact Veh_none _ | with_reducible refine Veh_gd ?_ | with_reducible refine Veh_ite ?_ ?_ | with_reducible refine Veh_bind ?_ (fun q => ?_) | with_reducible refine Veh_some ?_ | with_reducible exact Veq_refl _ | refine Veq_uI rfl ?_ | refine Veq_uJ ?_
set_option maxHeartbeats 4000000 in
set_option maxRecDepth 100000 in
theorem f_X8_tableOf_qve (x0 : Int32) (x1 : Int32) (S : im_S) : Veh (f_X8_tableOf x0 x1 S) S := by
  unfold f_X8_tableOf
  repeat' first | with_reducible exact Veh_none _ | with_reducible refine Veh_gd ?_ | with_reducible refine Veh_ite ?_ ?_ | with_reducible refine Veh_bind ?_ (fun q => ?_) | with_reducible refine Veh_some ?_ | with_reducible exact Veq_refl _ | refine Veq_uI rfl ?_ | refine Veq_uJ ?_
set_option maxHeartbeats 4000000 in
set_option maxRecDepth 100000 in
theorem f_X8_firstCell_qve (x0 : Int64) (S : im_S) : Veh (f_X8_firstCell x0 S) S := by
  unfold f_X8_firstCell
  repeat' first | with_reducible exact Veh_none _ | with_reducible refine Veh_gd ?_ | with_reducible refine Veh_ite ?_ ?_ | with_reducible refine Veh_bind ?_ (fun q => ?_) | with_reducible refine Veh_some ?_ | with_reducible exact Veq_refl _ | refine Veq_uI rfl ?_ | refine Veq_uJ ?_
set_option maxHeartbeats 4000000 in
set_option maxRecDepth 100000 in
theorem f_X8_cellsIn_qve (x0 : Int64) (S : im_S) : Veh (f_X8_cellsIn x0 S) S := by
  unfold f_X8_cellsIn
  repeat' first | with_reducible exact Veh_none _ | with_reducible refine Veh_gd ?_ | with_reducible refine Veh_ite ?_ ?_ | with_reducible refine Veh_bind ?_ (fun q => ?_) | with_reducible refine Veh_some ?_ | with_reducible exact Veq_refl _ | refine Veq_uI rfl ?_ | refine Veq_uJ ?_
set_option maxHeartbeats 4000000 in
set_option maxRecDepth 100000 in
theorem f_X5_slotOf_qve (x1 : Int32) (x2 : Int32) (S : im_S) : Veh (f_X5_slotOf x1 x2 S) S := by
  unfold f_X5_slotOf
  repeat' first | with_reducible exact Veh_none _ | with_reducible refine Veh_gd ?_ | with_reducible refine Veh_ite ?_ ?_ | with_reducible refine Veh_bind ?_ (fun q => ?_) | with_reducible refine Veh_some ?_ | with_reducible exact Veq_refl _ | refine Veq_uI rfl ?_ | refine Veq_uJ ?_
set_option maxHeartbeats 4000000 in
set_option maxRecDepth 100000 in
theorem f_X5_makeReady_qve (x1 : Int32) (x2 : Int32) (S : im_S) : Veh (f_X5_makeReady x1 x2 S) S := by
  unfold f_X5_makeReady
  repeat' first | with_reducible exact Veh_none _ | with_reducible refine Veh_gd ?_ | with_reducible refine Veh_ite ?_ ?_ | with_reducible refine Veh_bind ?_ (fun q => ?_) | with_reducible refine Veh_some ?_ | with_reducible exact Veq_refl _ | refine Veq_uI rfl ?_ | refine Veq_uJ ?_
set_option maxHeartbeats 4000000 in
set_option maxRecDepth 100000 in
theorem f_X5_send_qve (x1 : Int32) (x2 : Int32) (x3 : Int32) (x4 : Int64) (S : im_S) : Veh (f_X5_send x1 x2 x3 x4 S) S := by
  unfold f_X5_send
  repeat' first | with_reducible exact Veh_none _ | with_reducible refine Veh_gd ?_ | with_reducible refine Veh_ite ?_ ?_ | with_reducible refine Veh_bind ?_ (fun q => ?_) | with_reducible refine Veh_some ?_ | with_reducible exact Veq_refl _ | refine Veq_uI rfl ?_ | refine Veq_uJ ?_
set_option maxHeartbeats 4000000 in
set_option maxRecDepth 100000 in
theorem f_X5_leaveFunction_qve (S : im_S) : Veh (f_X5_leaveFunction S) S := by
  unfold f_X5_leaveFunction
  repeat' first | with_reducible exact Veh_none _ | with_reducible refine Veh_gd ?_ | with_reducible refine Veh_ite ?_ ?_ | with_reducible refine Veh_bind ?_ (fun q => ?_) | with_reducible refine Veh_some ?_ | with_reducible exact Veq_refl _ | refine Veq_uI rfl ?_ | refine Veq_uJ ?_ | with_reducible refine Veh_of (f_X5_send_qve _ _ _ _ _) ?_
set_option maxHeartbeats 4000000 in
set_option maxRecDepth 100000 in
theorem f_X5_turn_qve (x1 : Int32) (x2 : Int32) (S : im_S) : Veh (f_X5_turn x1 x2 S) S := by
  unfold f_X5_turn
  repeat' first | with_reducible exact Veh_none _ | with_reducible refine Veh_gd ?_ | with_reducible refine Veh_ite ?_ ?_ | with_reducible refine Veh_bind ?_ (fun q => ?_) | with_reducible refine Veh_some ?_ | with_reducible exact Veq_refl _ | refine Veq_uI rfl ?_ | refine Veq_uJ ?_ | with_reducible refine Veh_of (f_X5_slotOf_qve _ _ _) ?_ | with_reducible refine Veh_of (f_X5_send_qve _ _ _ _ _) ?_
set_option maxHeartbeats 4000000 in
set_option maxRecDepth 100000 in
theorem f_X5_leastError_qve (x1 : Int32) (x2 : Int32) (S : im_S) : Veh (f_X5_leastError x1 x2 S) S := by
  unfold f_X5_leastError
  repeat' first | with_reducible exact Veh_none _ | with_reducible refine Veh_gd ?_ | with_reducible refine Veh_ite ?_ ?_ | with_reducible refine Veh_bind ?_ (fun q => ?_) | with_reducible refine Veh_some ?_ | with_reducible exact Veq_refl _ | refine Veq_uI rfl ?_ | refine Veq_uJ ?_
set_option maxHeartbeats 4000000 in
set_option maxRecDepth 100000 in
theorem f_X5_calculate_qve (x0 : Int32) (x1 : Int64) (x3 : Int64) (S : im_S) : Veh (f_X5_calculate x0 x1 x3 S) S := by
  unfold f_X5_calculate
  repeat' first | with_reducible exact Veh_none _ | with_reducible refine Veh_gd ?_ | with_reducible refine Veh_ite ?_ ?_ | with_reducible refine Veh_bind ?_ (fun q => ?_) | with_reducible refine Veh_some ?_ | with_reducible exact Veq_refl _ | refine Veq_uI rfl ?_ | refine Veq_uJ ?_
set_option maxHeartbeats 4000000 in
set_option maxRecDepth 100000 in
theorem f_X5_settle_L15_qve (fu : Nat) : ∀ (nf : Nat) (y0 : Int32) (y1 : Int32) (y2 : Int64) (y3 : Int32) (y4 : Int32) (S : im_S), Veh (f_X5_settle_L15 fu nf y0 y1 y2 y3 y4 S) S := by
  intro nf
  induction nf with
  | zero => intro y0 y1 y2 y3 y4 S; exact Veh_none _
  | succ nf ih =>
    intro y0 y1 y2 y3 y4 S
    unfold f_X5_settle_L15
    repeat' first | with_reducible exact Veh_none _ | with_reducible refine Veh_gd ?_ | with_reducible refine Veh_ite ?_ ?_ | with_reducible refine Veh_bind ?_ (fun q => ?_) | with_reducible refine Veh_some ?_ | with_reducible exact Veq_refl _ | refine Veq_uI rfl ?_ | refine Veq_uJ ?_ | with_reducible refine Veh_of (f_X8_put_qve _ _ _ _) ?_ | with_reducible refine Veh_of (ih _ _ _ _ _ _) ?_ | with_reducible exact ih
set_option maxHeartbeats 4000000 in
set_option maxRecDepth 100000 in
theorem f_X5_settle_qve (fu : Nat) (x1 : Int32) (x2 : Int32) (x3 : Int64) (S : im_S) : Veh (f_X5_settle fu x1 x2 x3 S) S := by
  unfold f_X5_settle
  repeat' first | with_reducible exact Veh_none _ | with_reducible refine Veh_gd ?_ | with_reducible refine Veh_ite ?_ ?_ | with_reducible refine Veh_bind ?_ (fun q => ?_) | with_reducible refine Veh_some ?_ | with_reducible exact Veq_refl _ | refine Veq_uI rfl ?_ | refine Veq_uJ ?_ | with_reducible refine Veh_of (f_X5_settle_L15_qve _ _ _ _ _ _ _ _) ?_
set_option maxHeartbeats 4000000 in
set_option maxRecDepth 100000 in
theorem f_X5_handIn_qve (fu : Nat) (x1 : Int32) (x2 : Int32) (x3 : Int32) (S : im_S) : Veh (f_X5_handIn fu x1 x2 x3 S) S := by
  unfold f_X5_handIn
  repeat' first | with_reducible exact Veh_none _ | with_reducible refine Veh_gd ?_ | with_reducible refine Veh_ite ?_ ?_ | with_reducible refine Veh_bind ?_ (fun q => ?_) | with_reducible refine Veh_some ?_ | with_reducible exact Veq_refl _ | refine Veq_uI rfl ?_ | refine Veq_uJ ?_ | with_reducible refine Veh_of (f_X5_slotOf_qve _ _ _) ?_ | with_reducible refine Veh_of (f_X5_settle_qve _ _ _ _ _) ?_
set_option maxHeartbeats 4000000 in
set_option maxRecDepth 100000 in
theorem f_X5_cellAt_qve (x1 : Int32) (x2 : Int32) (S : im_S) : Veh (f_X5_cellAt x1 x2 S) S := by
  unfold f_X5_cellAt
  repeat' first | with_reducible exact Veh_none _ | with_reducible refine Veh_gd ?_ | with_reducible refine Veh_ite ?_ ?_ | with_reducible refine Veh_bind ?_ (fun q => ?_) | with_reducible refine Veh_some ?_ | with_reducible exact Veq_refl _ | refine Veq_uI rfl ?_ | refine Veq_uJ ?_ | with_reducible refine Veh_of (f_X8_firstCell_qve _ _) ?_ | with_reducible refine Veh_of (f_X8_cellsIn_qve _ _) ?_
set_option maxHeartbeats 4000000 in
set_option maxRecDepth 100000 in
theorem f_X5_operate_qve (x1 : Int32) (x2 : Int32) (S : im_S) : Veh (f_X5_operate x1 x2 S) S := by
  unfold f_X5_operate
  repeat' first | with_reducible exact Veh_none _ | with_reducible refine Veh_gd ?_ | with_reducible refine Veh_ite ?_ ?_ | with_reducible refine Veh_bind ?_ (fun q => ?_) | with_reducible refine Veh_some ?_ | with_reducible exact Veq_refl _ | refine Veq_uI rfl ?_ | refine Veq_uJ ?_ | with_reducible refine Veh_of (f_X5_slotOf_qve _ _ _) ?_ | with_reducible refine Veh_of (f_X5_send_qve _ _ _ _ _) ?_ | with_reducible refine Veh_of (f_X5_leastError_qve _ _ _) ?_ | with_reducible refine Veh_of (f_X5_calculate_qve _ _ _ _) ?_
set_option maxHeartbeats 4000000 in
set_option maxRecDepth 100000 in
theorem f_X5_pickCell_qve (x1 : Int32) (x2 : Int32) (S : im_S) : Veh (f_X5_pickCell x1 x2 S) S := by
  unfold f_X5_pickCell
  repeat' first | with_reducible exact Veh_none _ | with_reducible refine Veh_gd ?_ | with_reducible refine Veh_ite ?_ ?_ | with_reducible refine Veh_bind ?_ (fun q => ?_) | with_reducible refine Veh_some ?_ | with_reducible exact Veq_refl _ | refine Veq_uI rfl ?_ | refine Veq_uJ ?_ | with_reducible refine Veh_of (f_X5_slotOf_qve _ _ _) ?_ | with_reducible refine Veh_of (f_X5_send_qve _ _ _ _ _) ?_ | with_reducible refine Veh_of (f_X5_leastError_qve _ _ _) ?_ | with_reducible refine Veh_of (f_X5_cellAt_qve _ _ _) ?_
set_option maxHeartbeats 4000000 in
set_option maxRecDepth 100000 in
theorem f_X0_add_qve (x1 : Int32) (x2 : Int32) (S : im_S) : Veh (f_X0_add x1 x2 S) S := by
  unfold f_X0_add
  repeat' first | with_reducible exact Veh_none _ | with_reducible refine Veh_gd ?_ | with_reducible refine Veh_ite ?_ ?_ | with_reducible refine Veh_bind ?_ (fun q => ?_) | with_reducible refine Veh_some ?_ | with_reducible exact Veq_refl _ | refine Veq_uI rfl ?_ | refine Veq_uJ ?_ | with_reducible refine Veh_of (f_gr73_qve _ _) ?_ | with_reducible refine Veh_of (f_gr74_qve _ _) ?_
set_option maxHeartbeats 4000000 in
set_option maxRecDepth 100000 in
theorem f_X2_add_qve (x1 : Int32) (x2 : Int32) (x3 : Int32) (S : im_S) : Veh (f_X2_add x1 x2 x3 S) S := by
  unfold f_X2_add
  repeat' first | with_reducible exact Veh_none _ | with_reducible refine Veh_gd ?_ | with_reducible refine Veh_ite ?_ ?_ | with_reducible refine Veh_bind ?_ (fun q => ?_) | with_reducible refine Veh_some ?_ | with_reducible exact Veq_refl _ | refine Veq_uI rfl ?_ | refine Veq_uJ ?_ | with_reducible refine Veh_of (f_gr68_qve _ _) ?_ | with_reducible refine Veh_of (f_gr69_qve _ _) ?_ | with_reducible refine Veh_of (f_gr70_qve _ _) ?_ | with_reducible refine Veh_of (f_gr71_qve _ _) ?_
set_option maxHeartbeats 4000000 in
set_option maxRecDepth 100000 in
theorem f_X8_take_qve (fu : Nat) (x1 : Int32) (S : im_S) : Veh (f_X8_take fu x1 S) S := by
  unfold f_X8_take
  repeat' first | with_reducible exact Veh_none _ | with_reducible refine Veh_gd ?_ | with_reducible refine Veh_ite ?_ ?_ | with_reducible refine Veh_bind ?_ (fun q => ?_) | with_reducible refine Veh_some ?_ | with_reducible exact Veq_refl _ | refine Veq_uI rfl ?_ | refine Veq_uJ ?_ | with_reducible refine Veh_of (f_J7_fill_bad5a_qve _ _ _ _ _) ?_ | with_reducible refine Veh_of (f_J7_fill_eb02e_qve _ _ _ _ _) ?_ | with_reducible refine Veh_of (f_gr65_qve _ _) ?_ | with_reducible refine Veh_of (f_gr66_qve _ _) ?_
set_option maxHeartbeats 4000000 in
set_option maxRecDepth 100000 in
theorem f_X5_openFrame_qve (fu : Nat) (x1 : Int32) (x2 : Int32) (x3 : Int32) (S : im_S) : Veh (f_X5_openFrame fu x1 x2 x3 S) S := by
  unfold f_X5_openFrame
  repeat' first | with_reducible exact Veh_none _ | with_reducible refine Veh_gd ?_ | with_reducible refine Veh_ite ?_ ?_ | with_reducible refine Veh_bind ?_ (fun q => ?_) | with_reducible refine Veh_some ?_ | with_reducible exact Veq_refl _ | refine Veq_uI rfl ?_ | refine Veq_uJ ?_ | with_reducible refine Veh_of (f_X2_add_qve _ _ _ _) ?_ | with_reducible refine Veh_of (f_X8_take_qve _ _ _) ?_
set_option maxHeartbeats 4000000 in
set_option maxRecDepth 100000 in
theorem f_X5_enter_L16_qve (fu : Nat) : ∀ (nf : Nat) (y0 : Int32) (y1 : Int32) (y2 : Int32) (y3 : Int32) (S : im_S), Veh (f_X5_enter_L16 fu nf y0 y1 y2 y3 S) S := by
  intro nf
  induction nf with
  | zero => intro y0 y1 y2 y3 S; exact Veh_none _
  | succ nf ih =>
    intro y0 y1 y2 y3 S
    unfold f_X5_enter_L16
    repeat' first | with_reducible exact Veh_none _ | with_reducible refine Veh_gd ?_ | with_reducible refine Veh_ite ?_ ?_ | with_reducible refine Veh_bind ?_ (fun q => ?_) | with_reducible refine Veh_some ?_ | with_reducible exact Veq_refl _ | refine Veq_uI rfl ?_ | refine Veq_uJ ?_ | with_reducible refine Veh_of (f_X0_add_qve _ _ _) ?_ | with_reducible refine Veh_of (ih _ _ _ _ _) ?_ | with_reducible exact ih
set_option maxHeartbeats 4000000 in
set_option maxRecDepth 100000 in
theorem f_X5_enter_qve (fu : Nat) (x1 : Int32) (x2 : Int32) (S : im_S) : Veh (f_X5_enter fu x1 x2 S) S := by
  unfold f_X5_enter
  repeat' first | with_reducible exact Veh_none _ | with_reducible refine Veh_gd ?_ | with_reducible refine Veh_ite ?_ ?_ | with_reducible refine Veh_bind ?_ (fun q => ?_) | with_reducible refine Veh_some ?_ | with_reducible exact Veq_refl _ | refine Veq_uI rfl ?_ | refine Veq_uJ ?_ | with_reducible refine Veh_of (f_X5_enter_L16_qve _ _ _ _ _ _ _) ?_
set_option maxHeartbeats 4000000 in
set_option maxRecDepth 100000 in
theorem f_X5_await_qve (x1 : Int32) (x2 : Int32) (x3 : Int32) (S : im_S) : Veh (f_X5_await x1 x2 x3 S) S := by
  unfold f_X5_await
  repeat' first | with_reducible exact Veh_none _ | with_reducible refine Veh_gd ?_ | with_reducible refine Veh_ite ?_ ?_ | with_reducible refine Veh_bind ?_ (fun q => ?_) | with_reducible refine Veh_some ?_ | with_reducible exact Veq_refl _ | refine Veq_uI rfl ?_ | refine Veq_uJ ?_ | with_reducible refine Veh_of (f_X0_add_qve _ _ _) ?_
set_option maxHeartbeats 4000000 in
set_option maxRecDepth 100000 in
theorem f_X5_lookUp_qve (fu : Nat) (x1 : Int32) (x2 : Int32) (S : im_S) : Veh (f_X5_lookUp fu x1 x2 S) S := by
  unfold f_X5_lookUp
  repeat' first | with_reducible exact Veh_none _ | with_reducible refine Veh_gd ?_ | with_reducible refine Veh_ite ?_ ?_ | with_reducible refine Veh_bind ?_ (fun q => ?_) | with_reducible refine Veh_some ?_ | with_reducible exact Veq_refl _ | refine Veq_uI rfl ?_ | refine Veq_uJ ?_ | with_reducible refine Veh_of (f_X2_outward_qve _ _ _ _) ?_ | with_reducible refine Veh_of (f_X5_slotOf_qve _ _ _) ?_ | with_reducible refine Veh_of (f_X5_send_qve _ _ _ _ _) ?_ | with_reducible refine Veh_of (f_X5_await_qve _ _ _ _) ?_
set_option maxHeartbeats 4000000 in
set_option maxRecDepth 100000 in
theorem f_X5_beginLoop_L52_qve (fu : Nat) : ∀ (nf : Nat) (y0 : Int32) (y1 : Int32) (y2 : Int32) (y3 : Int32) (y4 : Int32) (y5 : Int32) (S : im_S), Veh (f_X5_beginLoop_L52 fu nf y0 y1 y2 y3 y4 y5 S) S := by
  intro nf
  induction nf with
  | zero => intro y0 y1 y2 y3 y4 y5 S; exact Veh_none _
  | succ nf ih =>
    intro y0 y1 y2 y3 y4 y5 S
    unfold f_X5_beginLoop_L52
    repeat' first | with_reducible exact Veh_none _ | with_reducible refine Veh_gd ?_ | with_reducible refine Veh_ite ?_ ?_ | with_reducible refine Veh_bind ?_ (fun q => ?_) | with_reducible refine Veh_some ?_ | with_reducible exact Veq_refl _ | refine Veq_uI rfl ?_ | refine Veq_uJ ?_ | with_reducible refine Veh_of (f_X5_handIn_qve _ _ _ _ _) ?_ | with_reducible refine Veh_of (f_X5_enter_qve _ _ _ _) ?_ | with_reducible refine Veh_of (ih _ _ _ _ _ _ _) ?_ | with_reducible exact ih
set_option maxHeartbeats 4000000 in
set_option maxRecDepth 100000 in
theorem f_X5_beginLoop_qve (fu : Nat) (x1 : Int32) (x2 : Int32) (S : im_S) : Veh (f_X5_beginLoop fu x1 x2 S) S := by
  unfold f_X5_beginLoop
  repeat' first | with_reducible exact Veh_none _ | with_reducible refine Veh_gd ?_ | with_reducible refine Veh_ite ?_ ?_ | with_reducible refine Veh_bind ?_ (fun q => ?_) | with_reducible refine Veh_some ?_ | with_reducible exact Veq_refl _ | refine Veq_uI rfl ?_ | refine Veq_uJ ?_ | with_reducible refine Veh_of (f_X5_slotOf_qve _ _ _) ?_ | with_reducible refine Veh_of (f_X5_openFrame_qve _ _ _ _ _) ?_ | with_reducible refine Veh_of (f_X5_beginLoop_L52_qve _ _ _ _ _ _ _ _ _) ?_
set_option maxHeartbeats 4000000 in
set_option maxRecDepth 100000 in
theorem f_X5_visit_qve (fu : Nat) (x1 : Int32) (x2 : Int32) (S : im_S) : Veh (f_X5_visit fu x1 x2 S) S := by
  unfold f_X5_visit
  repeat' first | with_reducible exact Veh_none _ | with_reducible refine Veh_gd ?_ | with_reducible refine Veh_ite ?_ ?_ | with_reducible refine Veh_bind ?_ (fun q => ?_) | with_reducible refine Veh_some ?_ | with_reducible exact Veq_refl _ | refine Veq_uI rfl ?_ | refine Veq_uJ ?_ | with_reducible refine Veh_of (f_X5_makeReady_qve _ _ _) ?_ | with_reducible refine Veh_of (f_X5_send_qve _ _ _ _ _) ?_ | with_reducible refine Veh_of (f_X5_lookUp_qve _ _ _ _) ?_ | with_reducible refine Veh_of (f_X5_beginLoop_qve _ _ _ _) ?_
set_option maxHeartbeats 4000000 in
set_option maxRecDepth 100000 in
theorem f_X5_meet_qve (x1 : Int32) (S : im_S) : Veh (f_X5_meet x1 S) S := by
  unfold f_X5_meet
  repeat' first | with_reducible exact Veh_none _ | with_reducible refine Veh_gd ?_ | with_reducible refine Veh_ite ?_ ?_ | with_reducible refine Veh_bind ?_ (fun q => ?_) | with_reducible refine Veh_some ?_ | with_reducible exact Veq_refl _ | refine Veq_uI rfl ?_ | refine Veq_uJ ?_ | with_reducible refine Veh_of (f_X5_slotOf_qve _ _ _) ?_ | with_reducible refine Veh_of (f_X5_makeReady_qve _ _ _) ?_ | with_reducible refine Veh_of (f_X5_cellAt_qve _ _ _) ?_ | with_reducible refine Veh_of (f_X5_await_qve _ _ _ _) ?_
set_option maxHeartbeats 4000000 in
set_option maxRecDepth 100000 in
theorem f_X5_move_qve (fu : Nat) (S : im_S) : Veh (f_X5_move fu S) S := by
  unfold f_X5_move
  repeat' first | with_reducible exact Veh_none _ | with_reducible refine Veh_gd ?_ | with_reducible refine Veh_ite ?_ ?_ | with_reducible refine Veh_bind ?_ (fun q => ?_) | with_reducible refine Veh_some ?_ | with_reducible exact Veq_refl _ | refine Veq_uI rfl ?_ | refine Veq_uJ ?_ | with_reducible refine Veh_of (f_X8_put_qve _ _ _ _) ?_ | with_reducible refine Veh_of (f_X5_slotOf_qve _ _ _) ?_ | with_reducible refine Veh_of (f_X5_makeReady_qve _ _ _) ?_ | with_reducible refine Veh_of (f_X5_send_qve _ _ _ _ _) ?_ | with_reducible refine Veh_of (f_X5_leaveFunction_qve _) ?_ | with_reducible refine Veh_of (f_X5_settle_qve _ _ _ _ _) ?_ | with_reducible refine Veh_of (f_X5_handIn_qve _ _ _ _ _) ?_ | with_reducible refine Veh_of (f_X5_meet_qve _ _) ?_
set_option maxHeartbeats 4000000 in
set_option maxRecDepth 100000 in
theorem f_X5_flow_L2_qve (fu : Nat) : ∀ (nf : Nat) (y0 : Int32) (S : im_S), Veh (f_X5_flow_L2 fu nf y0 S) S := by
  intro nf
  induction nf with
  | zero => intro y0 S; exact Veh_none _
  | succ nf ih =>
    intro y0 S
    unfold f_X5_flow_L2
    repeat' first | with_reducible exact Veh_none _ | with_reducible refine Veh_gd ?_ | with_reducible refine Veh_ite ?_ ?_ | with_reducible refine Veh_bind ?_ (fun q => ?_) | with_reducible refine Veh_some ?_ | with_reducible exact Veq_refl _ | refine Veq_uI rfl ?_ | refine Veq_uJ ?_ | with_reducible refine Veh_of (f_X0_release_qve _ _) ?_ | with_reducible refine Veh_of (f_X5_visit_qve _ _ _ _) ?_ | with_reducible refine Veh_of (f_X5_move_qve _ _) ?_ | with_reducible refine Veh_of (ih _ _) ?_ | with_reducible exact ih
set_option maxHeartbeats 4000000 in
set_option maxRecDepth 100000 in
theorem f_X5_flow_qve (fu : Nat) (S : im_S) : Veh (f_X5_flow fu S) S := by
  unfold f_X5_flow
  repeat' first | with_reducible exact Veh_none _ | with_reducible refine Veh_gd ?_ | with_reducible refine Veh_ite ?_ ?_ | with_reducible refine Veh_bind ?_ (fun q => ?_) | with_reducible refine Veh_some ?_ | with_reducible exact Veq_refl _ | refine Veq_uI rfl ?_ | refine Veq_uJ ?_ | with_reducible refine Veh_of (f_X5_flow_L2_qve _ _ _ _) ?_
set_option maxHeartbeats 4000000 in
set_option maxRecDepth 100000 in
theorem f_X5_choose_qve (fu : Nat) (x1 : Int32) (x2 : Int32) (S : im_S) : Veh (f_X5_choose fu x1 x2 S) S := by
  unfold f_X5_choose
  repeat' first | with_reducible exact Veh_none _ | with_reducible refine Veh_gd ?_ | with_reducible refine Veh_ite ?_ ?_ | with_reducible refine Veh_bind ?_ (fun q => ?_) | with_reducible refine Veh_some ?_ | with_reducible exact Veq_refl _ | refine Veq_uI rfl ?_ | refine Veq_uJ ?_ | with_reducible refine Veh_of (f_X5_slotOf_qve _ _ _) ?_ | with_reducible refine Veh_of (f_X5_send_qve _ _ _ _ _) ?_ | with_reducible refine Veh_of (f_X5_enter_qve _ _ _ _) ?_
set_option maxHeartbeats 4000000 in
set_option maxRecDepth 100000 in
theorem f_X5_enterFunction_L63_qve (fu : Nat) : ∀ (nf : Nat) (y0 : Int32) (y1 : Int32) (y2 : Int32) (y3 : Int32) (y4 : Int32) (y5 : Int32) (S : im_S), Veh (f_X5_enterFunction_L63 fu nf y0 y1 y2 y3 y4 y5 S) S := by
  intro nf
  induction nf with
  | zero => intro y0 y1 y2 y3 y4 y5 S; exact Veh_none _
  | succ nf ih =>
    intro y0 y1 y2 y3 y4 y5 S
    unfold f_X5_enterFunction_L63
    repeat' first | with_reducible exact Veh_none _ | with_reducible refine Veh_gd ?_ | with_reducible refine Veh_ite ?_ ?_ | with_reducible refine Veh_bind ?_ (fun q => ?_) | with_reducible refine Veh_some ?_ | with_reducible exact Veq_refl _ | refine Veq_uI rfl ?_ | refine Veq_uJ ?_ | with_reducible refine Veh_of (f_X5_handIn_qve _ _ _ _ _) ?_ | with_reducible refine Veh_of (f_X5_enter_qve _ _ _ _) ?_ | with_reducible refine Veh_of (ih _ _ _ _ _ _ _) ?_ | with_reducible exact ih
set_option maxHeartbeats 4000000 in
set_option maxRecDepth 100000 in
theorem f_X5_enterFunction_qve (fu : Nat) (x1 : Int32) (x2 : Int32) (S : im_S) : Veh (f_X5_enterFunction fu x1 x2 S) S := by
  unfold f_X5_enterFunction
  repeat' first | with_reducible exact Veh_none _ | with_reducible refine Veh_gd ?_ | with_reducible refine Veh_ite ?_ ?_ | with_reducible refine Veh_bind ?_ (fun q => ?_) | with_reducible refine Veh_some ?_ | with_reducible exact Veq_refl _ | refine Veq_uI rfl ?_ | refine Veq_uJ ?_ | with_reducible refine Veh_of (f_X5_slotOf_qve _ _ _) ?_ | with_reducible refine Veh_of (f_X5_openFrame_qve _ _ _ _ _) ?_ | with_reducible refine Veh_of (f_X5_enterFunction_L63_qve _ _ _ _ _ _ _ _ _) ?_
set_option maxHeartbeats 4000000 in
set_option maxRecDepth 100000 in
theorem f_X5_endRound_qve (fu : Nat) (x1 : Int32) (x2 : Int32) (S : im_S) : Veh (f_X5_endRound fu x1 x2 S) S := by
  unfold f_X5_endRound
  repeat' first | with_reducible exact Veh_none _ | with_reducible refine Veh_gd ?_ | with_reducible refine Veh_ite ?_ ?_ | with_reducible refine Veh_bind ?_ (fun q => ?_) | with_reducible refine Veh_some ?_ | with_reducible exact Veq_refl _ | refine Veq_uI rfl ?_ | refine Veq_uJ ?_ | with_reducible refine Veh_of (f_X5_slotOf_qve _ _ _) ?_ | with_reducible refine Veh_of (f_X5_send_qve _ _ _ _ _) ?_ | with_reducible refine Veh_of (f_X5_openFrame_qve _ _ _ _ _) ?_ | with_reducible refine Veh_of (f_X5_enter_qve _ _ _ _) ?_
set_option maxHeartbeats 4000000 in
set_option maxRecDepth 100000 in
theorem f_X5_makeTable_L114_qve (fu : Nat) : ∀ (nf : Nat) (y0 : Int32) (y1 : Int32) (y2 : Int32) (y3 : Int64) (y4 : Int32) (y5 : Int32) (y6 : Int32) (S : im_S), Veh (f_X5_makeTable_L114 fu nf y0 y1 y2 y3 y4 y5 y6 S) S := by
  intro nf
  induction nf with
  | zero => intro y0 y1 y2 y3 y4 y5 y6 S; exact Veh_none _
  | succ nf ih =>
    intro y0 y1 y2 y3 y4 y5 y6 S
    unfold f_X5_makeTable_L114
    repeat' first | with_reducible exact Veh_none _ | with_reducible refine Veh_gd ?_ | with_reducible refine Veh_ite ?_ ?_ | with_reducible refine Veh_bind ?_ (fun q => ?_) | with_reducible refine Veh_some ?_ | with_reducible exact Veq_refl _ | refine Veq_uI rfl ?_ | refine Veq_uJ ?_ | with_reducible refine Veh_of (f_X8_tableOf_qve _ _ _) ?_ | with_reducible refine Veh_of (f_X5_makeReady_qve _ _ _) ?_ | with_reducible refine Veh_of (f_X5_send_qve _ _ _ _ _) ?_ | with_reducible refine Veh_of (f_X5_openFrame_qve _ _ _ _ _) ?_ | with_reducible refine Veh_of (ih _ _ _ _ _ _ _ _) ?_ | with_reducible exact ih
set_option maxHeartbeats 4000000 in
set_option maxRecDepth 100000 in
theorem f_X5_makeTable_qve (fu : Nat) (x1 : Int32) (x2 : Int32) (S : im_S) : Veh (f_X5_makeTable fu x1 x2 S) S := by
  unfold f_X5_makeTable
  repeat' first | with_reducible exact Veh_none _ | with_reducible refine Veh_gd ?_ | with_reducible refine Veh_ite ?_ ?_ | with_reducible refine Veh_bind ?_ (fun q => ?_) | with_reducible refine Veh_some ?_ | with_reducible exact Veq_refl _ | refine Veq_uI rfl ?_ | refine Veq_uJ ?_ | with_reducible refine Veh_of (f_X5_slotOf_qve _ _ _) ?_ | with_reducible refine Veh_of (f_X5_send_qve _ _ _ _ _) ?_ | with_reducible refine Veh_of (f_X8_take_qve _ _ _) ?_ | with_reducible refine Veh_of (f_X5_makeTable_L114_qve _ _ _ _ _ _ _ _ _ _) ?_
set_option maxHeartbeats 4000000 in
set_option maxRecDepth 100000 in
theorem f_X5_enterCell_qve (fu : Nat) (x1 : Int32) (x2 : Int32) (S : im_S) : Veh (f_X5_enterCell fu x1 x2 S) S := by
  unfold f_X5_enterCell
  repeat' first | with_reducible exact Veh_none _ | with_reducible refine Veh_gd ?_ | with_reducible refine Veh_ite ?_ ?_ | with_reducible refine Veh_bind ?_ (fun q => ?_) | with_reducible refine Veh_some ?_ | with_reducible exact Veq_refl _ | refine Veq_uI rfl ?_ | refine Veq_uJ ?_ | with_reducible refine Veh_of (f_X8_firstCell_qve _ _) ?_ | with_reducible refine Veh_of (f_X5_slotOf_qve _ _ _) ?_ | with_reducible refine Veh_of (f_X5_settle_qve _ _ _ _ _) ?_ | with_reducible refine Veh_of (f_X5_enter_qve _ _ _ _) ?_
set_option maxHeartbeats 4000000 in
set_option maxRecDepth 100000 in
theorem f_X5_happen_qve (fu : Nat) (x1 : Int32) (S : im_S) : Veh (f_X5_happen fu x1 S) S := by
  unfold f_X5_happen
  repeat' first | with_reducible exact Veh_none _ | with_reducible refine Veh_gd ?_ | with_reducible refine Veh_ite ?_ ?_ | with_reducible refine Veh_bind ?_ (fun q => ?_) | with_reducible refine Veh_some ?_ | with_reducible exact Veq_refl _ | refine Veq_uI rfl ?_ | refine Veq_uJ ?_ | with_reducible refine Veh_of (f_X5_turn_qve _ _ _) ?_ | with_reducible refine Veh_of (f_X5_operate_qve _ _ _) ?_ | with_reducible refine Veh_of (f_X5_pickCell_qve _ _ _) ?_ | with_reducible refine Veh_of (f_X5_choose_qve _ _ _ _) ?_ | with_reducible refine Veh_of (f_X5_enterFunction_qve _ _ _ _) ?_ | with_reducible refine Veh_of (f_X5_endRound_qve _ _ _ _) ?_ | with_reducible refine Veh_of (f_X5_makeTable_qve _ _ _ _) ?_ | with_reducible refine Veh_of (f_X5_enterCell_qve _ _ _ _) ?_
