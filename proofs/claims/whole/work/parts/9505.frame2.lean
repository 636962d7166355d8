/-! what each function keeps, place by place: written by program (wip/whole/mkframe2.py) -/
def Kq (P : Nat → Nat → Bool) (S S1 : im_S) : Prop := (∀ i j, P i j = true → S1.1 i j = S.1 i j ∧ S1.2.1 i j = S.2.1 i j) ∧ ∀ i, S1.2.2 i = S.2.2 i
theorem Kq_refl {P : Nat → Nat → Bool} (S : im_S) : Kq P S S := ⟨fun _ _ _ => ⟨rfl, rfl⟩, fun _ => rfl⟩
theorem Kq_trans {P : Nat → Nat → Bool} {S S1 S2 : im_S} (a : Kq P S S1) (b : Kq P S1 S2) : Kq P S S2 := ⟨fun i j h => ⟨(b.1 i j h).1.trans (a.1 i j h).1, (b.1 i j h).2.trans (a.1 i j h).2⟩, fun i => (b.2 i).trans (a.2 i)⟩
theorem Kq_uI {P : Nat → Nat → Bool} {S S1 : im_S} {a j : Nat} {v : Int32} (h : P a j = false) (k : Kq P S S1) : Kq P S (uI S1 a j v) := by
  refine ⟨fun i q hi => ⟨?_, (k.1 i q hi).2⟩, k.2⟩
  rw [uI_at]
  by_cases e : i = a
  · rw [if_pos e, if_neg (fun z => by rw [e, z, h] at hi; cases hi)]
    exact (k.1 i q hi).1
  · rw [if_neg e]
    exact (k.1 i q hi).1
theorem Kq_uJ {P : Nat → Nat → Bool} {S S1 : im_S} {a j : Nat} {v : Int64} (h : P a j = false) (k : Kq P S S1) : Kq P S (uJ S1 a j v) := by
  refine ⟨fun i q hi => ⟨(k.1 i q hi).1, ?_⟩, k.2⟩
  rw [uJ_at]
  by_cases e : i = a
  · rw [if_pos e, if_neg (fun z => by rw [e, z, h] at hi; cases hi)]
    exact (k.1 i q hi).2
  · rw [if_neg e]
    exact (k.1 i q hi).2
def Kh {α : Type} (P : Nat → Nat → Bool) (x : Option (α × im_S)) (S : im_S) : Prop := ∀ (r : α) (S' : im_S), x = some (r, S') → Kq P S S'
theorem Kh_none {α : Type} {P : Nat → Nat → Bool} (S : im_S) : Kh P (none : Option (α × im_S)) S := fun _ _ h => by cases h
theorem Kh_gd {α : Type} {P : Nat → Nat → Bool} {b : Bool} {x : Option (α × im_S)} {S : im_S} (h : Kh P x S) : Kh P (gd b x) S := fun r S' e => h r S' (gd_some e).2
theorem Kh_some {α : Type} {P : Nat → Nat → Bool} {r : α} {S S1 : im_S} (k : Kq P S S1) : Kh P (some (r, S1)) S := fun _ _ h => by cases h; exact k
theorem Kh_ite {α : Type} {P : Nat → Nat → Bool} {c : Prop} [Decidable c] {x y : Option (α × im_S)} {S : im_S} (h1 : Kh P x S) (h2 : Kh P y S) : Kh P (if c then x else y) S := by
  by_cases hc : c
  · rw [if_pos hc]; exact h1
  · rw [if_neg hc]; exact h2
theorem Kh_bind {α β : Type} {P : Nat → Nat → Bool} {x : Option (α × im_S)} {f : α × im_S → Option (β × im_S)} {S : im_S} (h1 : Kh P x S) (h2 : ∀ q : α × im_S, Kh P (f q) q.2) : Kh P (x.bind f) S := by
  intro r S' e
  obtain ⟨a, ha, hb⟩ := bd_some e
  exact Kq_trans (h1 a.1 a.2 ha) (h2 a r S' hb)
theorem Kh_of {α : Type} {P : Nat → Nat → Bool} {x : Option (α × im_S)} {S1 S : im_S} (h : Kh P x S1) (k : Kq P S S1) : Kh P x S := fun r S' e => Kq_trans k (h r S' e)

/-- reading an X -/
def kq_rd (i j : Nat) : Bool := !((Nat.beq i 75 && (Nat.beq j 3 || (Nat.beq j 4 || (Nat.beq j 10 || (Nat.beq j 26 || (Nat.beq j 27 || (Nat.beq j 77 || (Nat.beq j 78 || false)))))))) || (Nat.beq i 81 || (Nat.beq i 82 || (Nat.beq i 83 || (Nat.beq i 84 || (Nat.beq i 85 || (Nat.beq i 86 || (Nat.beq i 87 || (Nat.beq i 89 || (Nat.beq i 90 || (Nat.beq i 91 || (Nat.beq i 92 || (Nat.beq i 93 || (Nat.beq i 94 || (Nat.beq i 95 || (Nat.beq i 132 || (Nat.beq i 133 || false)))))))))))))))))
set_option maxHeartbeats 4000000 in
set_option maxRecDepth 100000 in
theorem f_X11_refuse_qrd (S : im_S) : Kh kq_rd (f_X11_refuse S) S := by
  unfold f_X11_refuse
  repeat' first | with_reducible exact Kh_none _ | with_reducible refine Kh_gd ?_ | with_reducible refine Kh_ite ?_ ?_ | with_reducible refine Kh_bind ?_ (fun q => ?_) | with_reducible refine Kh_some ?_ | with_reducible exact Kq_refl _ | refine Kq_uI rfl ?_ | refine Kq_uJ rfl ?_
set_option maxHeartbeats 4000000 in
set_option maxRecDepth 100000 in
theorem f_X11_isSign_qrd (x1 : Int32) (S : im_S) : Kh kq_rd (f_X11_isSign x1 S) S := by
  unfold f_X11_isSign
  repeat' first | with_reducible exact Kh_none _ | with_reducible refine Kh_gd ?_ | with_reducible refine Kh_ite ?_ ?_ | with_reducible refine Kh_bind ?_ (fun q => ?_) | with_reducible refine Kh_some ?_ | with_reducible exact Kq_refl _ | refine Kq_uI rfl ?_ | refine Kq_uJ rfl ?_
set_option maxHeartbeats 4000000 in
set_option maxRecDepth 100000 in
theorem f_X11_isWord_qrd (x1 : Int32) (S : im_S) : Kh kq_rd (f_X11_isWord x1 S) S := by
  unfold f_X11_isWord
  repeat' first | with_reducible exact Kh_none _ | with_reducible refine Kh_gd ?_ | with_reducible refine Kh_ite ?_ ?_ | with_reducible refine Kh_bind ?_ (fun q => ?_) | with_reducible refine Kh_some ?_ | with_reducible exact Kq_refl _ | refine Kq_uI rfl ?_ | refine Kq_uJ rfl ?_
set_option maxHeartbeats 4000000 in
set_option maxRecDepth 100000 in
theorem f_X11_takes_qrd (x1 : Int32) (S : im_S) : Kh kq_rd (f_X11_takes x1 S) S := by
  unfold f_X11_takes
  repeat' first | with_reducible exact Kh_none _ | with_reducible refine Kh_gd ?_ | with_reducible refine Kh_ite ?_ ?_ | with_reducible refine Kh_bind ?_ (fun q => ?_) | with_reducible refine Kh_some ?_ | with_reducible exact Kq_refl _ | refine Kq_uI rfl ?_ | refine Kq_uJ rfl ?_
set_option maxHeartbeats 4000000 in
set_option maxRecDepth 100000 in
theorem f_X11_want_qrd (x1 : Int32) (S : im_S) : Kh kq_rd (f_X11_want x1 S) S := by
  unfold f_X11_want
  repeat' first | with_reducible exact Kh_none _ | with_reducible refine Kh_gd ?_ | with_reducible refine Kh_ite ?_ ?_ | with_reducible refine Kh_bind ?_ (fun q => ?_) | with_reducible refine Kh_some ?_ | with_reducible exact Kq_refl _ | refine Kq_uI rfl ?_ | refine Kq_uJ rfl ?_ | with_reducible refine Kh_of (f_X11_refuse_qrd _) ?_ | with_reducible refine Kh_of (f_X11_takes_qrd _ _) ?_
set_option maxHeartbeats 4000000 in
set_option maxRecDepth 100000 in
theorem f_X11_wantName_qrd (S : im_S) : Kh kq_rd (f_X11_wantName S) S := by
  unfold f_X11_wantName
  repeat' first | with_reducible exact Kh_none _ | with_reducible refine Kh_gd ?_ | with_reducible refine Kh_ite ?_ ?_ | with_reducible refine Kh_bind ?_ (fun q => ?_) | with_reducible refine Kh_some ?_ | with_reducible exact Kq_refl _ | refine Kq_uI rfl ?_ | refine Kq_uJ rfl ?_ | with_reducible refine Kh_of (f_X11_want_qrd _ _) ?_
set_option maxHeartbeats 4000000 in
set_option maxRecDepth 100000 in
theorem f_X11_make_qrd (x1 : Int32) (x2 : Int32) (S : im_S) : Kh kq_rd (f_X11_make x1 x2 S) S := by
  unfold f_X11_make
  repeat' first | with_reducible exact Kh_none _ | with_reducible refine Kh_gd ?_ | with_reducible refine Kh_ite ?_ ?_ | with_reducible refine Kh_bind ?_ (fun q => ?_) | with_reducible refine Kh_some ?_ | with_reducible exact Kq_refl _ | refine Kq_uI rfl ?_ | refine Kq_uJ rfl ?_
set_option maxHeartbeats 4000000 in
set_option maxRecDepth 100000 in
theorem f_X11_addRow_qrd (x1 : Int32) (x2 : Int32) (S : im_S) : Kh kq_rd (f_X11_addRow x1 x2 S) S := by
  unfold f_X11_addRow
  repeat' first | with_reducible exact Kh_none _ | with_reducible refine Kh_gd ?_ | with_reducible refine Kh_ite ?_ ?_ | with_reducible refine Kh_bind ?_ (fun q => ?_) | with_reducible refine Kh_some ?_ | with_reducible exact Kq_refl _ | refine Kq_uI rfl ?_ | refine Kq_uJ rfl ?_
set_option maxHeartbeats 4000000 in
set_option maxRecDepth 100000 in
theorem f_X11_layRow_L12_qrd (fu : Nat) : ∀ (nf : Nat) (y0 : Int32) (y1 : Int32) (y2 : Int32) (S : im_S), Kh kq_rd (f_X11_layRow_L12 fu nf y0 y1 y2 S) S := by
  intro nf
  induction nf with
  | zero => intro y0 y1 y2 S; exact Kh_none _
  | succ nf ih =>
    intro y0 y1 y2 S
    unfold f_X11_layRow_L12
    repeat' first | with_reducible exact Kh_none _ | with_reducible refine Kh_gd ?_ | with_reducible refine Kh_ite ?_ ?_ | with_reducible refine Kh_bind ?_ (fun q => ?_) | with_reducible refine Kh_some ?_ | with_reducible exact Kq_refl _ | refine Kq_uI rfl ?_ | refine Kq_uJ rfl ?_ | with_reducible refine Kh_of (f_X11_addRow_qrd _ _ _) ?_ | with_reducible refine Kh_of (ih _ _ _ _) ?_ | with_reducible exact ih
set_option maxHeartbeats 4000000 in
set_option maxRecDepth 100000 in
theorem f_X11_layRow_qrd (fu : Nat) (x1 : Int32) (S : im_S) : Kh kq_rd (f_X11_layRow fu x1 S) S := by
  unfold f_X11_layRow
  repeat' first | with_reducible exact Kh_none _ | with_reducible refine Kh_gd ?_ | with_reducible refine Kh_ite ?_ ?_ | with_reducible refine Kh_bind ?_ (fun q => ?_) | with_reducible refine Kh_some ?_ | with_reducible exact Kq_refl _ | refine Kq_uI rfl ?_ | refine Kq_uJ rfl ?_ | with_reducible refine Kh_of (f_X11_layRow_L12_qrd _ _ _ _ _ _) ?_
set_option maxHeartbeats 4000000 in
set_option maxRecDepth 100000 in
theorem f_X11_firm_qrd (S : im_S) : Kh kq_rd (f_X11_firm S) S := by
  unfold f_X11_firm
  repeat' first | with_reducible exact Kh_none _ | with_reducible refine Kh_gd ?_ | with_reducible refine Kh_ite ?_ ?_ | with_reducible refine Kh_bind ?_ (fun q => ?_) | with_reducible refine Kh_some ?_ | with_reducible exact Kq_refl _ | refine Kq_uI rfl ?_ | refine Kq_uJ rfl ?_
set_option maxHeartbeats 4000000 in
set_option maxRecDepth 100000 in
theorem f_X11_readX_qrd (K : Nat → Int32 → Int32 → im_S → Option (Int32 × im_S)) (fu : Nat) (S : im_S) (hK : ∀ (a0 : Nat) (a1 : Int32) (a2 : Int32) (S : im_S), Kh kq_rd (K a0 a1 a2 S) S) : Kh kq_rd (f_X11_readX K fu S) S := by
  unfold f_X11_readX
  repeat' first | with_reducible exact Kh_none _ | with_reducible refine Kh_gd ?_ | with_reducible refine Kh_ite ?_ ?_ | with_reducible refine Kh_bind ?_ (fun q => ?_) | with_reducible refine Kh_some ?_ | with_reducible exact Kq_refl _ | refine Kq_uI rfl ?_ | refine Kq_uJ rfl ?_ | with_reducible refine Kh_of (f_X11_refuse_qrd _) ?_ | with_reducible refine Kh_of (f_X11_isWord_qrd _ _) ?_ | with_reducible refine Kh_of (hK _ _ _ _) ?_ | with_reducible exact hK
set_option maxHeartbeats 4000000 in
set_option maxRecDepth 100000 in
theorem f_X11_readWithin_qrd (K : Nat → Int32 → Int32 → im_S → Option (Int32 × im_S)) (fu : Nat) (S : im_S) (hK : ∀ (a0 : Nat) (a1 : Int32) (a2 : Int32) (S : im_S), Kh kq_rd (K a0 a1 a2 S) S) : Kh kq_rd (f_X11_readWithin K fu S) S := by
  unfold f_X11_readWithin
  repeat' first | with_reducible exact Kh_none _ | with_reducible refine Kh_gd ?_ | with_reducible refine Kh_ite ?_ ?_ | with_reducible refine Kh_bind ?_ (fun q => ?_) | with_reducible refine Kh_some ?_ | with_reducible exact Kq_refl _ | refine Kq_uI rfl ?_ | refine Kq_uJ rfl ?_ | with_reducible refine Kh_of (hK _ _ _ _) ?_ | with_reducible exact hK
set_option maxHeartbeats 4000000 in
set_option maxRecDepth 100000 in
theorem f_X11_readLet_qrd (K : Nat → Int32 → Int32 → im_S → Option (Int32 × im_S)) (fu : Nat) (S : im_S) (hK : ∀ (a0 : Nat) (a1 : Int32) (a2 : Int32) (S : im_S), Kh kq_rd (K a0 a1 a2 S) S) : Kh kq_rd (f_X11_readLet K fu S) S := by
  unfold f_X11_readLet
  repeat' first | with_reducible exact Kh_none _ | with_reducible refine Kh_gd ?_ | with_reducible refine Kh_ite ?_ ?_ | with_reducible refine Kh_bind ?_ (fun q => ?_) | with_reducible refine Kh_some ?_ | with_reducible exact Kq_refl _ | refine Kq_uI rfl ?_ | refine Kq_uJ rfl ?_ | with_reducible refine Kh_of (f_X11_isSign_qrd _ _) ?_ | with_reducible refine Kh_of (f_X11_isWord_qrd _ _) ?_ | with_reducible refine Kh_of (f_X11_want_qrd _ _) ?_ | with_reducible refine Kh_of (f_X11_wantName_qrd _) ?_ | with_reducible refine Kh_of (f_X11_make_qrd _ _ _) ?_ | with_reducible refine Kh_of (hK _ _ _ _) ?_ | with_reducible exact hK
set_option maxHeartbeats 4000000 in
set_option maxRecDepth 100000 in
theorem f_X11_readIf_qrd (K : Nat → Int32 → Int32 → im_S → Option (Int32 × im_S)) (fu : Nat) (S : im_S) (hK : ∀ (a0 : Nat) (a1 : Int32) (a2 : Int32) (S : im_S), Kh kq_rd (K a0 a1 a2 S) S) : Kh kq_rd (f_X11_readIf K fu S) S := by
  unfold f_X11_readIf
  repeat' first | with_reducible exact Kh_none _ | with_reducible refine Kh_gd ?_ | with_reducible refine Kh_ite ?_ ?_ | with_reducible refine Kh_bind ?_ (fun q => ?_) | with_reducible refine Kh_some ?_ | with_reducible exact Kq_refl _ | refine Kq_uI rfl ?_ | refine Kq_uJ rfl ?_ | with_reducible refine Kh_of (f_X11_isWord_qrd _ _) ?_ | with_reducible refine Kh_of (f_X11_want_qrd _ _) ?_ | with_reducible refine Kh_of (f_X11_make_qrd _ _ _) ?_ | with_reducible refine Kh_of (hK _ _ _ _) ?_ | with_reducible exact hK
set_option maxHeartbeats 4000000 in
set_option maxRecDepth 100000 in
theorem f_X11_readBindings_L2_qrd (K : Nat → Int32 → Int32 → im_S → Option (Int32 × im_S)) (fu : Nat) (hK : ∀ (a0 : Nat) (a1 : Int32) (a2 : Int32) (S : im_S), Kh kq_rd (K a0 a1 a2 S) S) : ∀ (nf : Nat) (y0 : Int32) (y1 : Int32) (S : im_S), Kh kq_rd (f_X11_readBindings_L2 K fu nf y0 y1 S) S := by
  intro nf
  induction nf with
  | zero => intro y0 y1 S; exact Kh_none _
  | succ nf ih =>
    intro y0 y1 S
    unfold f_X11_readBindings_L2
    repeat' first | with_reducible exact Kh_none _ | with_reducible refine Kh_gd ?_ | with_reducible refine Kh_ite ?_ ?_ | with_reducible refine Kh_bind ?_ (fun q => ?_) | with_reducible refine Kh_some ?_ | with_reducible exact Kq_refl _ | refine Kq_uI rfl ?_ | refine Kq_uJ rfl ?_ | with_reducible refine Kh_of (f_X11_refuse_qrd _) ?_ | with_reducible refine Kh_of (f_X11_isSign_qrd _ _) ?_ | with_reducible refine Kh_of (f_X11_takes_qrd _ _) ?_ | with_reducible refine Kh_of (f_X11_want_qrd _ _) ?_ | with_reducible refine Kh_of (f_X11_wantName_qrd _) ?_ | with_reducible refine Kh_of (hK _ _ _ _) ?_ | with_reducible exact hK | with_reducible refine Kh_of (ih _ _ _) ?_ | with_reducible exact ih
set_option maxHeartbeats 4000000 in
set_option maxRecDepth 100000 in
theorem f_X11_readBindings_qrd (K : Nat → Int32 → Int32 → im_S → Option (Int32 × im_S)) (fu : Nat) (x1 : Int32) (S : im_S) (hK : ∀ (a0 : Nat) (a1 : Int32) (a2 : Int32) (S : im_S), Kh kq_rd (K a0 a1 a2 S) S) : Kh kq_rd (f_X11_readBindings K fu x1 S) S := by
  unfold f_X11_readBindings
  repeat' first | with_reducible exact Kh_none _ | with_reducible refine Kh_gd ?_ | with_reducible refine Kh_ite ?_ ?_ | with_reducible refine Kh_bind ?_ (fun q => ?_) | with_reducible refine Kh_some ?_ | with_reducible exact Kq_refl _ | refine Kq_uI rfl ?_ | refine Kq_uJ rfl ?_ | with_reducible refine Kh_of (f_X11_readBindings_L2_qrd _ _ ?_ _ _ _ _) ?_ | with_reducible refine Kh_of (hK _ _ _ _) ?_ | with_reducible exact hK
set_option maxHeartbeats 4000000 in
set_option maxRecDepth 100000 in
theorem f_X11_readLoop_qrd (K : Nat → Int32 → Int32 → im_S → Option (Int32 × im_S)) (fu : Nat) (S : im_S) (hK : ∀ (a0 : Nat) (a1 : Int32) (a2 : Int32) (S : im_S), Kh kq_rd (K a0 a1 a2 S) S) : Kh kq_rd (f_X11_readLoop K fu S) S := by
  unfold f_X11_readLoop
  repeat' first | with_reducible exact Kh_none _ | with_reducible refine Kh_gd ?_ | with_reducible refine Kh_ite ?_ ?_ | with_reducible refine Kh_bind ?_ (fun q => ?_) | with_reducible refine Kh_some ?_ | with_reducible exact Kq_refl _ | refine Kq_uI rfl ?_ | refine Kq_uJ rfl ?_ | with_reducible refine Kh_of (f_X11_isWord_qrd _ _) ?_ | with_reducible refine Kh_of (f_X11_want_qrd _ _) ?_ | with_reducible refine Kh_of (f_X11_make_qrd _ _ _) ?_ | with_reducible refine Kh_of (f_X11_layRow_qrd _ _ _) ?_ | with_reducible refine Kh_of (hK _ _ _ _) ?_ | with_reducible exact hK
set_option maxHeartbeats 4000000 in
set_option maxRecDepth 100000 in
theorem f_X11_readSigns_L15_qrd (K : Nat → Int32 → Int32 → im_S → Option (Int32 × im_S)) (fu : Nat) (hK : ∀ (a0 : Nat) (a1 : Int32) (a2 : Int32) (S : im_S), Kh kq_rd (K a0 a1 a2 S) S) : ∀ (nf : Nat) (y0 : Int32) (y1 : Int32) (y2 : Int32) (S : im_S), Kh kq_rd (f_X11_readSigns_L15 K fu nf y0 y1 y2 S) S := by
  intro nf
  induction nf with
  | zero => intro y0 y1 y2 S; exact Kh_none _
  | succ nf ih =>
    intro y0 y1 y2 S
    unfold f_X11_readSigns_L15
    repeat' first | with_reducible exact Kh_none _ | with_reducible refine Kh_gd ?_ | with_reducible refine Kh_ite ?_ ?_ | with_reducible refine Kh_bind ?_ (fun q => ?_) | with_reducible refine Kh_some ?_ | with_reducible exact Kq_refl _ | refine Kq_uI rfl ?_ | refine Kq_uJ rfl ?_ | with_reducible refine Kh_of (f_X11_make_qrd _ _ _) ?_ | with_reducible refine Kh_of (f_X11_firm_qrd _) ?_ | with_reducible refine Kh_of (hK _ _ _ _) ?_ | with_reducible exact hK | with_reducible refine Kh_of (ih _ _ _ _) ?_ | with_reducible exact ih
set_option maxHeartbeats 4000000 in
set_option maxRecDepth 100000 in
theorem f_X11_readSigns_qrd (K : Nat → Int32 → Int32 → im_S → Option (Int32 × im_S)) (fu : Nat) (x1 : Int32) (S : im_S) (hK : ∀ (a0 : Nat) (a1 : Int32) (a2 : Int32) (S : im_S), Kh kq_rd (K a0 a1 a2 S) S) : Kh kq_rd (f_X11_readSigns K fu x1 S) S := by
  unfold f_X11_readSigns
  repeat' first | with_reducible exact Kh_none _ | with_reducible refine Kh_gd ?_ | with_reducible refine Kh_ite ?_ ?_ | with_reducible refine Kh_bind ?_ (fun q => ?_) | with_reducible refine Kh_some ?_ | with_reducible exact Kq_refl _ | refine Kq_uI rfl ?_ | refine Kq_uJ rfl ?_ | with_reducible refine Kh_of (f_X11_readSigns_L15_qrd _ _ ?_ _ _ _ _ _) ?_ | with_reducible refine Kh_of (hK _ _ _ _) ?_ | with_reducible exact hK
set_option maxHeartbeats 4000000 in
set_option maxRecDepth 100000 in
theorem f_X11_readAhead_L150_qrd (K : Nat → Int32 → Int32 → im_S → Option (Int32 × im_S)) (fu : Nat) (hK : ∀ (a0 : Nat) (a1 : Int32) (a2 : Int32) (S : im_S), Kh kq_rd (K a0 a1 a2 S) S) : ∀ (nf : Nat) (y0 : Int32) (y1 : Int32) (y2 : Int32) (S : im_S), Kh kq_rd (f_X11_readAhead_L150 K fu nf y0 y1 y2 S) S := by
  intro nf
  induction nf with
  | zero => intro y0 y1 y2 S; exact Kh_none _
  | succ nf ih =>
    intro y0 y1 y2 S
    unfold f_X11_readAhead_L150
    repeat' first | with_reducible exact Kh_none _ | with_reducible refine Kh_gd ?_ | with_reducible refine Kh_ite ?_ ?_ | with_reducible refine Kh_bind ?_ (fun q => ?_) | with_reducible refine Kh_some ?_ | with_reducible exact Kq_refl _ | refine Kq_uI rfl ?_ | refine Kq_uJ rfl ?_ | with_reducible refine Kh_of (f_X11_isSign_qrd _ _) ?_ | with_reducible refine Kh_of (f_X11_want_qrd _ _) ?_ | with_reducible refine Kh_of (f_X11_make_qrd _ _ _) ?_ | with_reducible refine Kh_of (hK _ _ _ _) ?_ | with_reducible exact hK | with_reducible refine Kh_of (ih _ _ _ _) ?_ | with_reducible exact ih
set_option maxHeartbeats 4000000 in
set_option maxRecDepth 100000 in
theorem f_X11_readAhead_L4_qrd (K : Nat → Int32 → Int32 → im_S → Option (Int32 × im_S)) (fu : Nat) (hK : ∀ (a0 : Nat) (a1 : Int32) (a2 : Int32) (S : im_S), Kh kq_rd (K a0 a1 a2 S) S) : ∀ (nf : Nat) (y0 : Int32) (y1 : Int32) (S : im_S), Kh kq_rd (f_X11_readAhead_L4 K fu nf y0 y1 S) S := by
  intro nf
  induction nf with
  | zero => intro y0 y1 S; exact Kh_none _
  | succ nf ih =>
    intro y0 y1 S
    unfold f_X11_readAhead_L4
    repeat' first | with_reducible exact Kh_none _ | with_reducible refine Kh_gd ?_ | with_reducible refine Kh_ite ?_ ?_ | with_reducible refine Kh_bind ?_ (fun q => ?_) | with_reducible refine Kh_some ?_ | with_reducible exact Kq_refl _ | refine Kq_uI rfl ?_ | refine Kq_uJ rfl ?_ | with_reducible refine Kh_of (f_X11_isSign_qrd _ _) ?_ | with_reducible refine Kh_of (f_X11_want_qrd _ _) ?_ | with_reducible refine Kh_of (f_X11_make_qrd _ _ _) ?_ | with_reducible refine Kh_of (f_X11_readAhead_L150_qrd _ _ ?_ _ _ _ _ _) ?_ | with_reducible refine Kh_of (hK _ _ _ _) ?_ | with_reducible exact hK | with_reducible refine Kh_of (ih _ _ _) ?_ | with_reducible exact ih
set_option maxHeartbeats 4000000 in
set_option maxRecDepth 100000 in
theorem f_X11_readAhead_qrd (K : Nat → Int32 → Int32 → im_S → Option (Int32 × im_S)) (fu : Nat) (S : im_S) (hK : ∀ (a0 : Nat) (a1 : Int32) (a2 : Int32) (S : im_S), Kh kq_rd (K a0 a1 a2 S) S) : Kh kq_rd (f_X11_readAhead K fu S) S := by
  unfold f_X11_readAhead
  repeat' first | with_reducible exact Kh_none _ | with_reducible refine Kh_gd ?_ | with_reducible refine Kh_ite ?_ ?_ | with_reducible refine Kh_bind ?_ (fun q => ?_) | with_reducible refine Kh_some ?_ | with_reducible exact Kq_refl _ | refine Kq_uI rfl ?_ | refine Kq_uJ rfl ?_ | with_reducible refine Kh_of (f_X11_readAhead_L4_qrd _ _ ?_ _ _ _ _) ?_ | with_reducible refine Kh_of (hK _ _ _ _) ?_ | with_reducible exact hK
set_option maxHeartbeats 4000000 in
set_option maxRecDepth 100000 in
theorem f_X11_readAtom_L188_qrd (K : Nat → Int32 → Int32 → im_S → Option (Int32 × im_S)) (fu : Nat) (hK : ∀ (a0 : Nat) (a1 : Int32) (a2 : Int32) (S : im_S), Kh kq_rd (K a0 a1 a2 S) S) : ∀ (nf : Nat) (y0 : Int32) (y1 : Int32) (S : im_S), Kh kq_rd (f_X11_readAtom_L188 K fu nf y0 y1 S) S := by
  intro nf
  induction nf with
  | zero => intro y0 y1 S; exact Kh_none _
  | succ nf ih =>
    intro y0 y1 S
    unfold f_X11_readAtom_L188
    repeat' first | with_reducible exact Kh_none _ | with_reducible refine Kh_gd ?_ | with_reducible refine Kh_ite ?_ ?_ | with_reducible refine Kh_bind ?_ (fun q => ?_) | with_reducible refine Kh_some ?_ | with_reducible exact Kq_refl _ | refine Kq_uI rfl ?_ | refine Kq_uJ rfl ?_ | with_reducible refine Kh_of (f_X11_refuse_qrd _) ?_ | with_reducible refine Kh_of (f_X11_isSign_qrd _ _) ?_ | with_reducible refine Kh_of (f_X11_takes_qrd _ _) ?_ | with_reducible refine Kh_of (f_X11_want_qrd _ _) ?_ | with_reducible refine Kh_of (f_X11_layRow_qrd _ _ _) ?_ | with_reducible refine Kh_of (hK _ _ _ _) ?_ | with_reducible exact hK | with_reducible refine Kh_of (ih _ _ _) ?_ | with_reducible exact ih
set_option maxHeartbeats 4000000 in
set_option maxRecDepth 100000 in
theorem f_X11_readAtom_qrd (K : Nat → Int32 → Int32 → im_S → Option (Int32 × im_S)) (fu : Nat) (S : im_S) (hK : ∀ (a0 : Nat) (a1 : Int32) (a2 : Int32) (S : im_S), Kh kq_rd (K a0 a1 a2 S) S) : Kh kq_rd (f_X11_readAtom K fu S) S := by
  unfold f_X11_readAtom
  repeat' first | with_reducible exact Kh_none _ | with_reducible refine Kh_gd ?_ | with_reducible refine Kh_ite ?_ ?_ | with_reducible refine Kh_bind ?_ (fun q => ?_) | with_reducible refine Kh_some ?_ | with_reducible exact Kq_refl _ | refine Kq_uI rfl ?_ | refine Kq_uJ rfl ?_ | with_reducible refine Kh_of (f_X11_refuse_qrd _) ?_ | with_reducible refine Kh_of (f_X11_isSign_qrd _ _) ?_ | with_reducible refine Kh_of (f_X11_isWord_qrd _ _) ?_ | with_reducible refine Kh_of (f_X11_takes_qrd _ _) ?_ | with_reducible refine Kh_of (f_X11_make_qrd _ _ _) ?_ | with_reducible refine Kh_of (f_X11_readAtom_L188_qrd _ _ ?_ _ _ _ _) ?_ | with_reducible refine Kh_of (hK _ _ _ _) ?_ | with_reducible exact hK
set_option maxHeartbeats 4000000 in
set_option maxRecDepth 100000 in
theorem f_X11_readTable_qrd (K : Nat → Int32 → Int32 → im_S → Option (Int32 × im_S)) (fu : Nat) (S : im_S) (hK : ∀ (a0 : Nat) (a1 : Int32) (a2 : Int32) (S : im_S), Kh kq_rd (K a0 a1 a2 S) S) : Kh kq_rd (f_X11_readTable K fu S) S := by
  unfold f_X11_readTable
  repeat' first | with_reducible exact Kh_none _ | with_reducible refine Kh_gd ?_ | with_reducible refine Kh_ite ?_ ?_ | with_reducible refine Kh_bind ?_ (fun q => ?_) | with_reducible refine Kh_some ?_ | with_reducible exact Kq_refl _ | refine Kq_uI rfl ?_ | refine Kq_uJ rfl ?_ | with_reducible refine Kh_of (f_X11_isSign_qrd _ _) ?_ | with_reducible refine Kh_of (f_X11_isWord_qrd _ _) ?_ | with_reducible refine Kh_of (f_X11_want_qrd _ _) ?_ | with_reducible refine Kh_of (f_X11_wantName_qrd _) ?_ | with_reducible refine Kh_of (f_X11_make_qrd _ _ _) ?_ | with_reducible refine Kh_of (f_X11_addRow_qrd _ _ _) ?_ | with_reducible refine Kh_of (hK _ _ _ _) ?_ | with_reducible exact hK
theorem rc_read_qrd (fu : Nat) : ∀ (d lab : Nat) (a b : Int32) (S : im_S), Kh kq_rd (rc_read fu d lab a b S) S := by
  intro d
  induction d with
  | zero => intro lab a b S; exact Kh_none _
  | succ d ih =>
    intro lab a b S
    unfold rc_read
    repeat' first | with_reducible exact Kh_none _ | with_reducible refine Kh_gd ?_ | with_reducible refine Kh_ite ?_ ?_ | with_reducible refine Kh_bind ?_ (fun q => ?_) | with_reducible refine Kh_some ?_ | with_reducible exact Kq_refl _ | refine Kq_uI rfl ?_ | refine Kq_uJ rfl ?_ | with_reducible refine Kh_of (f_X11_readX_qrd _ _ _ ?_) ?_ | with_reducible refine Kh_of (f_X11_readWithin_qrd _ _ _ ?_) ?_ | with_reducible refine Kh_of (f_X11_readLet_qrd _ _ _ ?_) ?_ | with_reducible refine Kh_of (f_X11_readIf_qrd _ _ _ ?_) ?_ | with_reducible refine Kh_of (f_X11_readBindings_qrd _ _ _ _ ?_) ?_ | with_reducible refine Kh_of (f_X11_readLoop_qrd _ _ _ ?_) ?_ | with_reducible refine Kh_of (f_X11_readSigns_qrd _ _ _ _ ?_) ?_ | with_reducible refine Kh_of (f_X11_readAhead_qrd _ _ _ ?_) ?_ | with_reducible refine Kh_of (f_X11_readAtom_qrd _ _ _ ?_) ?_ | with_reducible refine Kh_of (f_X11_readTable_qrd _ _ _ ?_) ?_ | with_reducible exact ih
/-- looking at types and names -/
def kq_lk (i j : Nat) : Bool := !((Nat.beq i 75 && (Nat.beq j 3 || (Nat.beq j 4 || (Nat.beq j 52 || false)))) || (Nat.beq i 84 || (Nat.beq i 88 || (Nat.beq i 113 || (Nat.beq i 114 || (Nat.beq i 115 || (Nat.beq i 116 || (Nat.beq i 117 || (Nat.beq i 118 || (Nat.beq i 119 || false))))))))))
set_option maxHeartbeats 4000000 in
set_option maxRecDepth 100000 in
theorem f_X11_note_qlk (x1 : Int32) (x2 : Int32) (S : im_S) : Kh kq_lk (f_X11_note x1 x2 S) S := by
  unfold f_X11_note
  repeat' first | with_reducible exact Kh_none _ | with_reducible refine Kh_gd ?_ | with_reducible refine Kh_ite ?_ ?_ | with_reducible refine Kh_bind ?_ (fun q => ?_) | with_reducible refine Kh_some ?_ | with_reducible exact Kq_refl _ | refine Kq_uI rfl ?_ | refine Kq_uJ rfl ?_
set_option maxHeartbeats 4000000 in
set_option maxRecDepth 100000 in
theorem f_X11_firstLetter_L2_qlk (fu : Nat) : ∀ (nf : Nat) (y0 : Int64) (y1 : Int64) (S : im_S), Kh kq_lk (f_X11_firstLetter_L2 fu nf y0 y1 S) S := by
  intro nf
  induction nf with
  | zero => intro y0 y1 S; exact Kh_none _
  | succ nf ih =>
    intro y0 y1 S
    unfold f_X11_firstLetter_L2
    repeat' first | with_reducible exact Kh_none _ | with_reducible refine Kh_gd ?_ | with_reducible refine Kh_ite ?_ ?_ | with_reducible refine Kh_bind ?_ (fun q => ?_) | with_reducible refine Kh_some ?_ | with_reducible exact Kq_refl _ | refine Kq_uI rfl ?_ | refine Kq_uJ rfl ?_ | with_reducible refine Kh_of (ih _ _ _) ?_ | with_reducible exact ih
set_option maxHeartbeats 4000000 in
set_option maxRecDepth 100000 in
theorem f_X11_firstLetter_qlk (fu : Nat) (x0 : Int64) (S : im_S) : Kh kq_lk (f_X11_firstLetter fu x0 S) S := by
  unfold f_X11_firstLetter
  repeat' first | with_reducible exact Kh_none _ | with_reducible refine Kh_gd ?_ | with_reducible refine Kh_ite ?_ ?_ | with_reducible refine Kh_bind ?_ (fun q => ?_) | with_reducible refine Kh_some ?_ | with_reducible exact Kq_refl _ | refine Kq_uI rfl ?_ | refine Kq_uJ rfl ?_ | with_reducible refine Kh_of (f_X11_firstLetter_L2_qlk _ _ _ _ _) ?_
set_option maxHeartbeats 4000000 in
set_option maxRecDepth 100000 in
theorem f_X11_typeOf_qlk (fu : Nat) (x0 : Int64) (S : im_S) : Kh kq_lk (f_X11_typeOf fu x0 S) S := by
  unfold f_X11_typeOf
  repeat' first | with_reducible exact Kh_none _ | with_reducible refine Kh_gd ?_ | with_reducible refine Kh_ite ?_ ?_ | with_reducible refine Kh_bind ?_ (fun q => ?_) | with_reducible refine Kh_some ?_ | with_reducible exact Kq_refl _ | refine Kq_uI rfl ?_ | refine Kq_uJ rfl ?_ | with_reducible refine Kh_of (f_X11_firstLetter_qlk _ _ _) ?_
set_option maxHeartbeats 4000000 in
set_option maxRecDepth 100000 in
theorem f_X11_find_L7_qlk (fu : Nat) : ∀ (nf : Nat) (y0 : Int64) (y1 : Int32) (S : im_S), Kh kq_lk (f_X11_find_L7 fu nf y0 y1 S) S := by
  intro nf
  induction nf with
  | zero => intro y0 y1 S; exact Kh_none _
  | succ nf ih =>
    intro y0 y1 S
    unfold f_X11_find_L7
    repeat' first | with_reducible exact Kh_none _ | with_reducible refine Kh_gd ?_ | with_reducible refine Kh_ite ?_ ?_ | with_reducible refine Kh_bind ?_ (fun q => ?_) | with_reducible refine Kh_some ?_ | with_reducible exact Kq_refl _ | refine Kq_uI rfl ?_ | refine Kq_uJ rfl ?_ | with_reducible refine Kh_of (ih _ _ _) ?_ | with_reducible exact ih
set_option maxHeartbeats 4000000 in
set_option maxRecDepth 100000 in
theorem f_X11_find_qlk (fu : Nat) (x1 : Int64) (S : im_S) : Kh kq_lk (f_X11_find fu x1 S) S := by
  unfold f_X11_find
  repeat' first | with_reducible exact Kh_none _ | with_reducible refine Kh_gd ?_ | with_reducible refine Kh_ite ?_ ?_ | with_reducible refine Kh_bind ?_ (fun q => ?_) | with_reducible refine Kh_some ?_ | with_reducible exact Kq_refl _ | refine Kq_uI rfl ?_ | refine Kq_uJ rfl ?_ | with_reducible refine Kh_of (f_X11_find_L7_qlk _ _ _ _ _) ?_
set_option maxHeartbeats 4000000 in
set_option maxRecDepth 100000 in
theorem f_X11_know_qlk (fu : Nat) (x1 : Int64) (x3 : Int32) (x4 : Int32) (x5 : Int32) (x6 : Int32) (S : im_S) : Kh kq_lk (f_X11_know fu x1 x3 x4 x5 x6 S) S := by
  unfold f_X11_know
  repeat' first | with_reducible exact Kh_none _ | with_reducible refine Kh_gd ?_ | with_reducible refine Kh_ite ?_ ?_ | with_reducible refine Kh_bind ?_ (fun q => ?_) | with_reducible refine Kh_some ?_ | with_reducible exact Kq_refl _ | refine Kq_uI rfl ?_ | refine Kq_uJ rfl ?_ | with_reducible refine Kh_of (f_X11_note_qlk _ _ _) ?_ | with_reducible refine Kh_of (f_X11_find_qlk _ _ _) ?_
set_option maxHeartbeats 4000000 in
set_option maxRecDepth 100000 in
theorem f_X11_functionOf_L10_qlk (fu : Nat) : ∀ (nf : Nat) (y0 : Int64) (y1 : Int32) (S : im_S), Kh kq_lk (f_X11_functionOf_L10 fu nf y0 y1 S) S := by
  intro nf
  induction nf with
  | zero => intro y0 y1 S; exact Kh_none _
  | succ nf ih =>
    intro y0 y1 S
    unfold f_X11_functionOf_L10
    repeat' first | with_reducible exact Kh_none _ | with_reducible refine Kh_gd ?_ | with_reducible refine Kh_ite ?_ ?_ | with_reducible refine Kh_bind ?_ (fun q => ?_) | with_reducible refine Kh_some ?_ | with_reducible exact Kq_refl _ | refine Kq_uI rfl ?_ | refine Kq_uJ rfl ?_ | with_reducible refine Kh_of (ih _ _ _) ?_ | with_reducible exact ih
set_option maxHeartbeats 4000000 in
set_option maxRecDepth 100000 in
theorem f_X11_functionOf_qlk (fu : Nat) (x1 : Int64) (S : im_S) : Kh kq_lk (f_X11_functionOf fu x1 S) S := by
  unfold f_X11_functionOf
  repeat' first | with_reducible exact Kh_none _ | with_reducible refine Kh_gd ?_ | with_reducible refine Kh_ite ?_ ?_ | with_reducible refine Kh_bind ?_ (fun q => ?_) | with_reducible refine Kh_some ?_ | with_reducible exact Kq_refl _ | refine Kq_uI rfl ?_ | refine Kq_uJ rfl ?_ | with_reducible refine Kh_of (f_X11_functionOf_L10_qlk _ _ _ _ _) ?_
set_option maxHeartbeats 4000000 in
set_option maxRecDepth 100000 in
theorem f_X11_lookName_qlk (fu : Nat) (x1 : Int32) (S : im_S) : Kh kq_lk (f_X11_lookName fu x1 S) S := by
  unfold f_X11_lookName
  repeat' first | with_reducible exact Kh_none _ | with_reducible refine Kh_gd ?_ | with_reducible refine Kh_ite ?_ ?_ | with_reducible refine Kh_bind ?_ (fun q => ?_) | with_reducible refine Kh_some ?_ | with_reducible exact Kq_refl _ | refine Kq_uI rfl ?_ | refine Kq_uJ rfl ?_ | with_reducible refine Kh_of (f_X11_note_qlk _ _ _) ?_ | with_reducible refine Kh_of (f_X11_typeOf_qlk _ _ _) ?_ | with_reducible refine Kh_of (f_X11_find_qlk _ _ _) ?_
set_option maxHeartbeats 4000000 in
set_option maxRecDepth 100000 in
theorem f_X11_partOf_L3_qlk (fu : Nat) : ∀ (nf : Nat) (y0 : Int32) (y1 : Int64) (y2 : Int32) (S : im_S), Kh kq_lk (f_X11_partOf_L3 fu nf y0 y1 y2 S) S := by
  intro nf
  induction nf with
  | zero => intro y0 y1 y2 S; exact Kh_none _
  | succ nf ih =>
    intro y0 y1 y2 S
    unfold f_X11_partOf_L3
    repeat' first | with_reducible exact Kh_none _ | with_reducible refine Kh_gd ?_ | with_reducible refine Kh_ite ?_ ?_ | with_reducible refine Kh_bind ?_ (fun q => ?_) | with_reducible refine Kh_some ?_ | with_reducible exact Kq_refl _ | refine Kq_uI rfl ?_ | refine Kq_uJ rfl ?_ | with_reducible refine Kh_of (ih _ _ _ _) ?_ | with_reducible exact ih
set_option maxHeartbeats 4000000 in
set_option maxRecDepth 100000 in
theorem f_X11_partOf_qlk (fu : Nat) (x1 : Int32) (x2 : Int64) (S : im_S) : Kh kq_lk (f_X11_partOf fu x1 x2 S) S := by
  unfold f_X11_partOf
  repeat' first | with_reducible exact Kh_none _ | with_reducible refine Kh_gd ?_ | with_reducible refine Kh_ite ?_ ?_ | with_reducible refine Kh_bind ?_ (fun q => ?_) | with_reducible refine Kh_some ?_ | with_reducible exact Kq_refl _ | refine Kq_uI rfl ?_ | refine Kq_uJ rfl ?_ | with_reducible refine Kh_of (f_X11_partOf_L3_qlk _ _ _ _ _ _) ?_
set_option maxHeartbeats 4000000 in
set_option maxRecDepth 100000 in
theorem f_X11_look_qlk (K : Nat → Int32 → Int32 → im_S → Option (Int32 × im_S)) (fu : Nat) (x1 : Int32) (S : im_S) (hK : ∀ (a0 : Nat) (a1 : Int32) (a2 : Int32) (S : im_S), Kh kq_lk (K a0 a1 a2 S) S) : Kh kq_lk (f_X11_look K fu x1 S) S := by
  unfold f_X11_look
  repeat' first | with_reducible exact Kh_none _ | with_reducible refine Kh_gd ?_ | with_reducible refine Kh_ite ?_ ?_ | with_reducible refine Kh_bind ?_ (fun q => ?_) | with_reducible refine Kh_some ?_ | with_reducible exact Kq_refl _ | refine Kq_uI rfl ?_ | refine Kq_uJ rfl ?_ | with_reducible refine Kh_of (hK _ _ _ _) ?_ | with_reducible exact hK
set_option maxHeartbeats 4000000 in
set_option maxRecDepth 100000 in
theorem f_X11_typed_qlk (K : Nat → Int32 → Int32 → im_S → Option (Int32 × im_S)) (fu : Nat) (x1 : Int32) (S : im_S) (hK : ∀ (a0 : Nat) (a1 : Int32) (a2 : Int32) (S : im_S), Kh kq_lk (K a0 a1 a2 S) S) : Kh kq_lk (f_X11_typed K fu x1 S) S := by
  unfold f_X11_typed
  repeat' first | with_reducible exact Kh_none _ | with_reducible refine Kh_gd ?_ | with_reducible refine Kh_ite ?_ ?_ | with_reducible refine Kh_bind ?_ (fun q => ?_) | with_reducible refine Kh_some ?_ | with_reducible exact Kq_refl _ | refine Kq_uI rfl ?_ | refine Kq_uJ rfl ?_ | with_reducible refine Kh_of (f_X11_lookName_qlk _ _ _) ?_ | with_reducible refine Kh_of (hK _ _ _ _) ?_ | with_reducible exact hK
set_option maxHeartbeats 4000000 in
set_option maxRecDepth 100000 in
theorem f_X11_wants_qlk (K : Nat → Int32 → Int32 → im_S → Option (Int32 × im_S)) (fu : Nat) (x1 : Int32) (x2 : Int32) (S : im_S) (hK : ∀ (a0 : Nat) (a1 : Int32) (a2 : Int32) (S : im_S), Kh kq_lk (K a0 a1 a2 S) S) : Kh kq_lk (f_X11_wants K fu x1 x2 S) S := by
  unfold f_X11_wants
  repeat' first | with_reducible exact Kh_none _ | with_reducible refine Kh_gd ?_ | with_reducible refine Kh_ite ?_ ?_ | with_reducible refine Kh_bind ?_ (fun q => ?_) | with_reducible refine Kh_some ?_ | with_reducible exact Kq_refl _ | refine Kq_uI rfl ?_ | refine Kq_uJ rfl ?_ | with_reducible refine Kh_of (f_X11_note_qlk _ _ _) ?_ | with_reducible refine Kh_of (hK _ _ _ _) ?_ | with_reducible exact hK
set_option maxHeartbeats 4000000 in
set_option maxRecDepth 100000 in
theorem f_X11_lookCall_L51_qlk (K : Nat → Int32 → Int32 → im_S → Option (Int32 × im_S)) (fu : Nat) (hK : ∀ (a0 : Nat) (a1 : Int32) (a2 : Int32) (S : im_S), Kh kq_lk (K a0 a1 a2 S) S) : ∀ (nf : Nat) (y0 : Int32) (y1 : Int32) (y2 : Int32) (S : im_S), Kh kq_lk (f_X11_lookCall_L51 K fu nf y0 y1 y2 S) S := by
  intro nf
  induction nf with
  | zero => intro y0 y1 y2 S; exact Kh_none _
  | succ nf ih =>
    intro y0 y1 y2 S
    unfold f_X11_lookCall_L51
    repeat' first | with_reducible exact Kh_none _ | with_reducible refine Kh_gd ?_ | with_reducible refine Kh_ite ?_ ?_ | with_reducible refine Kh_bind ?_ (fun q => ?_) | with_reducible refine Kh_some ?_ | with_reducible exact Kq_refl _ | refine Kq_uI rfl ?_ | refine Kq_uJ rfl ?_ | with_reducible refine Kh_of (f_X11_typeOf_qlk _ _ _) ?_ | with_reducible refine Kh_of (hK _ _ _ _) ?_ | with_reducible exact hK | with_reducible refine Kh_of (ih _ _ _ _) ?_ | with_reducible exact ih
set_option maxHeartbeats 4000000 in
set_option maxRecDepth 100000 in
theorem f_X11_lookCall_qlk (K : Nat → Int32 → Int32 → im_S → Option (Int32 × im_S)) (fu : Nat) (x1 : Int32) (S : im_S) (hK : ∀ (a0 : Nat) (a1 : Int32) (a2 : Int32) (S : im_S), Kh kq_lk (K a0 a1 a2 S) S) : Kh kq_lk (f_X11_lookCall K fu x1 S) S := by
  unfold f_X11_lookCall
  repeat' first | with_reducible exact Kh_none _ | with_reducible refine Kh_gd ?_ | with_reducible refine Kh_ite ?_ ?_ | with_reducible refine Kh_bind ?_ (fun q => ?_) | with_reducible refine Kh_some ?_ | with_reducible exact Kq_refl _ | refine Kq_uI rfl ?_ | refine Kq_uJ rfl ?_ | with_reducible refine Kh_of (f_X11_note_qlk _ _ _) ?_ | with_reducible refine Kh_of (f_X11_functionOf_qlk _ _ _) ?_ | with_reducible refine Kh_of (f_X11_lookCall_L51_qlk _ _ ?_ _ _ _ _ _) ?_ | with_reducible refine Kh_of (hK _ _ _ _) ?_ | with_reducible exact hK
set_option maxHeartbeats 4000000 in
set_option maxRecDepth 100000 in
theorem f_X11_lookLet_qlk (K : Nat → Int32 → Int32 → im_S → Option (Int32 × im_S)) (fu : Nat) (x1 : Int32) (S : im_S) (hK : ∀ (a0 : Nat) (a1 : Int32) (a2 : Int32) (S : im_S), Kh kq_lk (K a0 a1 a2 S) S) : Kh kq_lk (f_X11_lookLet K fu x1 S) S := by
  unfold f_X11_lookLet
  repeat' first | with_reducible exact Kh_none _ | with_reducible refine Kh_gd ?_ | with_reducible refine Kh_ite ?_ ?_ | with_reducible refine Kh_bind ?_ (fun q => ?_) | with_reducible refine Kh_some ?_ | with_reducible exact Kq_refl _ | refine Kq_uI rfl ?_ | refine Kq_uJ rfl ?_ | with_reducible refine Kh_of (f_X11_typeOf_qlk _ _ _) ?_ | with_reducible refine Kh_of (f_X11_know_qlk _ _ _ _ _ _ _) ?_ | with_reducible refine Kh_of (hK _ _ _ _) ?_ | with_reducible exact hK
set_option maxHeartbeats 4000000 in
set_option maxRecDepth 100000 in
theorem f_X11_lookLoop_L163_qlk (K : Nat → Int32 → Int32 → im_S → Option (Int32 × im_S)) (fu : Nat) (K112 : Int32 → Int32 → Int32 → im_S → Option (Int32 × im_S)) (hK : ∀ (a0 : Nat) (a1 : Int32) (a2 : Int32) (S : im_S), Kh kq_lk (K a0 a1 a2 S) S) (hK112 : ∀ (a0 : Int32) (a1 : Int32) (a2 : Int32) (S : im_S), Kh kq_lk (K112 a0 a1 a2 S) S) : ∀ (nf : Nat) (y0 : Int32) (y1 : Int32) (y2 : Int32) (y3 : Int32) (y4 : Int32) (y5 : Int32) (S : im_S), Kh kq_lk (f_X11_lookLoop_L163 K fu K112 nf y0 y1 y2 y3 y4 y5 S) S := by
  intro nf
  induction nf with
  | zero => intro y0 y1 y2 y3 y4 y5 S; exact Kh_none _
  | succ nf ih =>
    intro y0 y1 y2 y3 y4 y5 S
    unfold f_X11_lookLoop_L163
    repeat' first | with_reducible exact Kh_none _ | with_reducible refine Kh_gd ?_ | with_reducible refine Kh_ite ?_ ?_ | with_reducible refine Kh_bind ?_ (fun q => ?_) | with_reducible refine Kh_some ?_ | with_reducible exact Kq_refl _ | refine Kq_uI rfl ?_ | refine Kq_uJ rfl ?_ | with_reducible refine Kh_of (f_X11_note_qlk _ _ _) ?_ | with_reducible refine Kh_of (f_X11_typeOf_qlk _ _ _) ?_ | with_reducible refine Kh_of (hK _ _ _ _) ?_ | with_reducible exact hK | with_reducible refine Kh_of (hK112 _ _ _ _) ?_ | with_reducible exact hK112 | with_reducible refine Kh_of (ih _ _ _ _ _ _ _) ?_ | with_reducible exact ih
set_option maxHeartbeats 4000000 in
set_option maxRecDepth 100000 in
theorem f_X11_lookLoop_L112_qlk (K : Nat → Int32 → Int32 → im_S → Option (Int32 × im_S)) (fu : Nat) (hK : ∀ (a0 : Nat) (a1 : Int32) (a2 : Int32) (S : im_S), Kh kq_lk (K a0 a1 a2 S) S) : ∀ (nf : Nat) (y0 : Int32) (y1 : Int32) (y2 : Int32) (S : im_S), Kh kq_lk (f_X11_lookLoop_L112 K fu nf y0 y1 y2 S) S := by
  intro nf
  induction nf with
  | zero => intro y0 y1 y2 S; exact Kh_none _
  | succ nf ih =>
    intro y0 y1 y2 S
    unfold f_X11_lookLoop_L112
    repeat' first | with_reducible exact Kh_none _ | with_reducible refine Kh_gd ?_ | with_reducible refine Kh_ite ?_ ?_ | with_reducible refine Kh_bind ?_ (fun q => ?_) | with_reducible refine Kh_some ?_ | with_reducible exact Kq_refl _ | refine Kq_uI rfl ?_ | refine Kq_uJ rfl ?_ | with_reducible refine Kh_of (f_X11_partOf_qlk _ _ _ _) ?_ | with_reducible refine Kh_of (f_X11_lookLoop_L163_qlk _ _ _ ?_ ?_ _ _ _ _ _ _ _ _) ?_ | with_reducible refine Kh_of (hK _ _ _ _) ?_ | with_reducible exact hK | with_reducible refine Kh_of (ih _ _ _ _) ?_ | with_reducible exact ih
set_option maxHeartbeats 4000000 in
set_option maxRecDepth 100000 in
theorem f_X11_lookLoop_L55_qlk (K : Nat → Int32 → Int32 → im_S → Option (Int32 × im_S)) (fu : Nat) (hK : ∀ (a0 : Nat) (a1 : Int32) (a2 : Int32) (S : im_S), Kh kq_lk (K a0 a1 a2 S) S) : ∀ (nf : Nat) (y0 : Int32) (y1 : Int32) (y2 : Int32) (S : im_S), Kh kq_lk (f_X11_lookLoop_L55 K fu nf y0 y1 y2 S) S := by
  intro nf
  induction nf with
  | zero => intro y0 y1 y2 S; exact Kh_none _
  | succ nf ih =>
    intro y0 y1 y2 S
    unfold f_X11_lookLoop_L55
    repeat' first | with_reducible exact Kh_none _ | with_reducible refine Kh_gd ?_ | with_reducible refine Kh_ite ?_ ?_ | with_reducible refine Kh_bind ?_ (fun q => ?_) | with_reducible refine Kh_some ?_ | with_reducible exact Kq_refl _ | refine Kq_uI rfl ?_ | refine Kq_uJ rfl ?_ | with_reducible refine Kh_of (f_X11_know_qlk _ _ _ _ _ _ _) ?_ | with_reducible refine Kh_of (f_X11_lookLoop_L112_qlk _ _ ?_ _ _ _ _ _) ?_ | with_reducible refine Kh_of (hK _ _ _ _) ?_ | with_reducible exact hK | with_reducible refine Kh_of (ih _ _ _ _) ?_ | with_reducible exact ih
set_option maxHeartbeats 4000000 in
set_option maxRecDepth 100000 in
theorem f_X11_lookLoop_L9_qlk (K : Nat → Int32 → Int32 → im_S → Option (Int32 × im_S)) (fu : Nat) (hK : ∀ (a0 : Nat) (a1 : Int32) (a2 : Int32) (S : im_S), Kh kq_lk (K a0 a1 a2 S) S) : ∀ (nf : Nat) (y0 : Int32) (y1 : Int32) (y2 : Int32) (S : im_S), Kh kq_lk (f_X11_lookLoop_L9 K fu nf y0 y1 y2 S) S := by
  intro nf
  induction nf with
  | zero => intro y0 y1 y2 S; exact Kh_none _
  | succ nf ih =>
    intro y0 y1 y2 S
    unfold f_X11_lookLoop_L9
    repeat' first | with_reducible exact Kh_none _ | with_reducible refine Kh_gd ?_ | with_reducible refine Kh_ite ?_ ?_ | with_reducible refine Kh_bind ?_ (fun q => ?_) | with_reducible refine Kh_some ?_ | with_reducible exact Kq_refl _ | refine Kq_uI rfl ?_ | refine Kq_uJ rfl ?_ | with_reducible refine Kh_of (f_X11_typeOf_qlk _ _ _) ?_ | with_reducible refine Kh_of (f_X11_lookLoop_L55_qlk _ _ ?_ _ _ _ _ _) ?_ | with_reducible refine Kh_of (hK _ _ _ _) ?_ | with_reducible exact hK | with_reducible refine Kh_of (ih _ _ _ _) ?_ | with_reducible exact ih
set_option maxHeartbeats 4000000 in
set_option maxRecDepth 100000 in
theorem f_X11_lookLoop_qlk (K : Nat → Int32 → Int32 → im_S → Option (Int32 × im_S)) (fu : Nat) (x1 : Int32) (S : im_S) (hK : ∀ (a0 : Nat) (a1 : Int32) (a2 : Int32) (S : im_S), Kh kq_lk (K a0 a1 a2 S) S) : Kh kq_lk (f_X11_lookLoop K fu x1 S) S := by
  unfold f_X11_lookLoop
  repeat' first | with_reducible exact Kh_none _ | with_reducible refine Kh_gd ?_ | with_reducible refine Kh_ite ?_ ?_ | with_reducible refine Kh_bind ?_ (fun q => ?_) | with_reducible refine Kh_some ?_ | with_reducible exact Kq_refl _ | refine Kq_uI rfl ?_ | refine Kq_uJ rfl ?_ | with_reducible refine Kh_of (f_X11_lookLoop_L9_qlk _ _ ?_ _ _ _ _ _) ?_ | with_reducible refine Kh_of (hK _ _ _ _) ?_ | with_reducible exact hK
set_option maxHeartbeats 4000000 in
set_option maxRecDepth 100000 in
theorem f_X11_lookTable_qlk (K : Nat → Int32 → Int32 → im_S → Option (Int32 × im_S)) (fu : Nat) (x1 : Int32) (S : im_S) (hK : ∀ (a0 : Nat) (a1 : Int32) (a2 : Int32) (S : im_S), Kh kq_lk (K a0 a1 a2 S) S) : Kh kq_lk (f_X11_lookTable K fu x1 S) S := by
  unfold f_X11_lookTable
  repeat' first | with_reducible exact Kh_none _ | with_reducible refine Kh_gd ?_ | with_reducible refine Kh_ite ?_ ?_ | with_reducible refine Kh_bind ?_ (fun q => ?_) | with_reducible refine Kh_some ?_ | with_reducible exact Kq_refl _ | refine Kq_uI rfl ?_ | refine Kq_uJ rfl ?_ | with_reducible refine Kh_of (f_X11_note_qlk _ _ _) ?_ | with_reducible refine Kh_of (f_X11_typeOf_qlk _ _ _) ?_ | with_reducible refine Kh_of (f_X11_know_qlk _ _ _ _ _ _ _) ?_ | with_reducible refine Kh_of (hK _ _ _ _) ?_ | with_reducible exact hK
theorem rc_look_qlk (fu : Nat) : ∀ (d lab : Nat) (a b : Int32) (S : im_S), Kh kq_lk (rc_look fu d lab a b S) S := by
  intro d
  induction d with
  | zero => intro lab a b S; exact Kh_none _
  | succ d ih =>
    intro lab a b S
    unfold rc_look
    repeat' first | with_reducible exact Kh_none _ | with_reducible refine Kh_gd ?_ | with_reducible refine Kh_ite ?_ ?_ | with_reducible refine Kh_bind ?_ (fun q => ?_) | with_reducible refine Kh_some ?_ | with_reducible exact Kq_refl _ | refine Kq_uI rfl ?_ | refine Kq_uJ rfl ?_ | with_reducible refine Kh_of (f_X11_look_qlk _ _ _ _ ?_) ?_ | with_reducible refine Kh_of (f_X11_typed_qlk _ _ _ _ ?_) ?_ | with_reducible refine Kh_of (f_X11_wants_qlk _ _ _ _ _ ?_) ?_ | with_reducible refine Kh_of (f_X11_lookCall_qlk _ _ _ _ ?_) ?_ | with_reducible refine Kh_of (f_X11_lookLet_qlk _ _ _ _ ?_) ?_ | with_reducible refine Kh_of (f_X11_lookLoop_qlk _ _ _ _ ?_) ?_ | with_reducible refine Kh_of (f_X11_lookTable_qlk _ _ _ _ ?_) ?_ | with_reducible exact ih
set_option maxHeartbeats 4000000 in
set_option maxRecDepth 100000 in
theorem g_X11_wants_qlk (fu : Nat) (a : Int32) (b : Int32) (S : im_S) : Kh kq_lk (g_X11_wants fu a b S) S := by
  unfold g_X11_wants
  repeat' first | with_reducible exact Kh_none _ | with_reducible refine Kh_gd ?_ | with_reducible refine Kh_ite ?_ ?_ | with_reducible refine Kh_bind ?_ (fun q => ?_) | with_reducible refine Kh_some ?_ | with_reducible exact Kq_refl _ | refine Kq_uI rfl ?_ | refine Kq_uJ rfl ?_ | with_reducible refine Kh_of (rc_look_qlk _ _ _ _ _ _) ?_
set_option maxHeartbeats 4000000 in
set_option maxRecDepth 100000 in
theorem f_X11_lookAll_L54_qlk (fu : Nat) (K12 : Int32 → Int32 → im_S → Option (Unit × im_S)) (hK12 : ∀ (a0 : Int32) (a1 : Int32) (S : im_S), Kh kq_lk (K12 a0 a1 S) S) : ∀ (nf : Nat) (y0 : Int32) (y1 : Int32) (y2 : Int32) (S : im_S), Kh kq_lk (f_X11_lookAll_L54 fu K12 nf y0 y1 y2 S) S := by
  intro nf
  induction nf with
  | zero => intro y0 y1 y2 S; exact Kh_none _
  | succ nf ih =>
    intro y0 y1 y2 S
    unfold f_X11_lookAll_L54
    repeat' first | with_reducible exact Kh_none _ | with_reducible refine Kh_gd ?_ | with_reducible refine Kh_ite ?_ ?_ | with_reducible refine Kh_bind ?_ (fun q => ?_) | with_reducible refine Kh_some ?_ | with_reducible exact Kq_refl _ | refine Kq_uI rfl ?_ | refine Kq_uJ rfl ?_ | with_reducible refine Kh_of (f_X11_typeOf_qlk _ _ _) ?_ | with_reducible refine Kh_of (f_X11_know_qlk _ _ _ _ _ _ _) ?_ | with_reducible refine Kh_of (g_X11_wants_qlk _ _ _ _) ?_ | with_reducible refine Kh_of (hK12 _ _ _) ?_ | with_reducible exact hK12 | with_reducible refine Kh_of (ih _ _ _ _) ?_ | with_reducible exact ih
set_option maxHeartbeats 4000000 in
set_option maxRecDepth 100000 in
theorem f_X11_lookAll_L12_qlk (fu : Nat) : ∀ (nf : Nat) (y0 : Int32) (y1 : Int32) (S : im_S), Kh kq_lk (f_X11_lookAll_L12 fu nf y0 y1 S) S := by
  intro nf
  induction nf with
  | zero => intro y0 y1 S; exact Kh_none _
  | succ nf ih =>
    intro y0 y1 S
    unfold f_X11_lookAll_L12
    repeat' first | with_reducible exact Kh_none _ | with_reducible refine Kh_gd ?_ | with_reducible refine Kh_ite ?_ ?_ | with_reducible refine Kh_bind ?_ (fun q => ?_) | with_reducible refine Kh_some ?_ | with_reducible exact Kq_refl _ | refine Kq_uI rfl ?_ | refine Kq_uJ rfl ?_ | with_reducible refine Kh_of (f_X11_note_qlk _ _ _) ?_ | with_reducible refine Kh_of (f_X11_functionOf_qlk _ _ _) ?_ | with_reducible refine Kh_of (f_X11_lookAll_L54_qlk _ _ ?_ _ _ _ _ _) ?_ | with_reducible refine Kh_of (ih _ _ _) ?_ | with_reducible exact ih
set_option maxHeartbeats 4000000 in
set_option maxRecDepth 100000 in
theorem f_X11_lookAll_qlk (fu : Nat) (S : im_S) : Kh kq_lk (f_X11_lookAll fu S) S := by
  unfold f_X11_lookAll
  repeat' first | with_reducible exact Kh_none _ | with_reducible refine Kh_gd ?_ | with_reducible refine Kh_ite ?_ ?_ | with_reducible refine Kh_bind ?_ (fun q => ?_) | with_reducible refine Kh_some ?_ | with_reducible exact Kq_refl _ | refine Kq_uI rfl ?_ | refine Kq_uJ rfl ?_ | with_reducible refine Kh_of (f_X11_lookAll_L12_qlk _ _ _ _ _) ?_
/-- laying the regions -/
def kq_ly (i j : Nat) : Bool := !((Nat.beq i 75 && (Nat.beq j 40 || (Nat.beq j 72 || (Nat.beq j 73 || (Nat.beq j 74 || false))))) || (Nat.beq i 96 || (Nat.beq i 103 || (Nat.beq i 104 || (Nat.beq i 105 || (Nat.beq i 106 || (Nat.beq i 107 || (Nat.beq i 108 || (Nat.beq i 109 || (Nat.beq i 110 || (Nat.beq i 111 || (Nat.beq i 112 || false))))))))))))
set_option maxHeartbeats 4000000 in
set_option maxRecDepth 100000 in
theorem f_X11_addRegion_qly (x1 : Int32) (S : im_S) : Kh kq_ly (f_X11_addRegion x1 S) S := by
  unfold f_X11_addRegion
  repeat' first | with_reducible exact Kh_none _ | with_reducible refine Kh_gd ?_ | with_reducible refine Kh_ite ?_ ?_ | with_reducible refine Kh_bind ?_ (fun q => ?_) | with_reducible refine Kh_some ?_ | with_reducible exact Kq_refl _ | refine Kq_uI rfl ?_ | refine Kq_uJ rfl ?_
set_option maxHeartbeats 4000000 in
set_option maxRecDepth 100000 in
theorem f_X11_lay_L261_qly (K : Nat → Int32 → Int32 → im_S → Option (Int32 × im_S)) (fu : Nat) (hK : ∀ (a0 : Nat) (a1 : Int32) (a2 : Int32) (S : im_S), Kh kq_ly (K a0 a1 a2 S) S) : ∀ (nf : Nat) (y0 : Int32) (y1 : Int32) (y2 : Int32) (S : im_S), Kh kq_ly (f_X11_lay_L261 K fu nf y0 y1 y2 S) S := by
  intro nf
  induction nf with
  | zero => intro y0 y1 y2 S; exact Kh_none _
  | succ nf ih =>
    intro y0 y1 y2 S
    unfold f_X11_lay_L261
    repeat' first | with_reducible exact Kh_none _ | with_reducible refine Kh_gd ?_ | with_reducible refine Kh_ite ?_ ?_ | with_reducible refine Kh_bind ?_ (fun q => ?_) | with_reducible refine Kh_some ?_ | with_reducible exact Kq_refl _ | refine Kq_uI rfl ?_ | refine Kq_uJ rfl ?_ | with_reducible refine Kh_of (hK _ _ _ _) ?_ | with_reducible exact hK | with_reducible refine Kh_of (ih _ _ _ _) ?_ | with_reducible exact ih
set_option maxHeartbeats 4000000 in
set_option maxRecDepth 100000 in
theorem f_X11_lay_L171_qly (K : Nat → Int32 → Int32 → im_S → Option (Int32 × im_S)) (fu : Nat) (hK : ∀ (a0 : Nat) (a1 : Int32) (a2 : Int32) (S : im_S), Kh kq_ly (K a0 a1 a2 S) S) : ∀ (nf : Nat) (y0 : Int32) (y1 : Int32) (y2 : Int32) (S : im_S), Kh kq_ly (f_X11_lay_L171 K fu nf y0 y1 y2 S) S := by
  intro nf
  induction nf with
  | zero => intro y0 y1 y2 S; exact Kh_none _
  | succ nf ih =>
    intro y0 y1 y2 S
    unfold f_X11_lay_L171
    repeat' first | with_reducible exact Kh_none _ | with_reducible refine Kh_gd ?_ | with_reducible refine Kh_ite ?_ ?_ | with_reducible refine Kh_bind ?_ (fun q => ?_) | with_reducible refine Kh_some ?_ | with_reducible exact Kq_refl _ | refine Kq_uI rfl ?_ | refine Kq_uJ rfl ?_ | with_reducible refine Kh_of (hK _ _ _ _) ?_ | with_reducible exact hK | with_reducible refine Kh_of (ih _ _ _ _) ?_ | with_reducible exact ih
set_option maxHeartbeats 4000000 in
set_option maxRecDepth 100000 in
theorem f_X11_lay_L108_qly (K : Nat → Int32 → Int32 → im_S → Option (Int32 × im_S)) (fu : Nat) (hK : ∀ (a0 : Nat) (a1 : Int32) (a2 : Int32) (S : im_S), Kh kq_ly (K a0 a1 a2 S) S) : ∀ (nf : Nat) (y0 : Int32) (y1 : Int32) (y2 : Int32) (S : im_S), Kh kq_ly (f_X11_lay_L108 K fu nf y0 y1 y2 S) S := by
  intro nf
  induction nf with
  | zero => intro y0 y1 y2 S; exact Kh_none _
  | succ nf ih =>
    intro y0 y1 y2 S
    unfold f_X11_lay_L108
    repeat' first | with_reducible exact Kh_none _ | with_reducible refine Kh_gd ?_ | with_reducible refine Kh_ite ?_ ?_ | with_reducible refine Kh_bind ?_ (fun q => ?_) | with_reducible refine Kh_some ?_ | with_reducible exact Kq_refl _ | refine Kq_uI rfl ?_ | refine Kq_uJ rfl ?_ | with_reducible refine Kh_of (f_X11_addRegion_qly _ _) ?_ | with_reducible refine Kh_of (f_X11_lay_L171_qly _ _ ?_ _ _ _ _ _) ?_ | with_reducible refine Kh_of (hK _ _ _ _) ?_ | with_reducible exact hK | with_reducible refine Kh_of (ih _ _ _ _) ?_ | with_reducible exact ih
set_option maxHeartbeats 4000000 in
set_option maxRecDepth 100000 in
theorem f_X11_lay_qly (K : Nat → Int32 → Int32 → im_S → Option (Int32 × im_S)) (fu : Nat) (x1 : Int32) (x2 : Int32) (S : im_S) (hK : ∀ (a0 : Nat) (a1 : Int32) (a2 : Int32) (S : im_S), Kh kq_ly (K a0 a1 a2 S) S) : Kh kq_ly (f_X11_lay K fu x1 x2 S) S := by
  unfold f_X11_lay
  repeat' first | with_reducible exact Kh_none _ | with_reducible refine Kh_gd ?_ | with_reducible refine Kh_ite ?_ ?_ | with_reducible refine Kh_bind ?_ (fun q => ?_) | with_reducible refine Kh_some ?_ | with_reducible exact Kq_refl _ | refine Kq_uI rfl ?_ | refine Kq_uJ rfl ?_ | with_reducible refine Kh_of (f_X11_lay_L261_qly _ _ ?_ _ _ _ _ _) ?_ | with_reducible refine Kh_of (f_X11_lay_L108_qly _ _ ?_ _ _ _ _ _) ?_ | with_reducible refine Kh_of (hK _ _ _ _) ?_ | with_reducible exact hK
set_option maxHeartbeats 4000000 in
set_option maxRecDepth 100000 in
theorem f_X11_opened_qly (K : Nat → Int32 → Int32 → im_S → Option (Int32 × im_S)) (fu : Nat) (x1 : Int32) (S : im_S) (hK : ∀ (a0 : Nat) (a1 : Int32) (a2 : Int32) (S : im_S), Kh kq_ly (K a0 a1 a2 S) S) : Kh kq_ly (f_X11_opened K fu x1 S) S := by
  unfold f_X11_opened
  repeat' first | with_reducible exact Kh_none _ | with_reducible refine Kh_gd ?_ | with_reducible refine Kh_ite ?_ ?_ | with_reducible refine Kh_bind ?_ (fun q => ?_) | with_reducible refine Kh_some ?_ | with_reducible exact Kq_refl _ | refine Kq_uI rfl ?_ | refine Kq_uJ rfl ?_ | with_reducible refine Kh_of (f_X11_addRegion_qly _ _) ?_ | with_reducible refine Kh_of (hK _ _ _ _) ?_ | with_reducible exact hK
theorem rc_lay_qly (fu : Nat) : ∀ (d lab : Nat) (a b : Int32) (S : im_S), Kh kq_ly (rc_lay fu d lab a b S) S := by
  intro d
  induction d with
  | zero => intro lab a b S; exact Kh_none _
  | succ d ih =>
    intro lab a b S
    unfold rc_lay
    repeat' first | with_reducible exact Kh_none _ | with_reducible refine Kh_gd ?_ | with_reducible refine Kh_ite ?_ ?_ | with_reducible refine Kh_bind ?_ (fun q => ?_) | with_reducible refine Kh_some ?_ | with_reducible exact Kq_refl _ | refine Kq_uI rfl ?_ | refine Kq_uJ rfl ?_ | with_reducible refine Kh_of (f_X11_lay_qly _ _ _ _ _ ?_) ?_ | with_reducible refine Kh_of (f_X11_opened_qly _ _ _ _ ?_) ?_ | with_reducible exact ih
set_option maxHeartbeats 4000000 in
set_option maxRecDepth 100000 in
theorem g_X11_opened_qly (fu : Nat) (a : Int32) (S : im_S) : Kh kq_ly (g_X11_opened fu a S) S := by
  unfold g_X11_opened
  repeat' first | with_reducible exact Kh_none _ | with_reducible refine Kh_gd ?_ | with_reducible refine Kh_ite ?_ ?_ | with_reducible refine Kh_bind ?_ (fun q => ?_) | with_reducible refine Kh_some ?_ | with_reducible exact Kq_refl _ | refine Kq_uI rfl ?_ | refine Kq_uJ rfl ?_ | with_reducible refine Kh_of (rc_lay_qly _ _ _ _ _ _) ?_
set_option maxHeartbeats 4000000 in
set_option maxRecDepth 100000 in
theorem f_X11_compile_L114_qly (fu : Nat) (K104 : Int32 → im_S → Option (Int32 × im_S)) (hK104 : ∀ (a0 : Int32) (S : im_S), Kh kq_ly (K104 a0 S) S) : ∀ (nf : Nat) (y0 : Int32) (y1 : Int32) (S : im_S), Kh kq_ly (f_X11_compile_L114 fu K104 nf y0 y1 S) S := by
  intro nf
  induction nf with
  | zero => intro y0 y1 S; exact Kh_none _
  | succ nf ih =>
    intro y0 y1 S
    unfold f_X11_compile_L114
    repeat' first | with_reducible exact Kh_none _ | with_reducible refine Kh_gd ?_ | with_reducible refine Kh_ite ?_ ?_ | with_reducible refine Kh_bind ?_ (fun q => ?_) | with_reducible refine Kh_some ?_ | with_reducible exact Kq_refl _ | refine Kq_uI rfl ?_ | refine Kq_uJ rfl ?_ | with_reducible refine Kh_of (hK104 _ _) ?_ | with_reducible exact hK104 | with_reducible refine Kh_of (ih _ _ _) ?_ | with_reducible exact ih
set_option maxHeartbeats 4000000 in
set_option maxRecDepth 100000 in
theorem f_X11_compile_L104_qly (fu : Nat) : ∀ (nf : Nat) (y0 : Int32) (S : im_S), Kh kq_ly (f_X11_compile_L104 fu nf y0 S) S := by
  intro nf
  induction nf with
  | zero => intro y0 S; exact Kh_none _
  | succ nf ih =>
    intro y0 S
    unfold f_X11_compile_L104
    repeat' first | with_reducible exact Kh_none _ | with_reducible refine Kh_gd ?_ | with_reducible refine Kh_ite ?_ ?_ | with_reducible refine Kh_bind ?_ (fun q => ?_) | with_reducible refine Kh_some ?_ | with_reducible exact Kq_refl _ | refine Kq_uI rfl ?_ | refine Kq_uJ rfl ?_ | with_reducible refine Kh_of (f_X11_compile_L114_qly _ _ ?_ _ _ _ _) ?_ | with_reducible refine Kh_of (ih _ _) ?_ | with_reducible exact ih
set_option maxHeartbeats 4000000 in
set_option maxRecDepth 100000 in
theorem f_X11_compile_L69_qly (fu : Nat) : ∀ (nf : Nat) (y0 : Int32) (S : im_S), Kh kq_ly (f_X11_compile_L69 fu nf y0 S) S := by
  intro nf
  induction nf with
  | zero => intro y0 S; exact Kh_none _
  | succ nf ih =>
    intro y0 S
    unfold f_X11_compile_L69
    repeat' first | with_reducible exact Kh_none _ | with_reducible refine Kh_gd ?_ | with_reducible refine Kh_ite ?_ ?_ | with_reducible refine Kh_bind ?_ (fun q => ?_) | with_reducible refine Kh_some ?_ | with_reducible exact Kq_refl _ | refine Kq_uI rfl ?_ | refine Kq_uJ rfl ?_ | with_reducible refine Kh_of (g_X11_opened_qly _ _ _) ?_ | with_reducible refine Kh_of (f_X11_compile_L104_qly _ _ _ _) ?_ | with_reducible refine Kh_of (ih _ _) ?_ | with_reducible exact ih
/-- the reference's tokens -/
def kq_tk (i j : Nat) : Bool := !((Nat.beq i 75 && (Nat.beq j 5 || false)) || (Nat.beq i 77 || (Nat.beq i 78 || (Nat.beq i 79 || (Nat.beq i 80 || false)))))
set_option maxHeartbeats 4000000 in
set_option maxRecDepth 100000 in
theorem f_X11_character_qtk (x1 : Int32) (S : im_S) : Kh kq_tk (f_X11_character x1 S) S := by
  unfold f_X11_character
  repeat' first | with_reducible exact Kh_none _ | with_reducible refine Kh_gd ?_ | with_reducible refine Kh_ite ?_ ?_ | with_reducible refine Kh_bind ?_ (fun q => ?_) | with_reducible refine Kh_some ?_ | with_reducible exact Kq_refl _ | refine Kq_uI rfl ?_ | refine Kq_uJ rfl ?_
set_option maxHeartbeats 4000000 in
set_option maxRecDepth 100000 in
theorem f_X11_isDigit_qtk (x0 : Int32) (S : im_S) : Kh kq_tk (f_X11_isDigit x0 S) S := by
  unfold f_X11_isDigit
  repeat' first | with_reducible exact Kh_none _ | with_reducible refine Kh_gd ?_ | with_reducible refine Kh_ite ?_ ?_ | with_reducible refine Kh_bind ?_ (fun q => ?_) | with_reducible refine Kh_some ?_ | with_reducible exact Kq_refl _ | refine Kq_uI rfl ?_ | refine Kq_uJ rfl ?_
set_option maxHeartbeats 4000000 in
set_option maxRecDepth 100000 in
theorem f_X11_isSmall_qtk (x0 : Int32) (S : im_S) : Kh kq_tk (f_X11_isSmall x0 S) S := by
  unfold f_X11_isSmall
  repeat' first | with_reducible exact Kh_none _ | with_reducible refine Kh_gd ?_ | with_reducible refine Kh_ite ?_ ?_ | with_reducible refine Kh_bind ?_ (fun q => ?_) | with_reducible refine Kh_some ?_ | with_reducible exact Kq_refl _ | refine Kq_uI rfl ?_ | refine Kq_uJ rfl ?_
set_option maxHeartbeats 4000000 in
set_option maxRecDepth 100000 in
theorem f_X11_packed_qtk (x0 : Int32) (x1 : Int32) (x2 : Int32) (x3 : Int32) (x4 : Int32) (S : im_S) : Kh kq_tk (f_X11_packed x0 x1 x2 x3 x4 S) S := by
  unfold f_X11_packed
  repeat' first | with_reducible exact Kh_none _ | with_reducible refine Kh_gd ?_ | with_reducible refine Kh_ite ?_ ?_ | with_reducible refine Kh_bind ?_ (fun q => ?_) | with_reducible refine Kh_some ?_ | with_reducible exact Kq_refl _ | refine Kq_uI rfl ?_ | refine Kq_uJ rfl ?_
set_option maxHeartbeats 4000000 in
set_option maxRecDepth 100000 in
theorem f_X11_wordOf_qtk (x0 : Int64) (S : im_S) : Kh kq_tk (f_X11_wordOf x0 S) S := by
  unfold f_X11_wordOf
  repeat' first | with_reducible exact Kh_none _ | with_reducible refine Kh_gd ?_ | with_reducible refine Kh_ite ?_ ?_ | with_reducible refine Kh_bind ?_ (fun q => ?_) | with_reducible refine Kh_some ?_ | with_reducible exact Kq_refl _ | refine Kq_uI rfl ?_ | refine Kq_uJ rfl ?_ | with_reducible refine Kh_of (f_X11_packed_qtk _ _ _ _ _ _) ?_
set_option maxHeartbeats 4000000 in
set_option maxRecDepth 100000 in
theorem f_X11_token_qtk (x1 : Int32) (x2 : Int32) (x3 : Int32) (x4 : Int64) (S : im_S) : Kh kq_tk (f_X11_token x1 x2 x3 x4 S) S := by
  unfold f_X11_token
  repeat' first | with_reducible exact Kh_none _ | with_reducible refine Kh_gd ?_ | with_reducible refine Kh_ite ?_ ?_ | with_reducible refine Kh_bind ?_ (fun q => ?_) | with_reducible refine Kh_some ?_ | with_reducible exact Kq_refl _ | refine Kq_uI rfl ?_ | refine Kq_uJ rfl ?_
set_option maxHeartbeats 4000000 in
set_option maxRecDepth 100000 in
theorem f_X11_oneToken_L108_qtk (fu : Nat) : ∀ (nf : Nat) (y0 : Int32) (y1 : Int32) (y2 : Int32) (y3 : Int64) (S : im_S), Kh kq_tk (f_X11_oneToken_L108 fu nf y0 y1 y2 y3 S) S := by
  intro nf
  induction nf with
  | zero => intro y0 y1 y2 y3 S; exact Kh_none _
  | succ nf ih =>
    intro y0 y1 y2 y3 S
    unfold f_X11_oneToken_L108
    repeat' first | with_reducible exact Kh_none _ | with_reducible refine Kh_gd ?_ | with_reducible refine Kh_ite ?_ ?_ | with_reducible refine Kh_bind ?_ (fun q => ?_) | with_reducible refine Kh_some ?_ | with_reducible exact Kq_refl _ | refine Kq_uI rfl ?_ | refine Kq_uJ rfl ?_ | with_reducible refine Kh_of (f_X11_character_qtk _ _) ?_ | with_reducible refine Kh_of (f_X11_isDigit_qtk _ _) ?_ | with_reducible refine Kh_of (f_X11_isSmall_qtk _ _) ?_ | with_reducible refine Kh_of (f_X11_wordOf_qtk _ _) ?_ | with_reducible refine Kh_of (f_X11_token_qtk _ _ _ _ _) ?_ | with_reducible refine Kh_of (ih _ _ _ _ _) ?_ | with_reducible exact ih
set_option maxHeartbeats 4000000 in
set_option maxRecDepth 100000 in
theorem f_X11_oneToken_L24_qtk (fu : Nat) : ∀ (nf : Nat) (y0 : Int32) (y1 : Int32) (y2 : Int32) (y3 : Int64) (S : im_S), Kh kq_tk (f_X11_oneToken_L24 fu nf y0 y1 y2 y3 S) S := by
  intro nf
  induction nf with
  | zero => intro y0 y1 y2 y3 S; exact Kh_none _
  | succ nf ih =>
    intro y0 y1 y2 y3 S
    unfold f_X11_oneToken_L24
    repeat' first | with_reducible exact Kh_none _ | with_reducible refine Kh_gd ?_ | with_reducible refine Kh_ite ?_ ?_ | with_reducible refine Kh_bind ?_ (fun q => ?_) | with_reducible refine Kh_some ?_ | with_reducible exact Kq_refl _ | refine Kq_uI rfl ?_ | refine Kq_uJ rfl ?_ | with_reducible refine Kh_of (f_X11_character_qtk _ _) ?_ | with_reducible refine Kh_of (f_X11_isDigit_qtk _ _) ?_ | with_reducible refine Kh_of (f_X11_token_qtk _ _ _ _ _) ?_ | with_reducible refine Kh_of (ih _ _ _ _ _) ?_ | with_reducible exact ih
set_option maxHeartbeats 4000000 in
set_option maxRecDepth 100000 in
theorem f_X11_oneToken_qtk (fu : Nat) (x1 : Int32) (S : im_S) : Kh kq_tk (f_X11_oneToken fu x1 S) S := by
  unfold f_X11_oneToken
  repeat' first | with_reducible exact Kh_none _ | with_reducible refine Kh_gd ?_ | with_reducible refine Kh_ite ?_ ?_ | with_reducible refine Kh_bind ?_ (fun q => ?_) | with_reducible refine Kh_some ?_ | with_reducible exact Kq_refl _ | refine Kq_uI rfl ?_ | refine Kq_uJ rfl ?_ | with_reducible refine Kh_of (f_X11_character_qtk _ _) ?_ | with_reducible refine Kh_of (f_X11_isDigit_qtk _ _) ?_ | with_reducible refine Kh_of (f_X11_isSmall_qtk _ _) ?_ | with_reducible refine Kh_of (f_X11_token_qtk _ _ _ _ _) ?_ | with_reducible refine Kh_of (f_X11_oneToken_L108_qtk _ _ _ _ _ _ _) ?_ | with_reducible refine Kh_of (f_X11_oneToken_L24_qtk _ _ _ _ _ _ _) ?_
set_option maxHeartbeats 4000000 in
set_option maxRecDepth 100000 in
theorem f_X11_tokenize_L9_qtk (fu : Nat) : ∀ (nf : Nat) (y0 : Int32) (y1 : Int32) (S : im_S), Kh kq_tk (f_X11_tokenize_L9 fu nf y0 y1 S) S := by
  intro nf
  induction nf with
  | zero => intro y0 y1 S; exact Kh_none _
  | succ nf ih =>
    intro y0 y1 S
    unfold f_X11_tokenize_L9
    repeat' first | with_reducible exact Kh_none _ | with_reducible refine Kh_gd ?_ | with_reducible refine Kh_ite ?_ ?_ | with_reducible refine Kh_bind ?_ (fun q => ?_) | with_reducible refine Kh_some ?_ | with_reducible exact Kq_refl _ | refine Kq_uI rfl ?_ | refine Kq_uJ rfl ?_ | with_reducible refine Kh_of (f_X11_character_qtk _ _) ?_ | with_reducible refine Kh_of (f_X11_token_qtk _ _ _ _ _) ?_ | with_reducible refine Kh_of (f_X11_oneToken_qtk _ _ _) ?_ | with_reducible refine Kh_of (ih _ _ _) ?_ | with_reducible exact ih
set_option maxHeartbeats 4000000 in
set_option maxRecDepth 100000 in
theorem f_X11_tokenize_qtk (fu : Nat) (S : im_S) : Kh kq_tk (f_X11_tokenize fu S) S := by
  unfold f_X11_tokenize
  repeat' first | with_reducible exact Kh_none _ | with_reducible refine Kh_gd ?_ | with_reducible refine Kh_ite ?_ ?_ | with_reducible refine Kh_bind ?_ (fun q => ?_) | with_reducible refine Kh_some ?_ | with_reducible exact Kq_refl _ | refine Kq_uI rfl ?_ | refine Kq_uJ rfl ?_ | with_reducible refine Kh_of (f_X11_tokenize_L9_qtk _ _ _ _ _) ?_
