/-! what reading tokens keeps: written by program (wip/whole/mkframe3.py) -/
def kK (i : Nat) : Bool := Nat.ble i 29 || Nat.ble 34 i
theorem f_sg_indexOf_t (x : Int32) (S : im_S) : Kf kK kT (f_sg_indexOf x S) S := by
  intro r S' e
  unfold f_sg_indexOf at e
  cases hx : sg_ix x with
  | none => rw [hx] at e; cases e
  | some q => rw [hx] at e; cases e; exact Kp_refl _
theorem f_X9_isDigit_t (x0 : Int32) (S : im_S) : Kf kK kT (f_X9_isDigit x0 S) S := by
  unfold f_X9_isDigit
  repeat' first | with_reducible exact Kf_none _ | with_reducible refine Kf_gd ?_ | with_reducible refine Kf_ite ?_ ?_ | with_reducible refine Kf_bind ?_ (fun q => ?_) | with_reducible refine Kf_some ?_ | with_reducible exact Kp_refl _ | refine Kp_uI rfl ?_ | refine Kp_uJ rfl ?_
theorem f_X9_isLetter_t (x0 : Int32) (S : im_S) : Kf kK kT (f_X9_isLetter x0 S) S := by
  unfold f_X9_isLetter
  repeat' first | with_reducible exact Kf_none _ | with_reducible refine Kf_gd ?_ | with_reducible refine Kf_ite ?_ ?_ | with_reducible refine Kf_bind ?_ (fun q => ?_) | with_reducible refine Kf_some ?_ | with_reducible exact Kp_refl _ | refine Kp_uI rfl ?_ | refine Kp_uJ rfl ?_
theorem f_X9_add_t (x1 : Int32) (x2 : Int32) (x3 : Int64) (S : im_S) : Kf kK kT (f_X9_add x1 x2 x3 S) S := by
  unfold f_X9_add
  repeat' first | with_reducible exact Kf_none _ | with_reducible refine Kf_gd ?_ | with_reducible refine Kf_ite ?_ ?_ | with_reducible refine Kf_bind ?_ (fun q => ?_) | with_reducible refine Kf_some ?_ | with_reducible exact Kp_refl _ | refine Kp_uI rfl ?_ | refine Kp_uJ rfl ?_
theorem f_X9_readNumeral_L6_t (fu : Nat) : ∀ (nf : Nat) (y0 : Int32) (y1 : Int32) (y2 : Int64) (y3 : Int32) (S : im_S), Kf kK kT (f_X9_readNumeral_L6 fu nf y0 y1 y2 y3 S) S := by
  intro nf
  induction nf with
  | zero => intro y0 y1 y2 y3 S; exact Kf_none _
  | succ nf ih =>
    intro y0 y1 y2 y3 S
    unfold f_X9_readNumeral_L6
    repeat' first | with_reducible exact Kf_none _ | with_reducible refine Kf_gd ?_ | with_reducible refine Kf_ite ?_ ?_ | with_reducible refine Kf_bind ?_ (fun q => ?_) | with_reducible refine Kf_some ?_ | with_reducible exact Kp_refl _ | refine Kp_uI rfl ?_ | refine Kp_uJ rfl ?_ | with_reducible refine Kf_of ((f_X9_isDigit_t _ _)) ?_ | with_reducible refine Kf_of ((f_X9_add_t _ _ _ _)) ?_ | with_reducible refine Kf_of (ih _ _ _ _ _) ?_ | with_reducible exact ih
theorem f_X9_readNumeral_t (fu : Nat) (x2 : Int32) (x3 : Int32) (S : im_S) : Kf kK kT (f_X9_readNumeral fu x2 x3 S) S := by
  unfold f_X9_readNumeral
  repeat' first | with_reducible exact Kf_none _ | with_reducible refine Kf_gd ?_ | with_reducible refine Kf_ite ?_ ?_ | with_reducible refine Kf_bind ?_ (fun q => ?_) | with_reducible refine Kf_some ?_ | with_reducible exact Kp_refl _ | refine Kp_uI rfl ?_ | refine Kp_uJ rfl ?_ | with_reducible refine Kf_of ((f_X9_readNumeral_L6_t _ _ _ _ _ _ _)) ?_
theorem f_X9_nameOrWord_L2_t : ∀ (nf : Nat) (y0 : Int64) (y1 : Int32) (S : im_S), Kf kK kT (f_X9_nameOrWord_L2  nf y0 y1 S) S := by
  intro nf
  induction nf with
  | zero => intro y0 y1 S; exact Kf_none _
  | succ nf ih =>
    intro y0 y1 S
    unfold f_X9_nameOrWord_L2
    repeat' first | with_reducible exact Kf_none _ | with_reducible refine Kf_gd ?_ | with_reducible refine Kf_ite ?_ ?_ | with_reducible refine Kf_bind ?_ (fun q => ?_) | with_reducible refine Kf_some ?_ | with_reducible exact Kp_refl _ | refine Kp_uI rfl ?_ | refine Kp_uJ rfl ?_ | with_reducible refine Kf_of (ih _ _ _) ?_ | with_reducible exact ih
theorem f_X9_nameOrWord_t (x0 : Int64) (S : im_S) : Kf kK kT (f_X9_nameOrWord x0 S) S := by
  unfold f_X9_nameOrWord
  repeat' first | with_reducible exact Kf_none _ | with_reducible refine Kf_gd ?_ | with_reducible refine Kf_ite ?_ ?_ | with_reducible refine Kf_bind ?_ (fun q => ?_) | with_reducible refine Kf_some ?_ | with_reducible exact Kp_refl _ | refine Kp_uI rfl ?_ | refine Kp_uJ rfl ?_ | with_reducible refine Kf_of ((f_X9_nameOrWord_L2_t _ _ _ _)) ?_
theorem f_X9_readLetters_L6_t (fu : Nat) : ∀ (nf : Nat) (y0 : Int32) (y1 : Int32) (y2 : Int64) (y3 : Int32) (S : im_S), Kf kK kT (f_X9_readLetters_L6 fu nf y0 y1 y2 y3 S) S := by
  intro nf
  induction nf with
  | zero => intro y0 y1 y2 y3 S; exact Kf_none _
  | succ nf ih =>
    intro y0 y1 y2 y3 S
    unfold f_X9_readLetters_L6
    repeat' first | with_reducible exact Kf_none _ | with_reducible refine Kf_gd ?_ | with_reducible refine Kf_ite ?_ ?_ | with_reducible refine Kf_bind ?_ (fun q => ?_) | with_reducible refine Kf_some ?_ | with_reducible exact Kp_refl _ | refine Kp_uI rfl ?_ | refine Kp_uJ rfl ?_ | with_reducible refine Kf_of ((f_X9_isDigit_t _ _)) ?_ | with_reducible refine Kf_of ((f_X9_isLetter_t _ _)) ?_ | with_reducible refine Kf_of ((f_X9_add_t _ _ _ _)) ?_ | with_reducible refine Kf_of ((f_X9_nameOrWord_t _ _)) ?_ | with_reducible refine Kf_of (ih _ _ _ _ _) ?_ | with_reducible exact ih
theorem f_X9_readLetters_t (fu : Nat) (x2 : Int32) (x3 : Int32) (S : im_S) : Kf kK kT (f_X9_readLetters fu x2 x3 S) S := by
  unfold f_X9_readLetters
  repeat' first | with_reducible exact Kf_none _ | with_reducible refine Kf_gd ?_ | with_reducible refine Kf_ite ?_ ?_ | with_reducible refine Kf_bind ?_ (fun q => ?_) | with_reducible refine Kf_some ?_ | with_reducible exact Kp_refl _ | refine Kp_uI rfl ?_ | refine Kp_uJ rfl ?_ | with_reducible refine Kf_of ((f_X9_readLetters_L6_t _ _ _ _ _ _ _)) ?_
theorem f_X9_readAt_t (fu : Nat) (x2 : Int32) (x3 : Int32) (S : im_S) : Kf kK kT (f_X9_readAt fu x2 x3 S) S := by
  unfold f_X9_readAt
  repeat' first | with_reducible exact Kf_none _ | with_reducible refine Kf_gd ?_ | with_reducible refine Kf_ite ?_ ?_ | with_reducible refine Kf_bind ?_ (fun q => ?_) | with_reducible refine Kf_some ?_ | with_reducible exact Kp_refl _ | refine Kp_uI rfl ?_ | refine Kp_uJ rfl ?_ | with_reducible refine Kf_of ((f_X9_isDigit_t _ _)) ?_ | with_reducible refine Kf_of ((f_X9_isLetter_t _ _)) ?_ | with_reducible refine Kf_of ((f_X9_add_t _ _ _ _)) ?_ | with_reducible refine Kf_of ((f_X9_readNumeral_t _ _ _ _)) ?_ | with_reducible refine Kf_of ((f_sg_indexOf_t _ _)) ?_ | with_reducible refine Kf_of ((f_X9_readLetters_t _ _ _ _)) ?_
theorem f_X9_read_L10_t (fu : Nat) : ∀ (nf : Nat) (y0 : Int32) (y1 : Int32) (y2 : Int32) (S : im_S), Kf kK kT (f_X9_read_L10 fu nf y0 y1 y2 S) S := by
  intro nf
  induction nf with
  | zero => intro y0 y1 y2 S; exact Kf_none _
  | succ nf ih =>
    intro y0 y1 y2 S
    unfold f_X9_read_L10
    repeat' first | with_reducible exact Kf_none _ | with_reducible refine Kf_gd ?_ | with_reducible refine Kf_ite ?_ ?_ | with_reducible refine Kf_bind ?_ (fun q => ?_) | with_reducible refine Kf_some ?_ | with_reducible exact Kp_refl _ | refine Kp_uI rfl ?_ | refine Kp_uJ rfl ?_ | with_reducible refine Kf_of ((f_X9_add_t _ _ _ _)) ?_ | with_reducible refine Kf_of ((f_X9_readAt_t _ _ _ _)) ?_ | with_reducible refine Kf_of (ih _ _ _ _) ?_ | with_reducible exact ih
theorem f_X9_read_t (fu : Nat) (x2 : Int32) (S : im_S) : Kf kK kT (f_X9_read fu x2 S) S := by
  unfold f_X9_read
  repeat' first | with_reducible exact Kf_none _ | with_reducible refine Kf_gd ?_ | with_reducible refine Kf_ite ?_ ?_ | with_reducible refine Kf_bind ?_ (fun q => ?_) | with_reducible refine Kf_some ?_ | with_reducible exact Kp_refl _ | refine Kp_uI rfl ?_ | refine Kp_uJ rfl ?_ | with_reducible refine Kf_of ((f_X9_read_L10_t _ _ _ _ _ _)) ?_
