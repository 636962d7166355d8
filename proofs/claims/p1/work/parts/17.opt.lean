/-! methods as functions with a guard at each step that the machine would refuse -/
def gd {α : Type} (b : Bool) (x : Option α) : Option α := cond b x none
theorem gd_some {α : Type} {b : Bool} {x : Option α} {y : α} (h : gd b x = some y) : b = true ∧ x = some y := by
  cases b with
  | false => cases h
  | true => exact ⟨rfl, h⟩
theorem bd_some {α β : Type} {x : Option α} {f : α → Option β} {y : β} (h : x.bind f = some y) : ∃ a, x = some a ∧ f a = some y := by
  cases x with
  | none => cases h
  | some a => exact ⟨a, rfl, h⟩
def in_b (i : Int32) (n : Nat) : Bool := decide (0 ≤ i.toInt ∧ i.toInt < n)
theorem in_b_vp {i : Int32} {n : Nat} (h : in_b i n = true) : vp_in i n := vp_in_iff.mpr (of_decide_eq_true h)
def z_b (x : Int32) : Bool := decide (x = 0 ∨ x = 1)
theorem z_b_n {x : Int32} (h : z_b x = true) : narrow .boolean (.int x) = .int x := by
  rcases (of_decide_eq_true h : x = 0 ∨ x = 1) with rfl | rfl <;> rfl
theorem z_b_f {x : Int32} (h : z_b x = true) : fits .boolean (.int x) = true := by
  rcases (of_decide_eq_true h : x = 0 ∨ x = 1) with rfl | rfl <;> rfl
def nz_I (x : Int32) : Bool := decide (¬ x = 0)
def nz_J (x : Int64) : Bool := decide (¬ x = 0)
theorem sw_ne {x v : Int32} {n : Int} (h : ¬ x = v) (hv : v.toInt = n) : x.toInt ≠ n := fun z => h (Int32.toInt_inj.mp (z.trans hv.symm))
section IMK
variable {p : Program} {l : Launch} {e : Env} {R : Room} {s : State} {m : MethodId} {args : Array Value} {below : List Frame} {meth : Method} {c : Code} {g : im_G} {nL : Nat} {Q : State → Prop}
variable {ad : Nat → Nat} {nn : Nat} {cn : Nat → va_E} {bc bs pc : Nat} {lv lv2 : List (Nat × Value)} {st : List Value}
theorem iv_sub (ks : List Nat) (hs : lv_pick lv ks = lv2) (k : im_V p l e R s m args below meth c g nL Q ad nn cn bc bs pc lv2 st) : im_V p l e R s m args below meth c g nL Q ad nn cn bc bs pc lv st :=
  fun M hM ls H locs cells slots hl hP hD hS h1 h2 => k M hM ls H locs cells slots (lv_sub hl ks hs) hP hD hS h1 h2
end IMK
