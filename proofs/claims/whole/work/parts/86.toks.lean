/-! the tokens, one by one: what class and reference make of a character row (wip/whole/mk86.py) -/
def dD (n : Nat) : Bool := Nat.ble 48 n && Nat.ble n 57
def dA (n : Nat) : Bool := Nat.ble 97 n && Nat.ble n 122
theorem cm_ne {x y : Int64} : ((lg_cmp x y : Int32) ≠ 0) ↔ x ≠ y := not_congr (lg_cmp_eq x y)
theorem dg9_v {n : Nat} (h : n < 127) (S : im_S) : f_X9_isDigit (nI n) S = some (cond (dD n) 1 0, S) := by
  have hA : ∀ n, n < 127 → (if (nI n : Int32) < 48 then (0 : Int32) else if (57 : Int32) < nI n then 0 else 1) = cond (dD n) 1 0 := by decide +kernel
  rw [← hA n h]
  unfold f_X9_isDigit
  by_cases h1 : nI n < 48
  · rw [if_pos h1, if_pos h1]
  · rw [if_neg h1, if_neg h1]
    by_cases h2 : (57 : Int32) < nI n
    · rw [if_pos h2, if_pos h2]
    · rw [if_neg h2, if_neg h2]
theorem lt9_v {n : Nat} (h : n < 127) (S : im_S) : f_X9_isLetter (nI n) S = some (cond (dA n) 1 0, S) := by
  have hA : ∀ n, n < 127 → (if (nI n : Int32) < 97 then (0 : Int32) else if (122 : Int32) < nI n then 0 else 1) = cond (dA n) 1 0 := by decide +kernel
  rw [← hA n h]
  unfold f_X9_isLetter
  by_cases h1 : nI n < 97
  · rw [if_pos h1, if_pos h1]
  · rw [if_neg h1, if_neg h1]
    by_cases h2 : (122 : Int32) < nI n
    · rw [if_pos h2, if_pos h2]
    · rw [if_neg h2, if_neg h2]
theorem dg11_v {n : Nat} (h : n < 127) (S : im_S) : f_X11_isDigit (nI n) S = some (cond (dD n) 1 0, S) := by
  have hA : ∀ n, n < 127 → (if (nI n : Int32) < 48 then (0 : Int32) else if (57 : Int32) < nI n then 0 else 1) = cond (dD n) 1 0 := by decide +kernel
  rw [← hA n h]
  unfold f_X11_isDigit
  by_cases h1 : nI n < 48
  · rw [if_pos h1, if_pos h1]
  · rw [if_neg h1, if_neg h1]
    by_cases h2 : (57 : Int32) < nI n
    · rw [if_pos h2, if_pos h2]
    · rw [if_neg h2, if_neg h2]
theorem lt11_v {n : Nat} (h : n < 127) (S : im_S) : f_X11_isSmall (nI n) S = some (cond (dA n) 1 0, S) := by
  have hA : ∀ n, n < 127 → (if (nI n : Int32) < 97 then (0 : Int32) else if (122 : Int32) < nI n then 0 else 1) = cond (dA n) 1 0 := by decide +kernel
  rw [← hA n h]
  unfold f_X11_isSmall
  by_cases h1 : nI n < 97
  · rw [if_pos h1, if_pos h1]
  · rw [if_neg h1, if_neg h1]
    by_cases h2 : (122 : Int32) < nI n
    · rw [if_pos h2, if_pos h2]
    · rw [if_neg h2, if_neg h2]
theorem nI_sub {a b : Nat} (h : b ≤ a) : nI a - nI b = nI (a - b) := by
  have e : nI a = nI (a - b) + nI b := by rw [nI_add, Nat.sub_add_cancel h]
  rw [e, Int32.add_sub_cancel]
/-- a row of digits, as the class reads it: where it ends, its number -/
def nmR (t : Nat → Nat) : Nat → Nat → Int64 → Nat × Int64
  | 0, i, v => (i, v)
  | d + 1, i, v => cond (dD (t i)) (nmR t d (i + 1) (v * 10 + (nI (t i) - 48).toInt64)) (i, v)
/-- .. as the reference does -/
def nmQ (t : Nat → Nat) (f : Nat) : Nat → Nat → Int64 → Nat × Int64
  | 0, i, v => (i, v)
  | d + 1, i, v => cond (dD (t i)) (nmQ t f d (i + 1) (if i - f < 12 then 10 * v + (nI (t i)).toInt64 - 48 else v)) (i, v)
/-- a row of letters and digits -/
def ltR (t : Nat → Nat) : Nat → Nat → Int64 → Nat × Int64
  | 0, i, v => (i, v)
  | d + 1, i, v => cond (dA (t i) || dD (t i)) (ltR t d (i + 1) ((v <<< ((8 : Int32).toInt64 &&& 63)) ||| (nI (t i)).toInt64)) (i, v)
def ltQ (t : Nat → Nat) (f : Nat) : Nat → Nat → Int64 → Nat × Int64
  | 0, i, v => (i, v)
  | d + 1, i, v => cond (dA (t i) || dD (t i)) (ltQ t f d (i + 1) (if i - f < 7 then (v <<< ((8 : Int32).toInt64 &&& 63)) ||| (nI (t i)).toInt64 else v)) (i, v)
theorem nmR_le (t : Nat → Nat) : ∀ (d i : Nat) (v : Int64), i ≤ (nmR t d i v).1 ∧ (nmR t d i v).1 ≤ i + d := by
  intro d
  induction d with
  | zero => intro i v; exact ⟨Nat.le_refl _, Nat.le_refl _⟩
  | succ d ih =>
    intro i v
    unfold nmR
    cases dD (t i) with
    | false => exact ⟨Nat.le_refl _, by show i ≤ _; omega⟩
    | true =>
      have := ih (i + 1) (v * 10 + (nI (t i) - 48).toInt64)
      show i ≤ (nmR t d (i + 1) (v * 10 + (nI (t i) - 48).toInt64)).1 ∧ (nmR t d (i + 1) (v * 10 + (nI (t i) - 48).toInt64)).1 ≤ i + (d + 1)
      omega
theorem ltR_le (t : Nat → Nat) : ∀ (d i : Nat) (v : Int64), i ≤ (ltR t d i v).1 ∧ (ltR t d i v).1 ≤ i + d := by
  intro d
  induction d with
  | zero => intro i v; exact ⟨Nat.le_refl _, Nat.le_refl _⟩
  | succ d ih =>
    intro i v
    unfold ltR
    cases dA (t i) || dD (t i) with
    | false => exact ⟨Nat.le_refl _, by show i ≤ _; omega⟩
    | true =>
      have := ih (i + 1) ((v <<< ((8 : Int32).toInt64 &&& 63)) ||| (nI (t i)).toInt64)
      show i ≤ (ltR t d (i + 1) ((v <<< ((8 : Int32).toInt64 &&& 63)) ||| (nI (t i)).toInt64)).1 ∧ (ltR t d (i + 1) ((v <<< ((8 : Int32).toInt64 &&& 63)) ||| (nI (t i)).toInt64)).1 ≤ i + (d + 1)
      omega
theorem nq_e (t : Nat → Nat) (f : Nat) : ∀ (d i : Nat) (v w : Int64), (nmQ t f d i w).1 = (nmR t d i v).1 := by
  intro d
  induction d with
  | zero => intro i v w; rfl
  | succ d ih =>
    intro i v w
    unfold nmQ nmR
    cases dD (t i) with
    | false => rfl
    | true => exact ih _ _ _
theorem lq_e (t : Nat → Nat) (f : Nat) : ∀ (d i : Nat) (v w : Int64), (ltQ t f d i w).1 = (ltR t d i v).1 := by
  intro d
  induction d with
  | zero => intro i v w; rfl
  | succ d ih =>
    intro i v w
    unfold ltQ ltR
    cases dA (t i) || dD (t i) with
    | false => rfl
    | true => exact ih _ _ _
theorem nq_c {n : Nat} (h : dD n = true) : (nI n - 48).toInt64 = (nI n).toInt64 - 48 := by
  have hA : ∀ n, n < 58 → dD n = true → (nI n - 48).toInt64 = (nI n).toInt64 - 48 := by decide +kernel
  refine hA n ?_ h
  unfold dD at h
  have := (Bool.and_eq_true_iff.mp h).2
  have := Nat.le_of_ble_eq_true this
  omega
theorem nq_v (t : Nat → Nat) (f : Nat) : ∀ (d i : Nat) (v : Int64), f ≤ i → (nmR t d i v).1 ≤ f + 12 → (nmQ t f d i v).2 = (nmR t d i v).2 := by
  intro d
  induction d with
  | zero => intro i v _ _; rfl
  | succ d ih =>
    intro i v hf he
    unfold nmQ nmR
    unfold nmR at he
    cases hd : dD (t i) with
    | false => rfl
    | true =>
      rw [hd] at he
      have he' : (nmR t d (i + 1) (v * 10 + (nI (t i) - 48).toInt64)).1 ≤ f + 12 := he
      have hl := (nmR_le t d (i + 1) (v * 10 + (nI (t i) - 48).toInt64)).1
      show (nmQ t f d (i + 1) (if i - f < 12 then 10 * v + (nI (t i)).toInt64 - 48 else v)).2 = (nmR t d (i + 1) (v * 10 + (nI (t i) - 48).toInt64)).2
      rw [if_pos (by omega), show 10 * v + (nI (t i)).toInt64 - 48 = v * 10 + (nI (t i) - 48).toInt64 by rw [nq_c hd, Int64.mul_comm, Int64.sub_eq_add_neg, Int64.sub_eq_add_neg, Int64.add_assoc]]
      exact ih _ _ (by omega) he'
theorem lq_v (t : Nat → Nat) (f : Nat) : ∀ (d i : Nat) (v : Int64), f ≤ i → (ltR t d i v).1 ≤ f + 7 → (ltQ t f d i v).2 = (ltR t d i v).2 := by
  intro d
  induction d with
  | zero => intro i v _ _; rfl
  | succ d ih =>
    intro i v hf he
    unfold ltQ ltR
    unfold ltR at he
    cases hd : dA (t i) || dD (t i) with
    | false => rfl
    | true =>
      rw [hd] at he
      have he' : (ltR t d (i + 1) ((v <<< ((8 : Int32).toInt64 &&& 63)) ||| (nI (t i)).toInt64)).1 ≤ f + 7 := he
      have hl := (ltR_le t d (i + 1) ((v <<< ((8 : Int32).toInt64 &&& 63)) ||| (nI (t i)).toInt64)).1
      show (ltQ t f d (i + 1) (if i - f < 7 then (v <<< ((8 : Int32).toInt64 &&& 63)) ||| (nI (t i)).toInt64 else v)).2 = (ltR t d (i + 1) ((v <<< ((8 : Int32).toInt64 &&& 63)) ||| (nI (t i)).toInt64)).2
      rw [if_pos (by omega)]
      exact ih _ _ (by omega) he'
/-! the words -/
def nwR : Nat → Nat → Int64 → Int32
  | 0, _, _ => 1
  | d + 1, i, x => if wdA i = x then 4 + nI i else nwR d (i + 1) x
def woR : Nat → Nat → Int64 → Nat
  | 0, _, _ => 0
  | d + 1, i, x => if wdA i = x then i + 1 else woR d (i + 1) x
theorem nw_v (x : Int64) (S : im_S) : ∀ (d nf i : Nat), i + d = 13 → d < nf → f_X9_nameOrWord_L2 nf x (nI i) S = some (nwR d i x, S) := by
  intro d
  induction d with
  | zero =>
    intro nf i hi hn
    obtain ⟨nf, rfl⟩ : ∃ z, nf = z + 1 := ⟨nf - 1, by omega⟩
    have hle : (13 : Int32) ≤ nI i := (mI_le (a := 13) (b := i) (by omega) (by omega)).mpr (by omega)
    rw [f_X9_nameOrWord_L2, if_pos hle]
    rfl
  | succ d ih =>
    intro nf i hi hn
    obtain ⟨nf, rfl⟩ : ∃ z, nf = z + 1 := ⟨nf - 1, by omega⟩
    have hlt : ¬ (13 : Int32) ≤ nI i := fun q => by have := (mI_le (a := 13) (b := i) (by omega) (by omega)).mp q; omega
    rw [f_X9_nameOrWord_L2, if_neg hlt, mI_in (a := i) (n := 13) (by omega) (by omega)]
    show (if (lg_cmp (wdA (nI i).toNatClampNeg) x : Int32) ≠ 0 then f_X9_nameOrWord_L2 nf x (nI i + nI 1) S else some (4 + nI i, S)) = _
    rw [nI_clamp (by omega)]
    unfold nwR
    by_cases hc : wdA i = x
    · rw [if_neg (fun q => cm_ne.mp q hc), if_pos hc]
    · rw [if_pos (cm_ne.mpr hc), if_neg hc, nI_add]
      exact ih nf (i + 1) (by omega) (by omega)
theorem nw_val (x : Int64) (S : im_S) : f_X9_nameOrWord x S = some (nwR 13 0 x, S) := nw_v x S 13 14 0 (by omega) (by omega)
theorem wo_nw (x : Int64) : ∀ (d i : Nat), i + d = 13 → (woR d i x = 0 ∧ nwR d i x = 1) ∨ (1 ≤ woR d i x ∧ woR d i x ≤ 13 ∧ nwR d i x = nI (3 + woR d i x)) := by
  intro d
  induction d with
  | zero => intro i _; exact .inl ⟨rfl, rfl⟩
  | succ d ih =>
    intro i hi
    unfold woR nwR
    by_cases hc : wdA i = x
    · rw [if_pos hc, if_pos hc]
      refine .inr ⟨by omega, by omega, ?_⟩
      show nI 4 + nI i = _
      rw [nI_add]
      congr 1
      omega
    · rw [if_neg hc, if_neg hc]
      exact ih (i + 1) (by omega)

theorem pk_0 (S : im_S) : f_X11_packed 0 0 108 101 116 S = some (wdA 0, S) := by
  have e : wdA 0 = ((((((0 : Int32).toInt64 <<< ((8 : Int32).toInt64 &&& 63)) ||| (0 : Int32).toInt64) <<< ((8 : Int32).toInt64 &&& 63)) ||| (108 : Int32).toInt64) <<< ((16 : Int32).toInt64 &&& 63)) ||| (((101 : Int32) <<< (8 &&& 31)).toInt64) ||| (116 : Int32).toInt64 := by decide +kernel
  rw [e]
  rfl
theorem pk_1 (S : im_S) : f_X11_packed 0 0 0 105 110 S = some (wdA 1, S) := by
  have e : wdA 1 = ((((((0 : Int32).toInt64 <<< ((8 : Int32).toInt64 &&& 63)) ||| (0 : Int32).toInt64) <<< ((8 : Int32).toInt64 &&& 63)) ||| (0 : Int32).toInt64) <<< ((16 : Int32).toInt64 &&& 63)) ||| (((105 : Int32) <<< (8 &&& 31)).toInt64) ||| (110 : Int32).toInt64 := by decide +kernel
  rw [e]
  rfl
theorem pk_2 (S : im_S) : f_X11_packed 0 0 0 105 102 S = some (wdA 2, S) := by
  have e : wdA 2 = ((((((0 : Int32).toInt64 <<< ((8 : Int32).toInt64 &&& 63)) ||| (0 : Int32).toInt64) <<< ((8 : Int32).toInt64 &&& 63)) ||| (0 : Int32).toInt64) <<< ((16 : Int32).toInt64 &&& 63)) ||| (((105 : Int32) <<< (8 &&& 31)).toInt64) ||| (102 : Int32).toInt64 := by decide +kernel
  rw [e]
  rfl
theorem pk_3 (S : im_S) : f_X11_packed 0 116 104 101 110 S = some (wdA 3, S) := by
  have e : wdA 3 = ((((((0 : Int32).toInt64 <<< ((8 : Int32).toInt64 &&& 63)) ||| (116 : Int32).toInt64) <<< ((8 : Int32).toInt64 &&& 63)) ||| (104 : Int32).toInt64) <<< ((16 : Int32).toInt64 &&& 63)) ||| (((101 : Int32) <<< (8 &&& 31)).toInt64) ||| (110 : Int32).toInt64 := by decide +kernel
  rw [e]
  rfl
theorem pk_4 (S : im_S) : f_X11_packed 0 101 108 115 101 S = some (wdA 4, S) := by
  have e : wdA 4 = ((((((0 : Int32).toInt64 <<< ((8 : Int32).toInt64 &&& 63)) ||| (101 : Int32).toInt64) <<< ((8 : Int32).toInt64 &&& 63)) ||| (108 : Int32).toInt64) <<< ((16 : Int32).toInt64 &&& 63)) ||| (((115 : Int32) <<< (8 &&& 31)).toInt64) ||| (101 : Int32).toInt64 := by decide +kernel
  rw [e]
  rfl
theorem pk_5 (S : im_S) : f_X11_packed 0 108 111 111 112 S = some (wdA 5, S) := by
  have e : wdA 5 = ((((((0 : Int32).toInt64 <<< ((8 : Int32).toInt64 &&& 63)) ||| (108 : Int32).toInt64) <<< ((8 : Int32).toInt64 &&& 63)) ||| (111 : Int32).toInt64) <<< ((16 : Int32).toInt64 &&& 63)) ||| (((111 : Int32) <<< (8 &&& 31)).toInt64) ||| (112 : Int32).toInt64 := by decide +kernel
  rw [e]
  rfl
theorem pk_6 (S : im_S) : f_X11_packed 119 104 105 108 101 S = some (wdA 6, S) := by
  have e : wdA 6 = ((((((119 : Int32).toInt64 <<< ((8 : Int32).toInt64 &&& 63)) ||| (104 : Int32).toInt64) <<< ((8 : Int32).toInt64 &&& 63)) ||| (105 : Int32).toInt64) <<< ((16 : Int32).toInt64 &&& 63)) ||| (((108 : Int32) <<< (8 &&& 31)).toInt64) ||| (101 : Int32).toInt64 := by decide +kernel
  rw [e]
  rfl
theorem pk_7 (S : im_S) : f_X11_packed 0 110 101 120 116 S = some (wdA 7, S) := by
  have e : wdA 7 = ((((((0 : Int32).toInt64 <<< ((8 : Int32).toInt64 &&& 63)) ||| (110 : Int32).toInt64) <<< ((8 : Int32).toInt64 &&& 63)) ||| (101 : Int32).toInt64) <<< ((16 : Int32).toInt64 &&& 63)) ||| (((120 : Int32) <<< (8 &&& 31)).toInt64) ||| (116 : Int32).toInt64 := by decide +kernel
  rw [e]
  rfl
theorem pk_8 (S : im_S) : f_X11_packed 0 103 105 118 101 S = some (wdA 8, S) := by
  have e : wdA 8 = ((((((0 : Int32).toInt64 <<< ((8 : Int32).toInt64 &&& 63)) ||| (103 : Int32).toInt64) <<< ((8 : Int32).toInt64 &&& 63)) ||| (105 : Int32).toInt64) <<< ((16 : Int32).toInt64 &&& 63)) ||| (((118 : Int32) <<< (8 &&& 31)).toInt64) ||| (101 : Int32).toInt64 := by decide +kernel
  rw [e]
  rfl
theorem pk_9 (S : im_S) : f_X11_packed 0 0 116 97 98 S = some (wdA 9, S) := by
  have e : wdA 9 = ((((((0 : Int32).toInt64 <<< ((8 : Int32).toInt64 &&& 63)) ||| (0 : Int32).toInt64) <<< ((8 : Int32).toInt64 &&& 63)) ||| (116 : Int32).toInt64) <<< ((16 : Int32).toInt64 &&& 63)) ||| (((97 : Int32) <<< (8 &&& 31)).toInt64) ||| (98 : Int32).toInt64 := by decide +kernel
  rw [e]
  rfl
theorem pk_10 (S : im_S) : f_X11_packed 0 0 0 111 102 S = some (wdA 10, S) := by
  have e : wdA 10 = ((((((0 : Int32).toInt64 <<< ((8 : Int32).toInt64 &&& 63)) ||| (0 : Int32).toInt64) <<< ((8 : Int32).toInt64 &&& 63)) ||| (0 : Int32).toInt64) <<< ((16 : Int32).toInt64 &&& 63)) ||| (((111 : Int32) <<< (8 &&& 31)).toInt64) ||| (102 : Int32).toInt64 := by decide +kernel
  rw [e]
  rfl
theorem pk_11 (S : im_S) : f_X11_packed 0 116 114 117 101 S = some (wdA 11, S) := by
  have e : wdA 11 = ((((((0 : Int32).toInt64 <<< ((8 : Int32).toInt64 &&& 63)) ||| (116 : Int32).toInt64) <<< ((8 : Int32).toInt64 &&& 63)) ||| (114 : Int32).toInt64) <<< ((16 : Int32).toInt64 &&& 63)) ||| (((117 : Int32) <<< (8 &&& 31)).toInt64) ||| (101 : Int32).toInt64 := by decide +kernel
  rw [e]
  rfl
theorem pk_12 (S : im_S) : f_X11_packed 102 97 108 115 101 S = some (wdA 12, S) := by
  have e : wdA 12 = ((((((102 : Int32).toInt64 <<< ((8 : Int32).toInt64 &&& 63)) ||| (97 : Int32).toInt64) <<< ((8 : Int32).toInt64 &&& 63)) ||| (108 : Int32).toInt64) <<< ((16 : Int32).toInt64 &&& 63)) ||| (((115 : Int32) <<< (8 &&& 31)).toInt64) ||| (101 : Int32).toInt64 := by decide +kernel
  rw [e]
  rfl
def woV (x : Int64) : Nat := if wdA 0 = x then 1 else if wdA 1 = x then 2 else if wdA 2 = x then 3 else if wdA 3 = x then 4 else if wdA 4 = x then 5 else if wdA 5 = x then 6 else if wdA 6 = x then 7 else if wdA 7 = x then 8 else if wdA 8 = x then 9 else if wdA 9 = x then 10 else if wdA 10 = x then 11 else if wdA 11 = x then 12 else if wdA 12 = x then 13 else 0
theorem woV_eq (x : Int64) : woR 13 0 x = woV x := rfl
theorem wo_val (x : Int64) (S : im_S) : f_X11_wordOf x S = some (nI (woR 13 0 x), S) := by
  rw [woV_eq]
  unfold f_X11_wordOf woV
  rw [pk_0]
  show (if (lg_cmp x (wdA 0) : Int32) ≠ 0 then _ else some (1, S)) = _
  by_cases h0 : wdA 0 = x
  · rw [if_neg (fun q => cm_ne.mp q h0.symm), if_pos h0]; rfl
  rw [if_pos (cm_ne.mpr (fun q => h0 q.symm)), if_neg h0]
  rw [pk_1]
  show (if (lg_cmp x (wdA 1) : Int32) ≠ 0 then _ else some (2, S)) = _
  by_cases h1 : wdA 1 = x
  · rw [if_neg (fun q => cm_ne.mp q h1.symm), if_pos h1]; rfl
  rw [if_pos (cm_ne.mpr (fun q => h1 q.symm)), if_neg h1]
  rw [pk_2]
  show (if (lg_cmp x (wdA 2) : Int32) ≠ 0 then _ else some (3, S)) = _
  by_cases h2 : wdA 2 = x
  · rw [if_neg (fun q => cm_ne.mp q h2.symm), if_pos h2]; rfl
  rw [if_pos (cm_ne.mpr (fun q => h2 q.symm)), if_neg h2]
  rw [pk_3]
  show (if (lg_cmp x (wdA 3) : Int32) ≠ 0 then _ else some (4, S)) = _
  by_cases h3 : wdA 3 = x
  · rw [if_neg (fun q => cm_ne.mp q h3.symm), if_pos h3]; rfl
  rw [if_pos (cm_ne.mpr (fun q => h3 q.symm)), if_neg h3]
  rw [pk_4]
  show (if (lg_cmp x (wdA 4) : Int32) ≠ 0 then _ else some (5, S)) = _
  by_cases h4 : wdA 4 = x
  · rw [if_neg (fun q => cm_ne.mp q h4.symm), if_pos h4]; rfl
  rw [if_pos (cm_ne.mpr (fun q => h4 q.symm)), if_neg h4]
  rw [pk_5]
  show (if (lg_cmp x (wdA 5) : Int32) ≠ 0 then _ else some (6, S)) = _
  by_cases h5 : wdA 5 = x
  · rw [if_neg (fun q => cm_ne.mp q h5.symm), if_pos h5]; rfl
  rw [if_pos (cm_ne.mpr (fun q => h5 q.symm)), if_neg h5]
  rw [pk_6]
  show (if (lg_cmp x (wdA 6) : Int32) ≠ 0 then _ else some (7, S)) = _
  by_cases h6 : wdA 6 = x
  · rw [if_neg (fun q => cm_ne.mp q h6.symm), if_pos h6]; rfl
  rw [if_pos (cm_ne.mpr (fun q => h6 q.symm)), if_neg h6]
  rw [pk_7]
  show (if (lg_cmp x (wdA 7) : Int32) ≠ 0 then _ else some (8, S)) = _
  by_cases h7 : wdA 7 = x
  · rw [if_neg (fun q => cm_ne.mp q h7.symm), if_pos h7]; rfl
  rw [if_pos (cm_ne.mpr (fun q => h7 q.symm)), if_neg h7]
  rw [pk_8]
  show (if (lg_cmp x (wdA 8) : Int32) ≠ 0 then _ else some (9, S)) = _
  by_cases h8 : wdA 8 = x
  · rw [if_neg (fun q => cm_ne.mp q h8.symm), if_pos h8]; rfl
  rw [if_pos (cm_ne.mpr (fun q => h8 q.symm)), if_neg h8]
  rw [pk_9]
  show (if (lg_cmp x (wdA 9) : Int32) ≠ 0 then _ else some (10, S)) = _
  by_cases h9 : wdA 9 = x
  · rw [if_neg (fun q => cm_ne.mp q h9.symm), if_pos h9]; rfl
  rw [if_pos (cm_ne.mpr (fun q => h9 q.symm)), if_neg h9]
  rw [pk_10]
  show (if (lg_cmp x (wdA 10) : Int32) ≠ 0 then _ else some (11, S)) = _
  by_cases h10 : wdA 10 = x
  · rw [if_neg (fun q => cm_ne.mp q h10.symm), if_pos h10]; rfl
  rw [if_pos (cm_ne.mpr (fun q => h10 q.symm)), if_neg h10]
  rw [pk_11]
  show (if (lg_cmp x (wdA 11) : Int32) ≠ 0 then _ else some (12, S)) = _
  by_cases h11 : wdA 11 = x
  · rw [if_neg (fun q => cm_ne.mp q h11.symm), if_pos h11]; rfl
  rw [if_pos (cm_ne.mpr (fun q => h11 q.symm)), if_neg h11]
  rw [pk_12]
  show (if (lg_cmp x (wdA 12) : Int32) ≠ 0 then some (0, S) else some (13, S)) = _
  by_cases h12 : wdA 12 = x
  · rw [if_neg (fun q => cm_ne.mp q h12.symm), if_pos h12]; rfl
  rw [if_pos (cm_ne.mpr (fun q => h12 q.symm)), if_neg h12]
  rfl
