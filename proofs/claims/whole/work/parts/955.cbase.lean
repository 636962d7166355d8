/-! the class's parser: what it keeps while it reads -/
/-- the tokens of a text -/
def TH (K pl : Nat → Nat) (V : Nat → Int64) (m : Nat) : Prop := m ≤ 500 ∧ (∀ j, j ≤ m → pl j ≤ 500 ∧ TkN (K j) = true) ∧ (∀ j, j < m → pl j + wl (K j) ≤ pl (j + 1) ∧ K j ≠ 0 ∧ K j ≠ 3 ∧ (K j = 1 → Nam (V j))) ∧ (K m = 0 ∨ K m = 3)
def Ct (K pl : Nat → Nat) (V : Nat → Int64) (m : Nat) (S : im_S) : Prop := ∀ j, j ≤ m → S.1 31 j = nI (K j) ∧ S.1 32 j = nI (pl j) ∧ ((K j = 1 ∨ K j = 2) → S.2.1 33 j = V j)
/-- the binder of a name, the latest first -/
def fnd (V : Nat → Int64) : List Nat → Nat → Option Nat
  | [], _ => none
  | b :: γ, j => if V b = V j then some b else fnd V γ j
/-- the known variables -/
def KN (V : Nat → Int64) (S : im_S) (N : Nat → Nat) : List Nat → Prop
  | [] => True
  | b :: γ => S.1 4 γ.length = nI (N b) ∧ S.2.1 21 (N b) = V b ∧ N b < 512 ∧ KN V S N γ
def Pz (K pl : Nat → Nat) (V : Nat → Int64) (m : Nat) (S : im_S) (N : Nat → Nat) (pos dep sz : Nat) (γ : List Nat) (n ρ τ : Nat) : Prop :=
  Ct K pl V m S ∧ pos ≤ m ∧ S.1 3 6 = nI pos ∧ S.1 3 9 = nI dep ∧ S.1 34 3 = nI sz ∧ S.1 3 5 = nI γ.length ∧ KN V S N γ ∧ S.1 6 16 = nI n ∧ S.1 22 6 = nI ρ ∧ S.1 22 9 = nI τ ∧ n ≤ pos ∧ sz ≤ pos ∧ γ.length ≤ pos ∧ τ ≤ pos ∧ ρ ≤ pl pos
/-- the fault so far, as a number: 4 times the place and the kind; 4000 is none -/
def FSg (a b : Int32) (f : Nat) : Prop := (f = 4000 ∧ a = 0 ∧ b = 0) ∨ ∃ k p : Nat, 1 ≤ k ∧ k ≤ 3 ∧ p ≤ 500 ∧ a = nI k ∧ b = nI p ∧ f = 4 * p + k
theorem uI_ne {S : im_S} {i j a k : Nat} {v : Int32} (h : a ≠ i ∨ k ≠ j) : (uI S i j v).1 a k = S.1 a k := by
  rw [uI_at]
  by_cases e : a = i
  · rw [if_pos e, if_neg (by omega)]
  · rw [if_neg e]
theorem uI_eq {S : im_S} {i j : Nat} {v : Int32} : (uI S i j v).1 i j = v := by
  rw [uI_at, if_pos rfl, if_pos rfl]
theorem uJ_ne {S : im_S} {i j a k : Nat} {v : Int64} (h : a ≠ i ∨ k ≠ j) : (uJ S i j v).2.1 a k = S.2.1 a k := by
  rw [uJ_at]
  by_cases e : a = i
  · rw [if_pos e, if_neg (by omega)]
  · rw [if_neg e]
theorem uJ_eq {S : im_S} {i j : Nat} {v : Int64} : (uJ S i j v).2.1 i j = v := by
  rw [uJ_at, if_pos rfl, if_pos rfl]
/-- a fault is noted -/
def ntS (S : im_S) (x1 x2 : Int32) : im_S := if (S.1 5 0 : Int32) = 0 then uI (uI S 5 0 x1) 5 1 x2 else if (S.1 5 1 : Int32) ≤ x2 then (if (x2 : Int32) ≠ S.1 5 1 then S else if (S.1 5 0 : Int32) ≤ x1 then S else uI (uI S 5 0 x1) 5 1 x2) else uI (uI S 5 0 x1) 5 1 x2
theorem c_note (x1 x2 : Int32) (S : im_S) : f_X1_note x1 x2 S = some ((), ntS S x1 x2) := by
  unfold f_X1_note ntS
  by_cases h1 : (S.1 5 0 : Int32) = 0
  · rw [if_pos h1, if_pos h1]
  rw [if_neg h1, if_neg h1]
  by_cases h2 : (S.1 5 1 : Int32) ≤ x2
  · rw [if_pos h2, if_pos h2]
    by_cases h3 : (x2 : Int32) ≠ S.1 5 1
    · rw [if_pos h3, if_pos h3]
    · rw [if_neg h3, if_neg h3]
      by_cases h4 : (S.1 5 0 : Int32) ≤ x1
      · rw [if_pos h4, if_pos h4]
      · rw [if_neg h4, if_neg h4]
  · rw [if_neg h2, if_neg h2]
theorem nt_ne (S : im_S) (x1 x2 : Int32) {a k : Nat} (h : a ≠ 5) : (ntS S x1 x2).1 a k = S.1 a k := by
  unfold ntS
  repeat' split
  all_goals first | rfl | rw [uI_ne (by omega), uI_ne (by omega)]
theorem nt_21 (S : im_S) (x1 x2 : Int32) : (ntS S x1 x2).2.1 = S.2.1 := by
  unfold ntS
  repeat' split
  all_goals rfl
theorem nt_fs {S : im_S} {f k p : Nat} (h : FSg (S.1 5 0) (S.1 5 1) f) (hk1 : 1 ≤ k) (hk : k ≤ 3) (hp : p ≤ 500) : FSg ((ntS S (nI k) (nI p)).1 5 0) ((ntS S (nI k) (nI p)).1 5 1) (min f (4 * p + k)) := by
  have e0 : (uI (uI S 5 0 (nI k)) 5 1 (nI p)).1 5 0 = nI k := by rw [uI_ne (by omega), uI_eq]
  have e1 : (uI (uI S 5 0 (nI k)) 5 1 (nI p)).1 5 1 = nI p := uI_eq
  rcases h with ⟨rfl, h1, h2⟩ | ⟨k0, p0, a1, a2, a3, a4, a5, rfl⟩
  · unfold ntS
    rw [if_pos h1, e0, e1]
    exact Or.inr ⟨k, p, hk1, hk, hp, rfl, rfl, by omega⟩
  · have c0 : ¬ nI k0 = 0 := fun z => by have := (nI_eq (a := k0) (b := 0) (by omega) (by omega)).mp z; omega
    have c1 : nI p0 ≤ nI p ↔ p0 ≤ p := mI_le (by omega) (by omega)
    have c2 : nI p = nI p0 ↔ p = p0 := nI_eq (by omega) (by omega)
    have c3 : nI k0 ≤ nI k ↔ k0 ≤ k := mI_le (by omega) (by omega)
    unfold ntS
    rw [a4, a5, if_neg c0]
    by_cases q1 : p0 ≤ p
    · rw [if_pos (c1.mpr q1)]
      by_cases q2 : p = p0
      · rw [if_neg (fun z => z (c2.mpr q2))]
        by_cases q3 : k0 ≤ k
        · rw [if_pos (c3.mpr q3), a4, a5]
          exact Or.inr ⟨k0, p0, a1, a2, a3, rfl, rfl, by omega⟩
        · rw [if_neg (fun z => q3 (c3.mp z)), e0, e1]
          exact Or.inr ⟨k, p, hk1, hk, hp, rfl, rfl, by omega⟩
      · rw [if_pos (fun z => q2 (c2.mp z)), a4, a5]
        exact Or.inr ⟨k0, p0, a1, a2, a3, rfl, rfl, by omega⟩
    · rw [if_neg (fun z => q1 (c1.mp z)), e0, e1]
      exact Or.inr ⟨k, p, hk1, hk, hp, rfl, rfl, by omega⟩
section CB
variable {K pl : Nat → Nat} {V : Nat → Int64} {m : Nat} {S : im_S} {N : Nat → Nat} {pos dep sz n ρ τ : Nat} {γ : List Nat}
theorem TH.m_ (T : TH K pl V m) : m ≤ 500 := T.1
theorem TH.pl_ (T : TH K pl V m) {j : Nat} (h : j ≤ m) : pl j ≤ 500 := (T.2.1 j h).1
theorem TH.end_ (T : TH K pl V m) : K m = 0 ∨ K m = 3 := T.2.2.2
theorem TH.st_ (T : TH K pl V m) {j : Nat} (h : j < m) : pl j + wl (K j) ≤ pl (j + 1) := (T.2.2.1 j h).1
theorem wl_ge (n : Nat) : 1 ≤ wl n := by unfold wl; repeat' split
                                         all_goals omega
theorem TH.lt_ (T : TH K pl V m) {j : Nat} (h : j < m) : pl j + 1 ≤ pl (j + 1) := by
  have := T.st_ h
  have := wl_ge (K j)
  omega
theorem Pz.ct (P : Pz K pl V m S N pos dep sz γ n ρ τ) : Ct K pl V m S := P.1
theorem Pz.pm (P : Pz K pl V m S N pos dep sz γ n ρ τ) : pos ≤ m := P.2.1
theorem Pz.at_ (P : Pz K pl V m S N pos dep sz γ n ρ τ) : S.1 3 6 = nI pos := P.2.2.1
theorem Pz.dp (P : Pz K pl V m S N pos dep sz γ n ρ τ) : S.1 3 9 = nI dep := P.2.2.2.1
theorem Pz.sz_ (P : Pz K pl V m S N pos dep sz γ n ρ τ) : S.1 34 3 = nI sz := P.2.2.2.2.1
theorem Pz.kn (P : Pz K pl V m S N pos dep sz γ n ρ τ) : S.1 3 5 = nI γ.length := P.2.2.2.2.2.1
theorem Pz.KN_ (P : Pz K pl V m S N pos dep sz γ n ρ τ) : KN V S N γ := P.2.2.2.2.2.2.1
theorem Pz.nn (P : Pz K pl V m S N pos dep sz γ n ρ τ) : S.1 6 16 = nI n := P.2.2.2.2.2.2.2.1
theorem Pz.rr (P : Pz K pl V m S N pos dep sz γ n ρ τ) : S.1 22 6 = nI ρ := P.2.2.2.2.2.2.2.2.1
theorem Pz.tt (P : Pz K pl V m S N pos dep sz γ n ρ τ) : S.1 22 9 = nI τ := P.2.2.2.2.2.2.2.2.2.1
theorem Pz.bd (P : Pz K pl V m S N pos dep sz γ n ρ τ) : n ≤ pos ∧ sz ≤ pos ∧ γ.length ≤ pos ∧ τ ≤ pos ∧ ρ ≤ pl pos := P.2.2.2.2.2.2.2.2.2.2
theorem KN_cp {S1 : im_S} {N1 : Nat → Nat} : ∀ (γ : List Nat), (∀ i, i < γ.length → S1.1 4 i = S.1 4 i) → (∀ b, b ∈ γ → N1 b = N b ∧ S1.2.1 21 (N b) = S.2.1 21 (N b)) → KN V S N γ → KN V S1 N1 γ := by
  intro γ
  induction γ with
  | nil => intro _ _ _; trivial
  | cons b γ ih =>
    intro h1 h2 h
    obtain ⟨a1, a2, a3, a4⟩ := h
    obtain ⟨b1, b2⟩ := h2 b (List.mem_cons_self ..)
    refine ⟨by rw [h1 _ (by show γ.length < γ.length + 1; omega), b1]; exact a1, by rw [b1, b2]; exact a2, by rw [b1]; exact a3, ih (fun i hi => h1 i (by show i < γ.length + 1; omega)) (fun c hc => h2 c (List.mem_cons_of_mem _ hc)) a4⟩
theorem c_kind (T : TH K pl V m) (P : Pz K pl V m S N pos dep sz γ n ρ τ) : f_X7_kindHere S = some (nI (K pos), S) := by
  have := T.m_
  have hp := P.pm
  unfold f_X7_kindHere
  rw [P.at_, mI_in (a := pos) (n := 501) (by omega) (by omega), nI_clamp (by omega), (P.ct pos hp).1]
  rfl
theorem c_place (T : TH K pl V m) (P : Pz K pl V m S N pos dep sz γ n ρ τ) : f_X7_placeHere S = some (nI (pl pos), S) := by
  have := T.m_
  have hp := P.pm
  unfold f_X7_placeHere
  rw [P.at_, mI_in (a := pos) (n := 501) (by omega) (by omega), nI_clamp (by omega), (P.ct pos hp).2.1]
  rfl
/-- what refuse leaves -/
def rcS (S : im_S) (p : Nat) : im_S := uI (uI S 5 0 1) 5 1 (nI p)
theorem c_refuse (T : TH K pl V m) (P : Pz K pl V m S N pos dep sz γ n ρ τ) : f_X7_refuse S = some (0, rcS S (pl pos)) := by
  have := T.m_
  have hp := P.pm
  unfold f_X7_refuse
  rw [P.at_, mI_in (a := pos) (n := 501) (by omega) (by omega), nI_clamp (by omega), (P.ct pos hp).2.1]
  rfl
/-- the position -/
def ad6 (S : im_S) (p : Nat) : im_S := uI S 3 6 (nI p)
theorem c_take (T : TH K pl V m) (P : Pz K pl V m S N pos dep sz γ n ρ τ) (c : Nat) (hc : c < 2 ^ 31) : f_X7_take (nI c) S = if K pos = c then some (1, ad6 S (pos + 1)) else some (0, rcS S (pl pos)) := by
  unfold f_X7_take
  rw [c_kind T P]
  have hk : K pos < 2 ^ 31 := by have := (tkK_c _ (T.2.1 pos P.pm).2).2.2.2.2.2; omega
  simp only [Option.bind_some]
  by_cases h : K pos = c
  · rw [if_pos h, if_pos (by rw [h]), P.at_, show nI pos + 1 = nI (pos + 1) from nI_add pos 1]
    rfl
  · rw [if_neg h, if_neg (fun z => h ((nI_eq hk hc).mp z)), c_refuse T P]
    rfl
/-- what Pz reads is as before -/
theorem Pz_cp (P : Pz K pl V m S N pos dep sz γ n ρ τ) {S1 : im_S} {N1 : Nat → Nat} {pos1 dep1 sz1 n1 ρ1 τ1 : Nat} (hct : ∀ a j : Nat, (a = 31 ∨ a = 32) → S1.1 a j = S.1 a j) (hct2 : ∀ j : Nat, S1.2.1 33 j = S.2.1 33 j) (hp : pos1 ≤ m) (h6 : S1.1 3 6 = nI pos1) (h9 : S1.1 3 9 = nI dep1) (h34 : S1.1 34 3 = nI sz1) (h5 : S1.1 3 5 = S.1 3 5) (h4 : ∀ i, i < γ.length → S1.1 4 i = S.1 4 i) (hN : ∀ b, b ∈ γ → N1 b = N b ∧ S1.2.1 21 (N b) = S.2.1 21 (N b)) (hn : S1.1 6 16 = nI n1) (hr : S1.1 22 6 = nI ρ1) (ht : S1.1 22 9 = nI τ1) (hb : n1 ≤ pos1 ∧ sz1 ≤ pos1 ∧ γ.length ≤ pos1 ∧ τ1 ≤ pos1 ∧ ρ1 ≤ pl pos1) : Pz K pl V m S1 N1 pos1 dep1 sz1 γ n1 ρ1 τ1 := by
  refine ⟨fun j hj => ?_, hp, h6, h9, h34, by rw [h5]; exact P.kn, KN_cp γ h4 hN P.KN_, hn, hr, ht, hb⟩
  obtain ⟨a1, a2, a3⟩ := P.ct j hj
  exact ⟨by rw [hct 31 j (Or.inl rfl)]; exact a1, by rw [hct 32 j (Or.inr rfl)]; exact a2, fun q => by rw [hct2 j]; exact a3 q⟩
/-- a step of the position -/
theorem Pz_ad (T : TH K pl V m) (P : Pz K pl V m S N pos dep sz γ n ρ τ) (hp : pos < m) : Pz K pl V m (ad6 S (pos + 1)) N (pos + 1) dep sz γ n ρ τ := by
  have b := P.bd
  have := T.lt_ hp
  unfold ad6
  exact Pz_cp P (fun a j q => uI_ne (by omega)) (fun j => rfl) (by omega) uI_eq (by rw [uI_ne (by omega)]; exact P.dp) (by rw [uI_ne (by omega)]; exact P.sz_) (uI_ne (by omega)) (fun i _ => uI_ne (by omega)) (fun b _ => ⟨rfl, rfl⟩) (by rw [uI_ne (by omega)]; exact P.nn) (by rw [uI_ne (by omega)]; exact P.rr) (by rw [uI_ne (by omega)]; exact P.tt) (by omega)
theorem c_findL (P : Pz K pl V m S N pos dep sz γ n ρ τ) (hm : m ≤ 500) (fu j : Nat) : ∀ (δ : List Nat) (nf : Nat), δ.length < nf → δ.length ≤ 512 → KN V S N δ → f_X7_findKnown_L7 fu nf (V j) (nI δ.length - 1) S = some (match fnd V δ j with | some b => nI (N b) | none => -1, S) := by
  intro δ
  induction δ with
  | nil =>
    intro nf h _ _
    obtain ⟨nf, rfl⟩ : ∃ z, nf = z + 1 := ⟨nf - 1, by omega⟩
    rw [f_X7_findKnown_L7, if_pos (by decide)]
    rfl
  | cons b δ ih =>
    intro nf h h2 hk
    have h : δ.length + 1 < nf := h
    have h2 : δ.length + 1 ≤ 512 := h2
    obtain ⟨k1, k2, k3, k4⟩ := hk
    obtain ⟨nf, rfl⟩ : ∃ z, nf = z + 1 := ⟨nf - 1, by omega⟩
    have e1 : nI (b :: δ).length - 1 = nI δ.length := by
      show nI (δ.length + 1) - nI 1 = _
      rw [nI_sub (by omega), Nat.add_sub_cancel]
    have c0 : ¬ nI δ.length < 0 := fun z => by have := (mI_lt (a := δ.length) (b := 0) (by omega) (by omega)).mp z; omega
    rw [f_X7_findKnown_L7, e1, if_neg c0, mI_in (a := δ.length) (n := 512) (by omega) (by omega), nI_clamp (show δ.length < 2 ^ 31 by omega), k1, mI_in (a := N b) (n := 512) (by omega) (by omega), nI_clamp (show N b < 2 ^ 31 by omega), k2]
    simp only [gd_t]
    unfold fnd
    by_cases hv : V b = V j
    · rw [if_neg (fun z => z ((lg_cmp_eq _ _).mpr hv)), if_pos hv]
    · rw [if_pos (fun z => hv ((lg_cmp_eq _ _).mp z)), if_neg hv, show nI δ.length + (-1) = nI δ.length - 1 from (Int32.sub_eq_add_neg (nI δ.length) 1).symm]
      exact ih nf (by omega) (by omega) k4
theorem c_find (T : TH K pl V m) (P : Pz K pl V m S N pos dep sz γ n ρ τ) {fu : Nat} (hfu : 600 ≤ fu) (j : Nat) : f_X7_findKnown fu (V j) S = some (match fnd V γ j with | some b => nI (N b) | none => -1, S) := by
  have := T.m_
  have := P.bd
  have := P.pm
  unfold f_X7_findKnown
  rw [P.kn]
  exact c_findL P T.m_ fu j γ fu (by omega) (by omega) P.KN_
end CB
