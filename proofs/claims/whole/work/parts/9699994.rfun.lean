/-! the reference looks: its functions, the parts of a loop -/
def RFt (V : Nat → Int64) (S : im_S) : Nat → List (Nat × Nat) → Prop
  | _, [] => True
  | i, (p, cnt) :: ft => S.2.1 97 i = V p ∧ S.1 99 i = nI cnt ∧ cnt ≤ 4 ∧ (∀ z, z < cnt → S.2.1 100 (4 * i + z) = V (p + 2 + 2 * z)) ∧ RFt V S (i + 1) ft
theorem RFt_cp {V : Nat → Int64} {S S' : im_S} (h1 : ∀ k, S'.1 99 k = S.1 99 k) (h2 : ∀ k, S'.2.1 97 k = S.2.1 97 k ∧ S'.2.1 100 k = S.2.1 100 k) : ∀ (ft : List (Nat × Nat)) (i : Nat), RFt V S i ft → RFt V S' i ft := by
  intro ft
  induction ft with
  | nil => intro i _; trivial
  | cons c ft ih =>
    intro i h
    obtain ⟨p, cnt⟩ := c
    obtain ⟨q1, q2, q3, q4, q5⟩ := h
    exact ⟨by rw [(h2 i).1]; exact q1, by rw [h1 i]; exact q2, q3, fun z hz => by rw [(h2 _).2]; exact q4 z hz, ih (i + 1) q5⟩
theorem rft_look {V : Nat → Int64} {S : im_S} {j : Nat} : ∀ (ft : List (Nat × Nat)) (i : Nat), RFt V S i ft → (idx V (ft.map Prod.fst) j = none → pmF V ft j = none) ∧ ∀ k, idx V (ft.map Prod.fst) j = some k → ∃ p cnt : Nat, pmF V ft j = some (pms (p + 2) cnt) ∧ S.1 99 (i + k) = nI cnt ∧ cnt ≤ 4 ∧ ∀ z, z < cnt → S.2.1 100 (4 * (i + k) + z) = V (p + 2 + 2 * z) := by
  intro ft
  induction ft with
  | nil => intro i _; exact ⟨fun _ => rfl, fun k h => by cases h⟩
  | cons c ft ih =>
    intro i h
    obtain ⟨p, cnt⟩ := c
    obtain ⟨q1, q2, q3, q4, q5⟩ := h
    obtain ⟨i1, i2⟩ := ih (i + 1) q5
    by_cases hv : V p = V j
    · have e1 : idx V (((p, cnt) :: ft).map Prod.fst) j = some 0 := by
        show (if V p = V j then some 0 else _) = _
        rw [if_pos hv]
      have e2 : pmF V ((p, cnt) :: ft) j = some (pms (p + 2) cnt) := by
        show (if V p = V j then _ else _) = _
        rw [if_pos hv]
      rw [e1, e2]
      refine ⟨(fun h => by cases h), fun k hk => ?_⟩
      cases hk
      exact ⟨p, cnt, rfl, q2, q3, q4⟩
    · have e1 : idx V (((p, cnt) :: ft).map Prod.fst) j = (idx V (ft.map Prod.fst) j).map (· + 1) := by
        show (if V p = V j then some 0 else (idx V (ft.map Prod.fst) j).map (· + 1)) = _
        rw [if_neg hv]
      have e2 : pmF V ((p, cnt) :: ft) j = pmF V ft j := by
        show (if V p = V j then _ else _) = _
        rw [if_neg hv]
      rw [e1, e2]
      rcases hi : idx V (ft.map Prod.fst) j with _ | k0
      · exact ⟨fun _ => i1 hi, fun k h => by cases h⟩
      · refine ⟨(fun h => by cases h), fun k hk => ?_⟩
        have hk : some (k0 + 1) = some k := hk
        cases hk
        obtain ⟨p', cnt', j1, j2, j3, j4⟩ := i2 k0 hi
        refine ⟨p', cnt', j1, ?_, j3, ?_⟩
        · rw [show i + (k0 + 1) = i + 1 + k0 by omega]; exact j2
        · rw [show i + (k0 + 1) = i + 1 + k0 by omega]; exact j4
section RFU
variable {V : Nat → Int64} {fu : Nat} {S : im_S}
theorem r_fofL {fr c : Nat} (h37 : 8 * (1 - S.1 75 37) = nI fr) (h36 : S.1 75 36 = nI c) (hfc : fr + c ≤ 16) (j : Nat) : ∀ (ft : List (Nat × Nat)) (nf i : Nat), RFt V S (fr + i) ft → i + ft.length = c → ft.length < nf → f_X11_functionOf_L10 fu nf (V j) (nI (fr + i)) S = some (match idx V (ft.map Prod.fst) j with | some k => nI (fr + i + k) | none => -1, S) := by
  intro ft
  induction ft with
  | nil =>
    intro nf i _ h1 h2
    have h1 : i = c := h1
    obtain ⟨nf, rfl⟩ : ∃ z, nf = z + 1 := ⟨nf - 1, by omega⟩
    rw [f_X11_functionOf_L10, h37, h36, show nI fr + nI c = nI (fr + c) from nI_add fr c, if_pos ((mI_le (a := fr + c) (b := fr + i) (by omega) (by omega)).mpr (by omega))]
    rfl
  | cons d ft ih =>
    intro nf i hR h1 h2
    obtain ⟨p, cnt⟩ := d
    have hl : ((p, cnt) :: ft).length = ft.length + 1 := rfl
    obtain ⟨q1, -, -, -, q5⟩ := hR
    obtain ⟨nf, rfl⟩ : ∃ z, nf = z + 1 := ⟨nf - 1, by omega⟩
    rw [f_X11_functionOf_L10, h37, h36, show nI fr + nI c = nI (fr + c) from nI_add fr c, if_neg (fun z => by have := (mI_le (a := fr + c) (b := fr + i) (by omega) (by omega)).mp z; omega), mI_in (a := fr + i) (n := 16) (by omega) (by omega), nI_clamp (show fr + i < 2 ^ 31 by omega), q1, show nI (fr + i) + 1 = nI (fr + i + 1) from nI_add (fr + i) 1]
    simp only [gd_t]
    by_cases hv : V p = V j
    · have e : idx V (((p, cnt) :: ft).map Prod.fst) j = some 0 := by
        show (if V p = V j then some 0 else _) = _
        rw [if_pos hv]
      rw [if_neg (fun z => z ((lg_cmp_eq _ _).mpr hv)), e]
      rfl
    · have e : idx V (((p, cnt) :: ft).map Prod.fst) j = (idx V (ft.map Prod.fst) j).map (· + 1) := by
        show (if V p = V j then some 0 else (idx V (ft.map Prod.fst) j).map (· + 1)) = _
        rw [if_neg hv]
      have hi := ih nf (i + 1) q5 (by omega) (by omega)
      rw [if_pos (fun z => hv ((lg_cmp_eq _ _).mp z)), e]
      rw [show fr + i + 1 = fr + (i + 1) by omega, hi]
      cases idx V (ft.map Prod.fst) j with
      | none => rfl
      | some k =>
        show some (nI (fr + (i + 1) + k), S) = some (nI (fr + i + (k + 1)), S)
        rw [show fr + (i + 1) + k = fr + i + (k + 1) by omega]
theorem r_fof (hfu : 600 ≤ fu) {fr c : Nat} {ft : List (Nat × Nat)} (h37 : 8 * (1 - S.1 75 37) = nI fr) (h36 : S.1 75 36 = nI c) (hfc : fr + c ≤ 16) (hR : RFt V S fr ft) (hc : ft.length = c) (j : Nat) : f_X11_functionOf fu (V j) S = some (match idx V (ft.map Prod.fst) j with | some k => nI (fr + k) | none => -1, S) := by
  unfold f_X11_functionOf
  rw [h37]
  have := r_fofL (fu := fu) h37 h36 hfc j ft fu 0 hR (by omega) (by omega)
  exact this
/-- the names of a loop's rows -/
def RwN (V : Nat → Int64) (S : im_S) : Nat → List Nat → Prop
  | _, [] => True
  | i, b :: l => S.2.1 93 i = V b ∧ RwN V S (i + 1) l
theorem r_partL {k i0 n : Nat} (hk : k < 1200) (h90 : S.1 90 k = nI n) (h89 : S.1 89 k = nI i0) (hn : i0 + n ≤ 1200) (j : Nat) : ∀ (l : List Nat) (nf i : Nat), RwN V S (i0 + i) l → i + l.length = n → l.length < nf → f_X11_partOf_L3 fu nf (nI k) (V j) (nI i) S = some (match idx V l j with | some z => nI (i + z) | none => -1, S) := by
  intro l
  induction l with
  | nil =>
    intro nf i _ h1 h2
    have h1 : i = n := h1
    obtain ⟨nf, rfl⟩ : ∃ z, nf = z + 1 := ⟨nf - 1, by omega⟩
    rw [f_X11_partOf_L3, mI_in (a := k) (n := 1200) (by omega) hk, nI_clamp (show k < 2 ^ 31 by omega), h90, if_pos ((mI_le (a := n) (b := i) (by omega) (by omega)).mpr (by omega))]
    rfl
  | cons b l ih =>
    intro nf i hR h1 h2
    have hl : (b :: l).length = l.length + 1 := rfl
    obtain ⟨q1, q2⟩ := hR
    obtain ⟨nf, rfl⟩ : ∃ z, nf = z + 1 := ⟨nf - 1, by omega⟩
    rw [f_X11_partOf_L3, mI_in (a := k) (n := 1200) (by omega) hk, nI_clamp (show k < 2 ^ 31 by omega), h90, if_neg (fun z => by have := (mI_le (a := n) (b := i) (by omega) (by omega)).mp z; omega), h89, show nI i0 + nI i = nI (i0 + i) from nI_add i0 i, mI_in (a := i0 + i) (n := 1200) (by omega) (by omega), nI_clamp (show i0 + i < 2 ^ 31 by omega), q1, show nI i + 1 = nI (i + 1) from nI_add i 1]
    simp only [gd_t]
    by_cases hv : V b = V j
    · have e : idx V (b :: l) j = some 0 := by
        show (if V b = V j then some 0 else _) = _
        rw [if_pos hv]
      rw [if_neg (fun z => z ((lg_cmp_eq _ _).mpr hv)), e]
      rfl
    · have e : idx V (b :: l) j = (idx V l j).map (· + 1) := by
        show (if V b = V j then some 0 else (idx V l j).map (· + 1)) = _
        rw [if_neg hv]
      rw [if_pos (fun z => hv ((lg_cmp_eq _ _).mp z)), e, ih nf (i + 1) q2 (by omega) (by omega)]
      cases idx V l j with
      | none => rfl
      | some z =>
        show some (nI (i + 1 + z), S) = some (nI (i + (z + 1)), S)
        rw [show i + 1 + z = i + (z + 1) by omega]
end RFU
