/-! the class's parser: its loops, told by what is done behind -/
def flZ (fu nf : Nat) (z1 z2 z4 : Int32) (S : im_S) : Option (Int32 × im_S) := (f_X7_endOperators fu 0 S).bind (fun qS9 => (f_X6_topEndsByItself qS9.2).bind (fun qS12 => if (qS12.1 : Int32) ≠ 0 then ((f_X6_topKind qS12.2).bind (fun qS16 => if (qS16.1 : Int32) ≠ 24 then ((f_X7_endByItself fu qS16.2).bind (fun qS20 => f_X7_follow_L32 fu nf z1 z2 0 (z4 + (-1)) qS20.2)) else ((f_X7_endByItself fu qS16.2).bind (fun qS23 => f_X7_follow_L32 fu nf z1 z2 1 (z4 + (-1)) qS23.2)))) else ((f_X7_close fu z1 qS12.2).bind (fun qS26 => gd (z_b qS26.1) (some (qS26.1, qS26.2))))))
theorem fo_L32 (fu nf : Nat) (z1 z2 z3 z4 : Int32) (S : im_S) : f_X7_follow_L32 fu (nf + 1) z1 z2 z3 z4 S = if (z4 : Int32) ≤ 0 then ((f_X7_refuse S).bind (fun qS2 => gd (z_b qS2.1) (some (qS2.1, qS2.2)))) else ((f_X7_endOperators fu z2 S).bind (fun qS5 => if (z3 : Int32) = 0 then flZ fu nf z1 z2 z4 qS5.2 else ((f_X6_topStrength qS5.2).bind (fun qS29 => if (z2 : Int32) ≤ qS29.1 then flZ fu nf z1 z2 z4 qS29.2 else ((f_X7_openBinary z1 z2 qS29.2).bind (fun qS53 => gd (z_b qS53.1) (some (qS53.1, qS53.2)))))))) := rfl
theorem str_v {c : Nat} (hc : c < 127) (S : im_S) : f_X6_strengthOf (nI c) S = some (nI (stg c), S) := by
  have hA : ∀ k, k < 127 → (if nI k = (37 : Int32) then (5 : Int32) else (if nI k = (38 : Int32) then 2 else (if nI k = (42 : Int32) then 5 else (if nI k = (43 : Int32) then 4 else (if nI k = (45 : Int32) then 4 else (if nI k = (47 : Int32) then 5 else (if nI k = (60 : Int32) then 3 else (if nI k = (61 : Int32) then 3 else (if nI k = (124 : Int32) then 1 else 0))))))))) = nI (stg k) := by decide +kernel
  rw [← hA c hc]
  unfold f_X6_strengthOf
  by_cases q0 : nI c = (37 : Int32)
  · simp only [if_pos q0]
  by_cases q1 : nI c = (38 : Int32)
  · simp only [if_neg q0, if_pos q1]
  by_cases q2 : nI c = (42 : Int32)
  · simp only [if_neg q0, if_neg q1, if_pos q2]
  by_cases q3 : nI c = (43 : Int32)
  · simp only [if_neg q0, if_neg q1, if_neg q2, if_pos q3]
  by_cases q4 : nI c = (45 : Int32)
  · simp only [if_neg q0, if_neg q1, if_neg q2, if_neg q3, if_pos q4]
  by_cases q5 : nI c = (47 : Int32)
  · simp only [if_neg q0, if_neg q1, if_neg q2, if_neg q3, if_neg q4, if_pos q5]
  by_cases q6 : nI c = (60 : Int32)
  · simp only [if_neg q0, if_neg q1, if_neg q2, if_neg q3, if_neg q4, if_neg q5, if_pos q6]
  by_cases q7 : nI c = (61 : Int32)
  · simp only [if_neg q0, if_neg q1, if_neg q2, if_neg q3, if_neg q4, if_neg q5, if_neg q6, if_pos q7]
  by_cases q8 : nI c = (124 : Int32)
  · simp only [if_neg q0, if_neg q1, if_neg q2, if_neg q3, if_neg q4, if_neg q5, if_neg q6, if_neg q7, if_pos q8]
  simp only [if_neg q0, if_neg q1, if_neg q2, if_neg q3, if_neg q4, if_neg q5, if_neg q6, if_neg q7, if_neg q8]
/-- endOperators: where it stops, where it pops -/
theorem eo_stop {fu nf s c sz k : Nat} {S : im_S} (h : S.1 34 3 = nI (sz + 1)) (hs : sz < 512) (hk : S.1 35 sz = nI k) (hk2 : k < 100) (hsl : s ≤ 6) (hst : 6 < k ∨ k = 0 ∨ k < s ∨ (k = s ∧ s = 3)) : f_X7_endOperators_L8 fu (nf + 1) (nI s) (nI c) S = some ((), S) := by
  rw [f_X7_endOperators_L8]
  by_cases c0 : nI c ≤ 0
  · rw [if_pos c0]
  rw [if_neg c0, c_topS h hs hk hk2]
  simp only [Option.bind_some]
  by_cases h6 : 6 < k ∨ k = 0
  · have e0 : (if 6 < k then 0 else k) = 0 := by
      by_cases z : 6 < k
      · rw [if_pos z]
      · rw [if_neg z]; omega
    rw [e0]
    have en : nI 0 = (0 : Int32) := rfl
    by_cases hs0 : s = 0
    · subst hs0
      rw [if_neg (fun z => z rfl), if_neg (by decide), if_pos en]
    · rw [if_pos (fun z => hs0 ((nI_eq (a := 0) (b := s) (by omega) (by omega)).mp z).symm), if_pos en]
  · have e0 : (if 6 < k then 0 else k) = k := if_neg (by omega)
    rw [e0]
    have ek0 : ¬ nI k = (0 : Int32) := fun z => by have := (nI_eq (a := k) (b := 0) (by omega) (by omega)).mp z; omega
    have lt : nI s < nI k ↔ s < k := mI_lt (by omega) (by omega)
    by_cases hks : k = s
    · rw [if_neg (fun z => z (by rw [hks])), if_pos (by rw [hks]; rw [show s = 3 by omega]; rfl), if_neg ek0, if_neg (fun z => by have := lt.mp z; omega)]
    · rw [if_pos (fun z => hks ((nI_eq (by omega) (by omega)).mp z)), if_neg ek0, if_neg (fun z => by have := lt.mp z; omega)]
theorem eo_pop {fu nf s c sz k : Nat} {S : im_S} (h : S.1 34 3 = nI (sz + 1)) (hs : sz < 512) (hk : S.1 35 sz = nI k) (hk1 : 1 ≤ k) (hk6 : k ≤ 6) (hsl : s ≤ 6) (hst : s < k ∨ (k = s ∧ s ≠ 3)) (hc : 1 ≤ c) (hc2 : c ≤ 600) : f_X7_endOperators_L8 fu (nf + 1) (nI s) (nI c) S = (f_X7_endOperator (nI k) S).bind (fun q => f_X7_endOperators_L8 fu nf (nI s) (nI (c - 1)) q.2) := by
  rw [f_X7_endOperators_L8]
  have c0 : ¬ nI c ≤ 0 := fun z => by have := (mI_le (a := c) (b := 0) (by omega) (by omega)).mp z; omega
  have ec : nI c + (-1) = nI (c - 1) := by
    rw [show nI c + (-1) = nI c - 1 from (Int32.sub_eq_add_neg (nI c) 1).symm, show (1 : Int32) = nI 1 from rfl, nI_sub hc]
  rw [if_neg c0, c_topS h hs hk (by omega), if_neg (by omega), ec]
  simp only [Option.bind_some]
  have ek0 : ¬ nI k = (0 : Int32) := fun z => by have := (nI_eq (a := k) (b := 0) (by omega) (by omega)).mp z; omega
  have lt : nI s < nI k ↔ s < k := mI_lt (by omega) (by omega)
  have k3 : nI k = (3 : Int32) ↔ k = 3 := nI_eq (a := k) (b := 3) (by omega) (by omega)
  by_cases hks : k = s
  · rw [if_neg (fun z => z (by rw [hks])), if_neg (fun z => by have := k3.mp z; omega), if_neg ek0, if_neg (fun z => by have := lt.mp z; omega)]
  · rw [if_pos (fun z => hks ((nI_eq (by omega) (by omega)).mp z)), if_neg ek0, if_pos (lt.mpr (by omega))]
theorem eo_fuel (fu : Nat) (z1 : Int32) : ∀ (c nf nf' : Nat) (S : im_S), c ≤ 600 → c < nf → c < nf' → f_X7_endOperators_L8 fu nf z1 (nI c) S = f_X7_endOperators_L8 fu nf' z1 (nI c) S := by
  intro c
  induction c with
  | zero =>
    intro nf nf' S _ h1 h2
    obtain ⟨nf, rfl⟩ : ∃ z, nf = z + 1 := ⟨nf - 1, by omega⟩
    obtain ⟨nf', rfl⟩ : ∃ z, nf' = z + 1 := ⟨nf' - 1, by omega⟩
    rw [f_X7_endOperators_L8, f_X7_endOperators_L8, if_pos (by decide), if_pos (by decide)]
  | succ c ih =>
    intro nf nf' S h0 h1 h2
    obtain ⟨nf, rfl⟩ : ∃ z, nf = z + 1 := ⟨nf - 1, by omega⟩
    obtain ⟨nf', rfl⟩ : ∃ z, nf' = z + 1 := ⟨nf' - 1, by omega⟩
    have ec : nI (c + 1) + (-1) = nI c := by
      rw [show nI (c + 1) + (-1) = nI (c + 1) - 1 from (Int32.sub_eq_add_neg (nI (c + 1)) 1).symm, show (1 : Int32) = nI 1 from rfl, nI_sub (by omega), Nat.add_sub_cancel]
    have e : ∀ S : im_S, f_X7_endOperators_L8 fu nf z1 (nI c) S = f_X7_endOperators_L8 fu nf' z1 (nI c) S := fun S => ih nf nf' S (by omega) (by omega) (by omega)
    rw [f_X7_endOperators_L8, f_X7_endOperators_L8]
    simp only [ec, e]
section CFL
variable {K pl : Nat → Nat} {V : Nat → Int64} {m fu : Nat} {Q : Int32 → im_S → Prop}
/-- the loop from S at pos ends as Q says -/
def Lp (m fu pos : Nat) (S : im_S) (Q : Int32 → im_S → Prop) : Prop := ∀ nf i : Nat, m + 1 < nf + pos → i + (m - pos) ≤ 500 → ∃ (r : Int32) (S1 : im_S), f_X7_expression_L4 fu nf 1 (nI i) S = some (r, S1) ∧ Q r S1
/-- .. from within follow -/
def Fl (K : Nat → Nat) (m fu pos sz : Nat) (b : Bool) (S : im_S) (Q : Int32 → im_S → Prop) : Prop := ∀ nf i nf2 c : Nat, m < nf + pos → i + (m - pos) ≤ 500 → sz ≤ c → 1 ≤ c → c < nf2 → c ≤ 600 → ∃ (r : Int32) (S1 : im_S), ((f_X7_follow_L32 fu nf2 (nI (K pos)) (nI (stg (K pos))) (cond b 1 0) (nI c) S).bind (fun q => f_X7_expression_L4 fu nf q.1 (nI (i + 1)) q.2)) = some (r, S1) ∧ Q r S1
/-- .. once no operator fits -/
def FZ (K : Nat → Nat) (m fu pos sz : Nat) (S : im_S) (Q : Int32 → im_S → Prop) : Prop := ∀ nf i nf2 c : Nat, m < nf + pos → i + (m - pos) ≤ 500 → sz ≤ c → 1 ≤ c → c ≤ nf2 → c ≤ 600 → ∃ (r : Int32) (S1 : im_S), ((flZ fu nf2 (nI (K pos)) (nI (stg (K pos))) (nI c) S).bind (fun q => f_X7_expression_L4 fu nf q.1 (nI (i + 1)) q.2)) = some (r, S1) ∧ Q r S1
/-- what behind a refusal is -/
def Rf (pl : Nat → Nat) (e : Nat) (Q : Int32 → im_S → Prop) : Prop := ∀ S1 : im_S, S1.1 5 0 = 1 → S1.1 5 1 = nI (pl e) → Q 0 S1
theorem Rf_rc {S : im_S} {e : Nat} (h : Rf pl e Q) : Q 0 (rcS S (pl e)) := by
  refine h _ ?_ ?_
  · unfold rcS; rw [uI_ne (by omega), uI_eq]
  · unfold rcS; rw [uI_eq]
theorem ex_0 (fu nf : Nat) (i : Int32) (S : im_S) (h : 1 ≤ nf) : f_X7_expression_L4 fu nf 0 i S = some (0, S) := by
  obtain ⟨nf, rfl⟩ : ∃ z, nf = z + 1 := ⟨nf - 1, by omega⟩
  rw [f_X7_expression_L4]
  by_cases c : (500 : Int32) < i
  · rw [if_pos c]; rfl
  · rw [if_neg c, if_pos rfl]; rfl
/-- one turn of the loop, by what is due -/
def dueF (fu d : Nat) (S : im_S) : Option (Int32 × im_S) := if d = 2 then f_X7_follow fu S else if d = 3 then f_X7_openFirstValue fu S else if d = 4 then f_X7_openNextValue fu S else f_X7_operand fu S
theorem ex_1 {nf i d : Nat} {S : im_S} (hd : S.1 3 7 = nI d) (hd2 : d ≤ 4) (hi : i ≤ 500) : f_X7_expression_L4 fu (nf + 1) 1 (nI i) S = (dueF fu d S).bind (fun q => f_X7_expression_L4 fu nf q.1 (nI (i + 1)) q.2) := by
  have c0 : ¬ (500 : Int32) < nI i := fun z => by have := (mI_lt (a := 500) (b := i) (by omega) (by omega)).mp z; omega
  have e5 : ¬ nI d = (5 : Int32) := fun z => by have := (nI_eq (a := d) (b := 5) (by omega) (by omega)).mp z; omega
  have e2 : nI d = (2 : Int32) ↔ d = 2 := nI_eq (a := d) (b := 2) (by omega) (by omega)
  have e3 : nI d = (3 : Int32) ↔ d = 3 := nI_eq (a := d) (b := 3) (by omega) (by omega)
  have e4 : nI d = (4 : Int32) ↔ d = 4 := nI_eq (a := d) (b := 4) (by omega) (by omega)
  rw [f_X7_expression_L4, if_neg c0, if_neg (by decide), hd, if_neg e5, show nI i + 1 = nI (i + 1) from nI_add i 1]
  unfold dueF
  by_cases h2 : d = 2
  · rw [if_pos (e2.mpr h2), if_pos h2]
  rw [if_neg (fun z => h2 (e2.mp z)), if_neg h2]
  by_cases h3 : d = 3
  · rw [if_pos (e3.mpr h3), if_pos h3]
  rw [if_neg (fun z => h3 (e3.mp z)), if_neg h3]
  by_cases h4 : d = 4
  · rw [if_pos (e4.mpr h4), if_pos h4]
  rw [if_neg (fun z => h4 (e4.mp z)), if_neg h4]
/-- a turn that goes on -/
theorem Lp_op {pos pos1 d : Nat} {S S1 : im_S} (hd : S.1 3 7 = nI d) (hd2 : d ≤ 4) (ho : dueF fu d S = some (1, S1)) (hp : pos < pos1) (hp1 : pos1 ≤ m) (h : Lp m fu pos1 S1 Q) : Lp m fu pos S Q := by
  intro nf i h1 h2
  obtain ⟨nf, rfl⟩ : ∃ z, nf = z + 1 := ⟨nf - 1, by omega⟩
  rw [ex_1 hd hd2 (by omega), ho]
  exact h nf (i + 1) (by omega) (by omega)
/-- a turn that refuses -/
theorem Lp_rf {pos d : Nat} {S S1 : im_S} (hd : S.1 3 7 = nI d) (hd2 : d ≤ 4) (ho : dueF fu d S = some (0, S1)) (hp : pos ≤ m) (h : Q 0 S1) : Lp m fu pos S Q := by
  intro nf i h1 h2
  obtain ⟨nf, rfl⟩ : ∃ z, nf = z + 1 := ⟨nf - 1, by omega⟩
  rw [ex_1 hd hd2 (by omega), ho]
  exact ⟨0, S1, ex_0 fu nf _ S1 (by omega), h⟩
/-- an operand is there: what follows -/
theorem Lp_fo (T : TH K pl V m) {N : Nat → Nat} {pos dep sz n ρ τ : Nat} {γ : List Nat} {S : im_S} (P : Pz K pl V m S N pos dep sz γ n ρ τ) (hfu : 600 ≤ fu) (hsz : 1 ≤ sz) (hd : S.1 3 7 = 2) (h91 : K pos ≠ 91) (h : Fl K m fu pos sz true S Q) : Lp m fu pos S Q := by
  have hm := T.m_
  have hpm := P.pm
  have hb := P.bd
  have hk : K pos < 127 := by have := (tkK_c _ (T.2.1 pos hpm).2).2.2.2.2.2; omega
  intro nf i h1 h2
  obtain ⟨nf, rfl⟩ : ∃ z, nf = z + 1 := ⟨nf - 1, by omega⟩
  rw [ex_1 (d := 2) hd (by omega) (by omega)]
  have e : dueF fu 2 S = f_X7_follow_L32 fu fu (nI (K pos)) (nI (stg (K pos))) 1 (nI sz) S := by
    unfold dueF f_X7_follow
    rw [if_pos rfl, c_kind T P]
    simp only [Option.bind_some]
    rw [if_pos (show nI (K pos) ≠ (91 : Int32) from fun z => h91 ((nI_eq (a := K pos) (b := 91) (by omega) (by omega)).mp z)), str_v hk]
    simp only [Option.bind_some]
    rw [P.sz_]
  rw [e]
  exact h nf i fu sz (by omega) (by omega) (Nat.le_refl _) hsz (by omega) (by omega)
theorem Lp_cell (T : TH K pl V m) {N : Nat → Nat} {pos pos1 dep sz n ρ τ : Nat} {γ : List Nat} {S S1 : im_S} (P : Pz K pl V m S N pos dep sz γ n ρ τ) (hd : S.1 3 7 = 2) (h91 : K pos = 91) (ho : f_X7_openElement S = some (1, S1)) (hp : pos < pos1) (hp1 : pos1 ≤ m) (h : Lp m fu pos1 S1 Q) : Lp m fu pos S Q := by
  refine Lp_op (d := 2) hd (by omega) ?_ hp hp1 h
  unfold dueF f_X7_follow
  rw [if_pos rfl, c_kind T P, h91]
  simp only [Option.bind_some]
  rw [if_neg (fun z => z rfl), ho]
  rfl
/-- follow where the latest is no operator: nothing fits if no operand stands there or no sign does -/
theorem Fl_Z {pos sz k : Nat} {b : Bool} {S : im_S} (hfu : 600 ≤ fu) (h : S.1 34 3 = nI (sz + 1)) (hs : sz < 512) (hk : S.1 35 sz = nI k) (hk2 : k < 100) (hk6 : 6 < k) (hb : b = false ∨ stg (K pos) = 0) (hZ : FZ K m fu pos (sz + 1) S Q) : Fl K m fu pos (sz + 1) b S Q := by
  intro nf i nf2 c h1 h2 h3 h4 h5 h6
  obtain ⟨nf2, rfl⟩ : ∃ z, nf2 = z + 1 := ⟨nf2 - 1, by omega⟩
  obtain ⟨fu', rfl⟩ : ∃ z, fu = z + 1 := ⟨fu - 1, by omega⟩
  have hst := stg_lt (K pos)
  have c0 : ¬ nI c ≤ 0 := fun z => by have := (mI_le (a := c) (b := 0) (by omega) (by omega)).mp z; omega
  have e1 : f_X7_endOperators (fu' + 1) (nI (stg (K pos))) S = some ((), S) := by
    unfold f_X7_endOperators
    rw [h]
    exact eo_stop h hs hk hk2 (by omega) (Or.inl hk6)
  rw [fo_L32, if_neg c0, e1]
  simp only [Option.bind_some]
  have := hZ nf i nf2 c h1 h2 h3 h4 (by omega) h6
  cases b with
  | false =>
    rw [show (cond false (1 : Int32) 0) = 0 from rfl, if_pos rfl]
    exact this
  | true =>
    rw [show (cond true (1 : Int32) 0) = 1 from rfl, if_neg (by decide), c_topS h hs hk hk2, if_pos hk6]
    simp only [Option.bind_some]
    have hz : stg (K pos) = 0 := by
      rcases hb with q | q
      · cases q
      · exact q
    rw [hz] at this ⊢
    rw [if_pos (by decide)]
    exact this
/-- an operator behind is weaker: the pending one gets its operand -/
theorem Fl_pop {pos sz k : Nat} {S S1 : im_S} (hfu : 600 ≤ fu) (h : S.1 34 3 = nI (sz + 1)) (hs : sz < 512) (hk : S.1 35 sz = nI k) (hk1 : 1 ≤ k) (hk6 : k ≤ 6) (hst : stg (K pos) < k ∨ (k = stg (K pos) ∧ k ≠ 3)) (ho : f_X7_endOperator (nI k) S = some ((), S1)) (h1 : S1.1 34 3 = nI sz) (hF : Fl K m fu pos sz true S1 Q) : Fl K m fu pos (sz + 1) true S Q := by
  intro nf i nf2 c q1 q2 q3 q4 q5 q6
  obtain ⟨nf2, rfl⟩ : ∃ z, nf2 = z + 1 := ⟨nf2 - 1, by omega⟩
  have hst2 := stg_lt (K pos)
  have c0 : ¬ nI c ≤ 0 := fun z => by have := (mI_le (a := c) (b := 0) (by omega) (by omega)).mp z; omega
  have e1 : f_X7_endOperators fu (nI (stg (K pos))) S = f_X7_endOperators fu (nI (stg (K pos))) S1 := by
    unfold f_X7_endOperators
    rw [h, h1]
    obtain ⟨fu', hf'⟩ : ∃ z, fu = z + 1 := ⟨fu - 1, by omega⟩
    have := eo_pop (fu := fu) (nf := fu') (s := stg (K pos)) (c := sz + 1) h hs hk hk1 hk6 (by omega) (by omega) (by omega) (by omega)
    rw [← hf'] at this
    rw [this, ho]
    simp only [Option.bind_some, Nat.add_sub_cancel]
    exact eo_fuel fu _ sz fu' fu S1 (by omega) (by omega) (by omega)
  have := hF nf i (nf2 + 1) c q1 q2 (by omega) q4 q5 q6
  rw [fo_L32, if_neg c0] at this
  rw [fo_L32, if_neg c0, e1]
  exact this
/-- .. is stronger: it takes the operand -/
theorem Fl_bin {pos pos1 sz k : Nat} {S S1 : im_S} (hfu : 600 ≤ fu) (h : S.1 34 3 = nI (sz + 1)) (hs : sz < 512) (hk : S.1 35 sz = nI k) (hk2 : k < 100) (hst : 6 < k ∨ k < stg (K pos)) (h0 : 1 ≤ stg (K pos)) (ho : f_X7_openBinary (nI (K pos)) (nI (stg (K pos))) S = some (1, S1)) (hp : pos < pos1) (hp1 : pos1 ≤ m) (hL : Lp m fu pos1 S1 Q) : Fl K m fu pos (sz + 1) true S Q := by
  intro nf i nf2 c q1 q2 q3 q4 q5 q6
  obtain ⟨nf2, rfl⟩ : ∃ z, nf2 = z + 1 := ⟨nf2 - 1, by omega⟩
  have hst2 := stg_lt (K pos)
  have c0 : ¬ nI c ≤ 0 := fun z => by have := (mI_le (a := c) (b := 0) (by omega) (by omega)).mp z; omega
  have e1 : f_X7_endOperators fu (nI (stg (K pos))) S = some ((), S) := by
    unfold f_X7_endOperators
    rw [h]
    obtain ⟨fu', hf'⟩ : ∃ z, fu = z + 1 := ⟨fu - 1, by omega⟩
    have := eo_stop (fu := fu) (nf := fu') (s := stg (K pos)) (c := sz + 1) h hs hk hk2 (by omega) (by omega)
    rw [← hf'] at this
    exact this
  have hk3 : (if 6 < k then 0 else k) < 2 ^ 31 := by
    by_cases z : 6 < k
    · rw [if_pos z]; omega
    · rw [if_neg z]; omega
  have lt : nI (stg (K pos)) ≤ nI (if 6 < k then 0 else k) ↔ stg (K pos) ≤ (if 6 < k then 0 else k) := mI_le (by omega) hk3
  have nle : ¬ stg (K pos) ≤ (if 6 < k then 0 else k) := by
    by_cases z : 6 < k
    · rw [if_pos z]; omega
    · rw [if_neg z]; omega
  rw [fo_L32, if_neg c0, e1]
  simp only [Option.bind_some]
  rw [show (cond true (1 : Int32) 0) = 1 from rfl, if_neg (by decide), c_topS h hs hk hk2]
  simp only [Option.bind_some]
  rw [if_neg (fun z => nle (lt.mp z)), ho]
  simp only [Option.bind_some, show z_b 1 = true from rfl, gd_t]
  exact hL nf (i + 1) (by omega) (by omega)
/-- a second comparison does not fit -/
theorem Fl_cmp {pos sz : Nat} {S : im_S} (hfu : 600 ≤ fu) (h : S.1 34 3 = nI (sz + 1)) (hs : sz < 512) (hk : S.1 35 sz = nI 3) (hst : stg (K pos) = 3) (hZ : FZ K m fu pos (sz + 1) S Q) : Fl K m fu pos (sz + 1) true S Q := by
  intro nf i nf2 c q1 q2 q3 q4 q5 q6
  obtain ⟨nf2, rfl⟩ : ∃ z, nf2 = z + 1 := ⟨nf2 - 1, by omega⟩
  have c0 : ¬ nI c ≤ 0 := fun z => by have := (mI_le (a := c) (b := 0) (by omega) (by omega)).mp z; omega
  have e1 : f_X7_endOperators fu (nI 3) S = some ((), S) := by
    unfold f_X7_endOperators
    rw [h]
    obtain ⟨fu', hf'⟩ : ∃ z, fu = z + 1 := ⟨fu - 1, by omega⟩
    have := eo_stop (fu := fu) (nf := fu') (s := 3) (c := sz + 1) h hs hk (by omega) (by omega) (by omega)
    rw [← hf'] at this
    exact this
  have := hZ nf i nf2 c q1 q2 q3 q4 (by omega) q6
  rw [hst] at this ⊢
  rw [fo_L32, if_neg c0, e1]
  simp only [Option.bind_some]
  rw [show (cond true (1 : Int32) 0) = 1 from rfl, if_neg (by decide), c_topS h hs hk (by omega)]
  simp only [Option.bind_some]
  rw [if_neg (show ¬ 6 < 3 by omega), if_pos (by decide)]
  exact this
theorem FZ_pop {pos sz k : Nat} {S S1 : im_S} (hfu : 600 ≤ fu) (h : S.1 34 3 = nI (sz + 1)) (hs : sz < 512) (hk : S.1 35 sz = nI k) (hk1 : 1 ≤ k) (hk6 : k ≤ 6) (ho : f_X7_endOperator (nI k) S = some ((), S1)) (h1 : S1.1 34 3 = nI sz) (hZ : FZ K m fu pos sz S1 Q) : FZ K m fu pos (sz + 1) S Q := by
  intro nf i nf2 c q1 q2 q3 q4 q5 q6
  have e1 : f_X7_endOperators fu 0 S = f_X7_endOperators fu 0 S1 := by
    unfold f_X7_endOperators
    rw [h, h1]
    obtain ⟨fu', hf'⟩ : ∃ z, fu = z + 1 := ⟨fu - 1, by omega⟩
    have := eo_pop (fu := fu) (nf := fu') (s := 0) (c := sz + 1) h hs hk hk1 hk6 (by omega) (by omega) (by omega) (by omega)
    rw [← hf'] at this
    rw [show (0 : Int32) = nI 0 from rfl, this, ho]
    simp only [Option.bind_some, Nat.add_sub_cancel]
    exact eo_fuel fu _ sz fu' fu S1 (by omega) (by omega) (by omega)
  have := hZ nf i nf2 c q1 q2 (by omega) q4 q5 q6
  unfold flZ at this ⊢
  rw [e1]
  exact this
/-- what ends by itself -/
theorem FZ_end {pos sz k : Nat} {S S1 : im_S} (hfu : 600 ≤ fu) (h : S.1 34 3 = nI (sz + 1)) (hs : sz < 512) (hk : S.1 35 sz = nI k) (hk2 : k = 15 ∨ k = 18 ∨ k = 22 ∨ k = 24) (ho : f_X7_endByItself fu S = some ((), S1)) (hsz : 1 ≤ sz) (hF : Fl K m fu pos sz (decide (k = 24)) S1 Q) : FZ K m fu pos (sz + 1) S Q := by
  intro nf i nf2 c q1 q2 q3 q4 q5 q6
  have e1 : f_X7_endOperators fu 0 S = some ((), S) := by
    unfold f_X7_endOperators
    rw [h]
    obtain ⟨fu', hf'⟩ : ∃ z, fu = z + 1 := ⟨fu - 1, by omega⟩
    have := eo_stop (fu := fu) (nf := fu') (s := 0) (c := sz + 1) h hs hk (by omega) (by omega) (by omega)
    rw [← hf'] at this
    exact this
  have ec : nI c + (-1) = nI (c - 1) := by
    rw [show nI c + (-1) = nI c - 1 from (Int32.sub_eq_add_neg (nI c) 1).symm, show (1 : Int32) = nI 1 from rfl, nI_sub q4]
  have := hF nf i nf2 (c - 1) q1 q2 (by omega) (by omega) (by omega) (by omega)
  unfold flZ
  rw [e1]
  simp only [Option.bind_some]
  rw [c_topE h hs hk (by omega), if_pos hk2]
  simp only [Option.bind_some]
  rw [if_pos (show (1 : Int32) ≠ 0 by decide), c_topK h hs, hk]
  simp only [Option.bind_some, ho, ec]
  have e24 : nI k = (24 : Int32) ↔ k = 24 := nI_eq (a := k) (b := 24) (by omega) (by omega)
  by_cases h24 : k = 24
  · rw [if_neg (fun z => z (e24.mpr h24))]
    rw [decide_eq_true h24] at this
    exact this
  · rw [if_pos (fun z => h24 (e24.mp z))]
    rw [decide_eq_false h24] at this
    exact this
/-- what ends by a token of its own -/
theorem FZ_cl {pos pos1 sz k : Nat} {S S1 : im_S} {r : Int32} (hfu : 600 ≤ fu) (h : S.1 34 3 = nI (sz + 1)) (hs : sz < 512) (hk : S.1 35 sz = nI k) (hk2 : k < 100) (hk6 : 6 < k) (hk3 : ¬ (k = 15 ∨ k = 18 ∨ k = 22 ∨ k = 24)) (ho : f_X7_close fu (nI (K pos)) S = some (r, S1)) (hpm : pos ≤ m) (hr : (r = 0 ∧ Q 0 S1) ∨ (r = 1 ∧ pos < pos1 ∧ pos1 ≤ m ∧ Lp m fu pos1 S1 Q)) : FZ K m fu pos (sz + 1) S Q := by
  intro nf i nf2 c q1 q2 q3 q4 q5 q6
  have e1 : f_X7_endOperators fu 0 S = some ((), S) := by
    unfold f_X7_endOperators
    rw [h]
    obtain ⟨fu', hf'⟩ : ∃ z, fu = z + 1 := ⟨fu - 1, by omega⟩
    have := eo_stop (fu := fu) (nf := fu') (s := 0) (c := sz + 1) h hs hk (by omega) (by omega) (by omega)
    rw [← hf'] at this
    exact this
  unfold flZ
  rw [e1]
  simp only [Option.bind_some]
  rw [c_topE h hs hk (by omega), if_neg hk3]
  simp only [Option.bind_some]
  rw [if_neg (fun z => z rfl), ho]
  simp only [Option.bind_some]
  rcases hr with ⟨rfl, hq⟩ | ⟨rfl, a1, a2, a3⟩
  · rw [show z_b 0 = true from rfl]
    simp only [gd_t, Option.bind_some]
    exact ⟨0, S1, ex_0 fu nf _ S1 (by omega), hq⟩
  · rw [show z_b 1 = true from rfl]
    simp only [gd_t, Option.bind_some]
    exact a3 nf (i + 1) (by omega) (by omega)
/-- the end of a body -/
theorem Lp_done {pos : Nat} {S : im_S} (hd : S.1 3 7 = 5) (hp : pos ≤ m) (h : Q 1 S) : Lp m fu pos S Q := by
  intro nf i h1 h2
  obtain ⟨nf, rfl⟩ : ∃ z, nf = z + 1 := ⟨nf - 1, by omega⟩
  refine ⟨1, S, ?_, h⟩
  rw [f_X7_expression_L4]
  by_cases c : (500 : Int32) < nI i
  · rw [if_pos c]; rfl
  · rw [if_neg c, if_neg (by decide), if_pos hd]; rfl
end CFL
