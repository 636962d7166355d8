/-! the class's parser: what operand does, by the token: written by program (wip/whole/mk964.py) -/
section COP
variable {K pl : Nat → Nat} {V : Nat → Int64} {m fu : Nat} {S : im_S} {N : Nat → Nat} {pos dep sz n ρ τ d : Nat} {γ : List Nat}
theorem op_deep (T : TH K pl V m) (P : Pz K pl V m S N pos dep sz γ n ρ τ) (hd : S.1 3 7 = 0) (h : 20 ≤ dep) (hdl : dep < 2 ^ 31) : f_X7_operand fu S = some (0, rcS S (pl pos)) := by
  unfold f_X7_operand
  rw [hd, if_neg (fun z => z rfl), P.dp, if_neg (show ¬ nI dep < (20 : Int32) from fun z => by have := (mI_lt (a := dep) (b := 20) (by omega) (by omega)).mp z; omega), c_refuse T P]
  rfl
theorem op_lt {dep : Nat} (h : dep < 20) : nI dep < (20 : Int32) := (mI_lt (a := dep) (b := 20) (by omega) (by omega)).mpr h
theorem op_refuse (T : TH K pl V m) (P : Pz K pl V m S N pos dep sz γ n ρ τ) (hd : S.1 3 7 = nI d) (hd1 : d ≤ 1) (hdep : d = 0 → dep < 20) (h1 : K pos ≠ 1) (h2 : K pos ≠ 2) (h4 : d = 0 → K pos ≠ 4) (h6 : d = 0 → K pos ≠ 6) (h9 : d = 0 → K pos ≠ 9) (h13 : K pos ≠ 13) (h15 : K pos ≠ 15) (h16 : K pos ≠ 16) (h33 : K pos ≠ 33) (h40 : K pos ≠ 40) (h45 : K pos ≠ 45) : f_X7_operand fu S = some (0, rcS S (pl pos)) := by
  have hk : K pos < 127 := by have := (tkK_c _ (T.2.1 pos P.pm).2).2.2.2.2.2; omega
  have e : ∀ b : Nat, b < 127 → nI (K pos) = nI b → K pos = b := fun b hb z => (nI_eq (by omega) (by omega)).mp z
  have e1 : ¬ nI (K pos) = (1 : Int32) := fun z => h1 (e 1 (by omega) z)
  have e2 : ¬ nI (K pos) = (2 : Int32) := fun z => h2 (e 2 (by omega) z)
  have e13 : ¬ nI (K pos) = (13 : Int32) := fun z => h13 (e 13 (by omega) z)
  have e15 : ¬ nI (K pos) = (15 : Int32) := fun z => h15 (e 15 (by omega) z)
  have e16 : ¬ nI (K pos) = (16 : Int32) := fun z => h16 (e 16 (by omega) z)
  have e33 : ¬ nI (K pos) = (33 : Int32) := fun z => h33 (e 33 (by omega) z)
  have e40 : ¬ nI (K pos) = (40 : Int32) := fun z => h40 (e 40 (by omega) z)
  have e45 : ¬ nI (K pos) = (45 : Int32) := fun z => h45 (e 45 (by omega) z)
  unfold f_X7_operand
  simp only [c_kind T P, c_refuse T P, Option.bind_some, show z_b 0 = true from rfl, gd_t, P.dp, hd]
  by_cases h0 : d = 0
  · subst h0
    have e4 : ¬ nI (K pos) = (4 : Int32) := fun z => h4 rfl (e 4 (by omega) z)
    have e6 : ¬ nI (K pos) = (6 : Int32) := fun z => h6 rfl (e 6 (by omega) z)
    have e9 : ¬ nI (K pos) = (9 : Int32) := fun z => h9 rfl (e 9 (by omega) z)
    rw [if_neg (fun z => z rfl), if_pos (op_lt (hdep rfl))]
    simp only [if_neg e1, if_neg e2, if_neg e4, if_neg e6, if_neg e9, if_neg e13, if_neg e15, if_neg e16, if_neg e33, if_neg e40, if_neg e45, ite_self]
  · have hd2 : d = 1 := by omega
    subst hd2
    rw [if_pos (show nI 1 ≠ (0 : Int32) by decide)]
    simp only [if_neg e1, if_neg e2, if_neg e13, if_neg e15, if_neg e16, if_neg e33, if_neg e40, if_neg e45, if_pos (show nI 1 ≠ (0 : Int32) by decide), ite_self]
theorem op_2 (T : TH K pl V m) (P : Pz K pl V m S N pos dep sz γ n ρ τ) (hd : S.1 3 7 = nI d) (hd1 : d ≤ 1) (hdep : d = 0 → dep < 20) (hk : K pos = 2) : f_X7_operand fu S = (f_X7_constant 1 (V pos) S).bind (fun q => gd (z_b q.1) (some (q.1, q.2))) := by
  have hm := T.m_
  have hpm := P.pm
  have e33 : S.2.1 33 pos = V pos := (P.ct pos hpm).2.2 (Or.inr hk)
  have hin : in_b (nI pos) 501 = true := mI_in (by omega) (by omega)
  have hcl : (nI pos).toNatClampNeg = pos := nI_clamp (by omega)
  unfold f_X7_operand
  simp only [c_kind T P, Option.bind_some, P.dp, hd, hk, P.at_, hin, hcl, e33, gd_t]
  by_cases h0 : d = 0
  · subst h0
    rw [if_neg (fun z => z rfl), if_pos (op_lt (hdep rfl))]
    rfl
  · have hd2 : d = 1 := by omega
    subst hd2
    rw [if_pos (show nI 1 ≠ (0 : Int32) by decide)]
    rfl
theorem op_use (T : TH K pl V m) (P : Pz K pl V m S N pos dep sz γ n ρ τ) (hd : S.1 3 7 = nI d) (hd1 : d ≤ 1) (hdep : d = 0 → dep < 20) (hk : K pos = 1) (hp : pos < m) (hk40 : K (pos + 1) ≠ 40) : f_X7_operand fu S = (f_X7_use fu S).bind (fun q => gd (z_b q.1) (some (q.1, q.2))) := by
  have hm := T.m_
  have hpm := P.pm
  have hin : in_b (nI (pos + 1)) 501 = true := mI_in (by omega) (by omega)
  have hcl : (nI (pos + 1)).toNatClampNeg = pos + 1 := nI_clamp (by omega)
  have e31 : S.1 31 (pos + 1) = nI (K (pos + 1)) := (P.ct (pos + 1) (by omega)).1
  have hk2 : K (pos + 1) < 127 := by have := (tkK_c _ (T.2.1 (pos + 1) (by omega)).2).2.2.2.2.2; omega
  have en : nI pos + 1 = nI (pos + 1) := nI_add pos 1
  have e40 : nI (K (pos + 1)) ≠ (40 : Int32) := fun z => hk40 ((nI_eq (a := K (pos + 1)) (b := 40) (by omega) (by omega)).mp z)
  unfold f_X7_operand
  simp only [c_kind T P, Option.bind_some, P.dp, hd, hk, P.at_, en, hin, hcl, e31, gd_t, if_pos e40]
  by_cases h0 : d = 0
  · subst h0
    rw [if_neg (fun z => z rfl), if_pos (op_lt (hdep rfl))]
    rfl
  · have hd2 : d = 1 := by omega
    subst hd2
    rw [if_pos (show nI 1 ≠ (0 : Int32) by decide)]
    rfl
theorem op_call (T : TH K pl V m) (P : Pz K pl V m S N pos dep sz γ n ρ τ) (hd : S.1 3 7 = nI d) (hd1 : d ≤ 1) (hdep : d = 0 → dep < 20) (hk : K pos = 1) (hp : pos < m) (hk40 : K (pos + 1) = 40) : f_X7_operand fu S = (f_X7_openCall fu S).bind (fun q => gd (z_b q.1) (some (q.1, q.2))) := by
  have hm := T.m_
  have hpm := P.pm
  have hin : in_b (nI (pos + 1)) 501 = true := mI_in (by omega) (by omega)
  have hcl : (nI (pos + 1)).toNatClampNeg = pos + 1 := nI_clamp (by omega)
  have e31 : S.1 31 (pos + 1) = nI (K (pos + 1)) := (P.ct (pos + 1) (by omega)).1
  have hk2 : K (pos + 1) < 127 := by have := (tkK_c _ (T.2.1 (pos + 1) (by omega)).2).2.2.2.2.2; omega
  have en : nI pos + 1 = nI (pos + 1) := nI_add pos 1
  have e40 : ¬ nI (K (pos + 1)) ≠ (40 : Int32) := fun z => z (by rw [hk40]; rfl)
  unfold f_X7_operand
  simp only [c_kind T P, Option.bind_some, P.dp, hd, hk, P.at_, en, hin, hcl, e31, gd_t, if_neg e40]
  by_cases h0 : d = 0
  · subst h0
    rw [if_neg (fun z => z rfl), if_pos (op_lt (hdep rfl))]
    rfl
  · have hd2 : d = 1 := by omega
    subst hd2
    rw [if_pos (show nI 1 ≠ (0 : Int32) by decide)]
    rfl
theorem op_13 (T : TH K pl V m) (P : Pz K pl V m S N pos dep sz γ n ρ τ) (hd : S.1 3 7 = nI d) (hd1 : d ≤ 1) (hdep : d = 0 → dep < 20) (hk : K pos = 13) : f_X7_operand fu S = (f_X7_openTab fu S).bind (fun q => gd (z_b q.1) (some (q.1, q.2))) := by
  have hm := T.m_
  have hpm := P.pm
  unfold f_X7_operand
  simp only [c_kind T P, Option.bind_some, P.dp, hd, hk]
  by_cases h0 : d = 0
  · subst h0
    rw [if_neg (fun z => z rfl), if_pos (op_lt (hdep rfl))]
    rfl
  · have hd2 : d = 1 := by omega
    subst hd2
    rw [if_pos (show nI 1 ≠ (0 : Int32) by decide)]
    rfl
theorem op_15 (T : TH K pl V m) (P : Pz K pl V m S N pos dep sz γ n ρ τ) (hd : S.1 3 7 = nI d) (hd1 : d ≤ 1) (hdep : d = 0 → dep < 20) (hk : K pos = 15) : f_X7_operand fu S = (f_X7_constant 2 1 S).bind (fun q => gd (z_b q.1) (some (q.1, q.2))) := by
  have hm := T.m_
  have hpm := P.pm
  unfold f_X7_operand
  simp only [c_kind T P, Option.bind_some, P.dp, hd, hk]
  by_cases h0 : d = 0
  · subst h0
    rw [if_neg (fun z => z rfl), if_pos (op_lt (hdep rfl))]
    rfl
  · have hd2 : d = 1 := by omega
    subst hd2
    rw [if_pos (show nI 1 ≠ (0 : Int32) by decide)]
    rfl
theorem op_16 (T : TH K pl V m) (P : Pz K pl V m S N pos dep sz γ n ρ τ) (hd : S.1 3 7 = nI d) (hd1 : d ≤ 1) (hdep : d = 0 → dep < 20) (hk : K pos = 16) : f_X7_operand fu S = (f_X7_constant 2 0 S).bind (fun q => gd (z_b q.1) (some (q.1, q.2))) := by
  have hm := T.m_
  have hpm := P.pm
  unfold f_X7_operand
  simp only [c_kind T P, Option.bind_some, P.dp, hd, hk]
  by_cases h0 : d = 0
  · subst h0
    rw [if_neg (fun z => z rfl), if_pos (op_lt (hdep rfl))]
    rfl
  · have hd2 : d = 1 := by omega
    subst hd2
    rw [if_pos (show nI 1 ≠ (0 : Int32) by decide)]
    rfl
theorem op_33 (T : TH K pl V m) (P : Pz K pl V m S N pos dep sz γ n ρ τ) (hd : S.1 3 7 = nI d) (hd1 : d ≤ 1) (hdep : d = 0 → dep < 20) (hk : K pos = 33) : f_X7_operand fu S = (f_X7_openAhead 2 S).bind (fun q => gd (z_b q.1) (some (q.1, q.2))) := by
  have hm := T.m_
  have hpm := P.pm
  unfold f_X7_operand
  simp only [c_kind T P, Option.bind_some, P.dp, hd, hk]
  by_cases h0 : d = 0
  · subst h0
    rw [if_neg (fun z => z rfl), if_pos (op_lt (hdep rfl))]
    rfl
  · have hd2 : d = 1 := by omega
    subst hd2
    rw [if_pos (show nI 1 ≠ (0 : Int32) by decide)]
    rfl
theorem op_40 (T : TH K pl V m) (P : Pz K pl V m S N pos dep sz γ n ρ τ) (hd : S.1 3 7 = nI d) (hd1 : d ≤ 1) (hdep : d = 0 → dep < 20) (hk : K pos = 40) : f_X7_operand fu S = (f_X7_openBracket S).bind (fun q => gd (z_b q.1) (some (q.1, q.2))) := by
  have hm := T.m_
  have hpm := P.pm
  unfold f_X7_operand
  simp only [c_kind T P, Option.bind_some, P.dp, hd, hk]
  by_cases h0 : d = 0
  · subst h0
    rw [if_neg (fun z => z rfl), if_pos (op_lt (hdep rfl))]
    rfl
  · have hd2 : d = 1 := by omega
    subst hd2
    rw [if_pos (show nI 1 ≠ (0 : Int32) by decide)]
    rfl
theorem op_45 (T : TH K pl V m) (P : Pz K pl V m S N pos dep sz γ n ρ τ) (hd : S.1 3 7 = nI d) (hd1 : d ≤ 1) (hdep : d = 0 → dep < 20) (hk : K pos = 45) : f_X7_operand fu S = (f_X7_openAhead 1 S).bind (fun q => gd (z_b q.1) (some (q.1, q.2))) := by
  have hm := T.m_
  have hpm := P.pm
  unfold f_X7_operand
  simp only [c_kind T P, Option.bind_some, P.dp, hd, hk]
  by_cases h0 : d = 0
  · subst h0
    rw [if_neg (fun z => z rfl), if_pos (op_lt (hdep rfl))]
    rfl
  · have hd2 : d = 1 := by omega
    subst hd2
    rw [if_pos (show nI 1 ≠ (0 : Int32) by decide)]
    rfl
theorem op_4 (T : TH K pl V m) (P : Pz K pl V m S N pos dep sz γ n ρ τ) (hd : S.1 3 7 = 0) (hdep : dep < 20) (hk : K pos = 4) : f_X7_operand fu S = (f_X7_openLet fu S).bind (fun q => gd (z_b q.1) (some (q.1, q.2))) := by
  have hm := T.m_
  have hpm := P.pm
  unfold f_X7_operand
  simp only [c_kind T P, Option.bind_some, P.dp, hd, hk]
  rw [if_neg (fun z => z rfl), if_pos (op_lt hdep)]
  rfl
theorem op_6 (T : TH K pl V m) (P : Pz K pl V m S N pos dep sz γ n ρ τ) (hd : S.1 3 7 = 0) (hdep : dep < 20) (hk : K pos = 6) : f_X7_operand fu S = (f_X7_openChoice S).bind (fun q => gd (z_b q.1) (some (q.1, q.2))) := by
  have hm := T.m_
  have hpm := P.pm
  unfold f_X7_operand
  simp only [c_kind T P, Option.bind_some, P.dp, hd, hk]
  rw [if_neg (fun z => z rfl), if_pos (op_lt hdep)]
  rfl
theorem op_9 (T : TH K pl V m) (P : Pz K pl V m S N pos dep sz γ n ρ τ) (hd : S.1 3 7 = 0) (hdep : dep < 20) (hk : K pos = 9) : f_X7_operand fu S = (f_X7_openLoop S).bind (fun q => gd (z_b q.1) (some (q.1, q.2))) := by
  have hm := T.m_
  have hpm := P.pm
  unfold f_X7_operand
  simp only [c_kind T P, Option.bind_some, P.dp, hd, hk]
  rw [if_neg (fun z => z rfl), if_pos (op_lt hdep)]
  rfl
end COP
