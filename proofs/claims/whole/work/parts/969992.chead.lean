/-! the class's parser: the head of a function -/
/-- which function has a name -/
def idx (V : Nat → Int64) : List Nat → Nat → Option Nat
  | [], _ => none
  | p :: l, j => if V p = V j then some 0 else (idx V l j).map (· + 1)
def F23 (V : Nat → Int64) (S : im_S) : Nat → List Nat → Prop
  | _, [] => True
  | i, p :: l => S.2.1 23 i = V p ∧ F23 V S (i + 1) l
theorem F23_cp {V : Nat → Int64} {S S' : im_S} : ∀ (l : List Nat) (i : Nat), (∀ k, i ≤ k → k < i + l.length → S'.2.1 23 k = S.2.1 23 k) → F23 V S i l → F23 V S' i l := by
  intro l
  induction l with
  | nil => intro i _ h; exact h
  | cons p l ih =>
    intro i hk h
    have hl : (p :: l).length = l.length + 1 := rfl
    exact ⟨by rw [hk i (Nat.le_refl _) (by omega)]; exact h.1, ih (i + 1) (fun k h1 h2 => hk k (by omega) (by omega)) h.2⟩
theorem F23_sn {V : Nat → Int64} {S : im_S} {p : Nat} : ∀ (l : List Nat) (i : Nat), F23 V S i l → S.2.1 23 (i + l.length) = V p → F23 V S i (l ++ [p]) := by
  intro l
  induction l with
  | nil => intro i _ h; exact ⟨h, trivial⟩
  | cons c l ih =>
    intro i h h2
    refine ⟨h.1, ih (i + 1) h.2 ?_⟩
    have hl : (c :: l).length = l.length + 1 := rfl
    rw [show i + 1 + l.length = i + (c :: l).length by omega]
    exact h2
theorem idx_fnd {V : Nat → Int64} : ∀ (l : List Nat) (j : Nat), (idx V l j).isSome = (fnd V l j).isSome := by
  intro l
  induction l with
  | nil => intro j; rfl
  | cons p l ih =>
    intro j
    unfold idx fnd
    by_cases h : V p = V j
    · rw [if_pos h, if_pos h]; rfl
    · rw [if_neg h, if_neg h, ← ih j]
      cases idx V l j <;> rfl
theorem idx_lt {V : Nat → Int64} : ∀ (l : List Nat) (j k : Nat), idx V l j = some k → k < l.length := by
  intro l
  induction l with
  | nil => intro j k h; cases h
  | cons p l ih =>
    intro j k h
    have hl : (p :: l).length = l.length + 1 := rfl
    unfold idx at h
    by_cases hp : V p = V j
    · rw [if_pos hp] at h; cases h; omega
    · rw [if_neg hp] at h
      rcases hq : idx V l j with _ | z
      · rw [hq] at h; cases h
      · rw [hq] at h
        have h : some (z + 1) = some k := h
        cases h
        have := ih j z hq
        omega
theorem c_ffL (fu : Nat) {V : Nat → Int64} (S : im_S) (j : Nat) : ∀ (l : List Nat) (nf i : Nat), F23 V S i l → S.1 22 3 = nI (i + l.length) → i + l.length ≤ 8 → l.length < nf → f_X4_findFunction_L2 fu nf (V j) (nI i) S = some (match idx V l j with | some k => nI (i + k) | none => -1, S) := by
  intro l
  induction l with
  | nil =>
    intro nf i _ h2 h3 h4
    obtain ⟨nf, rfl⟩ : ∃ z, nf = z + 1 := ⟨nf - 1, by omega⟩
    have h2 : S.1 22 3 = nI i := h2
    have h3 : i + 0 ≤ 8 := h3
    rw [f_X4_findFunction_L2, h2, if_pos ((mI_le (a := i) (b := i) (by omega) (by omega)).mpr (by omega))]
    rfl
  | cons p l ih =>
    intro nf i h1 h2 h3 h4
    have hl : (p :: l).length = l.length + 1 := rfl
    obtain ⟨nf, rfl⟩ : ∃ z, nf = z + 1 := ⟨nf - 1, by omega⟩
    rw [f_X4_findFunction_L2, h2, if_neg (fun z => by have := (mI_le (a := i + (p :: l).length) (b := i) (by omega) (by omega)).mp z; omega), mI_in (a := i) (n := 8) (by omega) (by omega), nI_clamp (show i < 2 ^ 31 by omega), h1.1, show nI i + 1 = nI (i + 1) from nI_add i 1]
    simp only [gd_t]
    by_cases hv : V p = V j
    · have e : idx V (p :: l) j = some 0 := by unfold idx; rw [if_pos hv]
      rw [if_neg (fun z => z ((lg_cmp_eq _ _).mpr hv)), e]
      rfl
    · have e : idx V (p :: l) j = (idx V l j).map (· + 1) := by
        show (if V p = V j then some 0 else (idx V l j).map (· + 1)) = _
        rw [if_neg hv]
      rw [if_pos (fun z => hv ((lg_cmp_eq _ _).mp z)), ih nf (i + 1) h1.2 (by rw [h2]; congr 1; omega) (by omega) (by omega), e]
      cases idx V l j with
      | none => rfl
      | some k =>
        show some (nI (i + 1 + k), S) = some (nI (i + (k + 1)), S)
        rw [show i + 1 + k = i + (k + 1) by omega]
theorem c_ff {fu : Nat} {V : Nat → Int64} {S : im_S} {l : List Nat} (h1 : F23 V S 0 l) (h2 : S.1 22 3 = nI l.length) (h3 : l.length ≤ 8) (hfu : 600 ≤ fu) (j : Nat) : f_X4_findFunction fu (V j) S = some (match idx V l j with | some k => nI k | none => -1, S) := by
  unfold f_X4_findFunction
  have := c_ffL fu S j l fu 0 h1 (by rw [h2, Nat.zero_add]) (by omega) (by omega)
  rw [show (0 : Int32) = nI 0 from rfl, this]
  cases idx V l j with
  | none => rfl
  | some k => show some (nI (0 + k), S) = some (nI k, S); rw [Nat.zero_add]
/-- nothing of before is changed -/
def FrF (S S' : im_S) (n ρ τ c : Nat) : Prop := (∀ a k : Nat, 7 ≤ a → a ≤ 20 → k < n → S'.1 a k = S.1 a k) ∧ (∀ k : Nat, k < n → S'.2.1 21 k = S.2.1 21 k) ∧ (∀ r : Nat, r < ρ → S'.1 27 r = S.1 27 r ∧ S'.1 26 r = S.1 26 r) ∧ (∀ t : Nat, t < τ → S'.1 29 t = S.1 29 t) ∧ ∀ i : Nat, i < c → S'.1 24 i = S.1 24 i ∧ S'.1 25 i = S.1 25 i ∧ S'.2.1 23 i = S.2.1 23 i
theorem FrF_refl (S : im_S) (n ρ τ c : Nat) : FrF S S n ρ τ c := ⟨fun _ _ _ _ _ => rfl, fun _ _ => rfl, fun _ _ => ⟨rfl, rfl⟩, fun _ _ => rfl, fun _ _ => ⟨rfl, rfl, rfl⟩⟩
theorem FrF_tr {S S1 S2 : im_S} {n ρ τ c n1 ρ1 τ1 c1 : Nat} (a : FrF S S1 n ρ τ c) (b : FrF S1 S2 n1 ρ1 τ1 c1) (h1 : n ≤ n1) (h2 : ρ ≤ ρ1) (h3 : τ ≤ τ1) (h4 : c ≤ c1) : FrF S S2 n ρ τ c :=
  ⟨fun x k u1 u2 u3 => (b.1 x k u1 u2 (by omega)).trans (a.1 x k u1 u2 u3), fun k u => (b.2.1 k (by omega)).trans (a.2.1 k u), fun r u => ⟨((b.2.2.1 r (by omega)).1).trans (a.2.2.1 r u).1, ((b.2.2.1 r (by omega)).2).trans (a.2.2.1 r u).2⟩, fun t u => (b.2.2.2.1 t (by omega)).trans (a.2.2.2.1 t u), fun i u => ⟨((b.2.2.2.2 i (by omega)).1).trans (a.2.2.2.2 i u).1, ((b.2.2.2.2 i (by omega)).2.1).trans (a.2.2.2.2 i u).2.1, ((b.2.2.2.2 i (by omega)).2.2).trans (a.2.2.2.2 i u).2.2⟩⟩
theorem FrF_Fr {S S1 S2 : im_S} {n ρ τ c n1 ρ1 τ1 sz kn R : Nat} (a : FrF S S1 n ρ τ c) (b : Fr S1 S2 n1 ρ1 τ1 sz kn R) (h1 : n ≤ n1) (h2 : ρ ≤ ρ1) (h3 : τ ≤ τ1) (h5 : ρ ≤ R) : FrF S S2 n ρ τ c := by
  obtain ⟨b1, b2, b3, b4, -, -, -, b8⟩ := b
  exact FrF_tr a (n1 := n) (ρ1 := ρ) (τ1 := τ) (c1 := c) ⟨fun x k u1 u2 u3 => b1 x k u1 u2 (by omega), fun k u => b2 k (by omega), fun r u => ⟨(b3 r (by omega)).1, (b3 r (by omega)).2 (by omega)⟩, fun t u => b4 t (by omega), fun i _ => b8 i⟩ (Nat.le_refl _) (Nat.le_refl _) (Nat.le_refl _) (Nat.le_refl _)
/-- between two functions -/
def Hz (K pl : Nat → Nat) (V : Nat → Int64) (m : Nat) (S : im_S) (N M L : Nat → Nat) (p n ρ τ f : Nat) (fns : List Nat) : Prop := Ct K pl V m S ∧ p ≤ m ∧ S.1 3 6 = nI p ∧ S.1 6 16 = nI n ∧ S.1 22 6 = nI ρ ∧ S.1 22 9 = nI τ ∧ S.1 22 3 = nI fns.length ∧ (n ≤ p ∧ τ ≤ p ∧ ρ ≤ pl p) ∧ Gh N M L p n ρ τ [] ∧ SI S n ρ τ (pl p) ∧ FS S f ∧ f ≤ 4000 ∧ F23 V S 0 fns ∧ fns.length ≤ 8
section CHD
variable {K pl : Nat → Nat} {V : Nat → Int64} {m fu : Nat} {S : im_S} {N M L : Nat → Nat} {p n ρ τ f : Nat} {fns : List Nat}
theorem h_kind (T : TH K pl V m) (H : Hz K pl V m S N M L p n ρ τ f fns) : f_X7_kindHere S = some (nI (K p), S) := by
  obtain ⟨h1, h2, h3, -⟩ := H
  have := T.m_
  unfold f_X7_kindHere
  rw [h3, mI_in (a := p) (n := 501) (by omega) (by omega), nI_clamp (show p < 2 ^ 31 by omega), (h1 p h2).1]
  rfl
theorem h_place (T : TH K pl V m) (H : Hz K pl V m S N M L p n ρ τ f fns) : f_X7_placeHere S = some (nI (pl p), S) := by
  obtain ⟨h1, h2, h3, -⟩ := H
  have := T.m_
  unfold f_X7_placeHere
  rw [h3, mI_in (a := p) (n := 501) (by omega) (by omega), nI_clamp (show p < 2 ^ 31 by omega), (h1 p h2).2.1]
  rfl
theorem h_refuse (T : TH K pl V m) (H : Hz K pl V m S N M L p n ρ τ f fns) : f_X7_refuse S = some (0, rcS S (pl p)) := by
  obtain ⟨h1, h2, h3, -⟩ := H
  have := T.m_
  unfold f_X7_refuse
  have e : (uI S 5 0 1).1 3 6 = nI p := by rw [uI_ne (by omega)]; exact h3
  simp only [h3, mI_in (a := p) (n := 501) (by omega) (by omega), nI_clamp (show p < 2 ^ 31 by omega), gd_t, (h1 p h2).2.1]
  rfl
def ffd (pl : Nat → Nat) (V : Nat → Int64) (fns : List Nat) (p : Nat) : Nat := if (fnd V fns p).isSome then 4 * pl p + 2 else 4000
set_option maxHeartbeats 4000000 in
theorem c_hdr (T : TH K pl V m) (hfu : 600 ≤ fu) (H : Hz K pl V m S N M L p n ρ τ f fns) (hc : fns.length < 8) :
    (K p ≠ 1 → f_X7_header fu S = some (0, rcS S (pl p))) ∧ (K p = 1 → p < m ∧ ∃ A : im_S, f_X7_header fu S = ((f_X7_take 40 A).bind (fun qS15 => if (qS15.1 : Int32) = 0 then (some (0, qS15.2)) else ((f_X7_parameters fu (nI fns.length) qS15.2).bind (fun qS19 => if (qS19.1 : Int32) = 0 then (some (0, qS19.2)) else ((f_X7_take 41 qS19.2).bind (fun qS23 => if (qS23.1 : Int32) = 0 then (some (0, qS23.2)) else ((f_X7_take 61 qS23.2).bind (fun qS27 => if (qS27.1 : Int32) = 0 then (some (0, qS27.2)) else (some (1, qS27.2)))))))))) ∧
      Cz K pl V m A n (ρ + 1) (τ + 1) 1 0 ρ A (ex N p n) (ex M p (ρ + 1)) (ex L p (τ + 1)) (p + 1) 0 1 [] n (ρ + 1) (τ + 1) (pl (p + 1)) (min f (ffd pl V fns p)) ∧ Tp A 1 10 ρ ∧ A.1 36 0 = nI fns.length ∧ FrF S A n ρ τ fns.length ∧ A.1 22 3 = nI (fns.length + 1) ∧ A.2.1 23 fns.length = V p ∧ A.1 24 fns.length = nI ρ ∧ A.1 25 fns.length = -1 ∧ A.1 27 ρ = nI τ ∧ A.1 26 ρ = -1 ∧ A.1 29 τ = 0 ∧ A.1 3 7 = 0) := by
  have H' := H
  obtain ⟨h1, h2, h3, h4, h5, h6, h7, ⟨h8, h9, h10⟩, h11, h12, h13, h14, h15, h16⟩ := H
  have hm := T.m_
  have hpl := T.pl_ h2
  have hkl : K p < 127 := by have := (tkK_c _ (T.2.1 p h2).2).2.2.2.2.2; omega
  have e1n : nI (K p) = (1 : Int32) ↔ K p = 1 := nI_eq (a := K p) (b := 1) (by omega) (by omega)
  have o1 : f_X7_header fu S = f_X7_header fu S := rfl
  conv at o1 => rhs; unfold f_X7_header
  rw [h_kind T H'] at o1
  simp only [Option.bind_some] at o1
  by_cases hk : ¬ K p = 1
  · refine ⟨fun _ => ?_, fun q => absurd q hk⟩
    rw [if_neg (fun z => hk (e1n.mp z)), h_refuse T H'] at o1
    exact o1
  have hk : K p = 1 := Decidable.not_not.mp hk
  refine ⟨fun q => absurd hk q, fun _ => ?_⟩
  have hp : p < m := K_lt T.end_ h2 hk (by decide) (by decide)
  have hst := T.lt_ hp
  refine ⟨hp, ?_⟩
  have e33 : S.2.1 33 p = V p := (h1 p h2).2.2 (Or.inl hk)
  rw [if_pos (e1n.mpr hk), h3, mI_in (a := p) (n := 501) (by omega) (by omega), nI_clamp (show p < 2 ^ 31 by omega), e33] at o1
  simp only [gd_t] at o1
  rw [c_ff h15 h7 h16 hfu p] at o1
  simp only [Option.bind_some] at o1
  obtain ⟨c, hcc⟩ : ∃ c, c = fns.length := ⟨_, rfl⟩
  rw [← hcc] at h7 hc ⊢
  -- behind the note
  have key : ∀ (Sx : im_S) (f1 : Nat), (∀ a j : Nat, a ≠ 5 → Sx.1 a j = S.1 a j) → Sx.2.1 = S.2.1 → FS Sx f1 → f1 ≤ 4000 → ∃ A F P : im_S, f_X4_addFunction (V p) Sx = some (nI c, F) ∧ F.1 24 c = nI ρ ∧ F.1 3 6 = nI p ∧ f_X6_push 10 (nI c) (nI ρ) (uI (uI (uI (uI F 3 6 (nI (p + 1))) 3 5 0) 3 9 0) 34 3 0) = some ((), P) ∧ uI P 3 7 0 = A ∧ 
      Cz K pl V m A n (ρ + 1) (τ + 1) 1 0 ρ A (ex N p n) (ex M p (ρ + 1)) (ex L p (τ + 1)) (p + 1) 0 1 [] n (ρ + 1) (τ + 1) (pl (p + 1)) f1 ∧ Tp A 1 10 ρ ∧ A.1 36 0 = nI c ∧ FrF S A n ρ τ c ∧ A.1 22 3 = nI (c + 1) ∧ A.2.1 23 c = V p ∧ A.1 24 c = nI ρ ∧ A.1 25 c = -1 ∧ A.1 27 ρ = nI τ ∧ A.1 26 ρ = -1 ∧ A.1 29 τ = 0 ∧ A.1 3 7 = 0 := by
    intro Sx f1 rx rxl hFS hf1
    obtain ⟨X1, hX1⟩ : ∃ X, X = atS (uJ Sx 23 c (V p)) τ (nI 0) := ⟨_, rfl⟩
    obtain ⟨X2, hX2⟩ : ∃ X, X = arS X1 ρ (nI τ) := ⟨_, rfl⟩
    obtain ⟨F, hF⟩ : ∃ F, F = uI (uI (uI X2 24 c (nI ρ)) 25 c (-1)) 22 3 (nI (c + 1)) := ⟨_, rfl⟩
    obtain ⟨A, hA⟩ : ∃ A, A = uI (psS (uI (uI (uI (uI F 3 6 (nI (p + 1))) 3 5 0) 3 9 0) 34 3 0) 0 10 (nI c) (nI ρ)) 3 7 0 := ⟨_, rfl⟩
    have rX1 : ∀ a j : Nat, (a ≠ 28 ∨ j ≠ τ) → (a ≠ 29 ∨ j ≠ τ) → (a ≠ 22 ∨ j ≠ 9) → X1.1 a j = Sx.1 a j := fun a j u1 u2 u3 => by rw [hX1, at_ne (by omega)]; rfl
    have rX2 : ∀ a j : Nat, (a ≠ 26 ∨ j ≠ ρ) → (a ≠ 27 ∨ j ≠ ρ) → (a ≠ 22 ∨ j ≠ 6) → X2.1 a j = X1.1 a j := fun a j u1 u2 u3 => by rw [hX2, rg_ne (by omega)]
    have rF : ∀ a j : Nat, (a ≠ 24 ∨ j ≠ c) → (a ≠ 25 ∨ j ≠ c) → (a ≠ 22 ∨ j ≠ 3) → F.1 a j = X2.1 a j := fun a j u1 u2 u3 => by rw [hF, uI_ne (by omega), uI_ne (by omega), uI_ne (by omega)]
    have rA : ∀ a j : Nat, (a ≠ 3 ∨ (j ≠ 6 ∧ j ≠ 5 ∧ j ≠ 9 ∧ j ≠ 7)) → (a ≠ 34 ∨ j ≠ 3) → (a < 35 ∨ 37 < a ∨ j ≠ 0) → A.1 a j = F.1 a j := fun a j u1 u2 u3 => by rw [hA, uI_ne (by omega), ps_ne (by omega), uI_ne (by omega), uI_ne (by omega), uI_ne (by omega), uI_ne (by omega)]
    have rAl : A.2.1 = (uJ Sx 23 c (V p)).2.1 := by rw [hA, hF, hX2, hX1]; rfl
    obtain ⟨q35, q36, q37, q34⟩ := ps_f (uI (uI (uI (uI F 3 6 (nI (p + 1))) 3 5 0) 3 9 0) 34 3 0) 0 10 (nI c) (nI ρ)
    have hsmall : ∀ a j : Nat, a ≠ 3 → a ≠ 5 → a ≠ 34 → (a < 35 ∨ 37 < a) → a ≠ 22 → (a ≠ 24 ∨ j ≠ c) → (a ≠ 25 ∨ j ≠ c) → (a ≠ 26 ∨ j ≠ ρ) → (a ≠ 27 ∨ j ≠ ρ) → (a ≠ 28 ∨ j ≠ τ) → (a ≠ 29 ∨ j ≠ τ) → A.1 a j = S.1 a j := fun a j u0 u1 u2 u3 u4 u5 u6 u7 u8 u9 u10 => by
      rw [rA a j (by omega) (by omega) (by omega), rF a j (by omega) (by omega) (by omega), rX2 a j (by omega) (by omega) (by omega), rX1 a j (by omega) (by omega) (by omega), rx a j u1]
    have a22 : A.1 22 6 = nI (ρ + 1) ∧ A.1 22 9 = nI (τ + 1) ∧ A.1 22 3 = nI (c + 1) := by
      refine ⟨?_, ?_, ?_⟩
      · rw [rA 22 6 (by omega) (by omega) (by omega), rF 22 6 (by omega) (by omega) (by omega), hX2]; exact (rg_f X1 ρ (nI τ)).2.2
      · rw [rA 22 9 (by omega) (by omega) (by omega), rF 22 9 (by omega) (by omega) (by omega), rX2 22 9 (by omega) (by omega) (by omega), hX1]; exact (at_f _ τ (nI 0)).2.2
      · rw [rA 22 3 (by omega) (by omega) (by omega), hF, uI_eq]
    have sx6 : Sx.1 22 6 = nI ρ := by rw [rx 22 6 (by omega)]; exact h5
    have sx9 : Sx.1 22 9 = nI τ := by rw [rx 22 9 (by omega)]; exact h6
    have sx3 : Sx.1 22 3 = nI c := by rw [rx 22 3 (by omega)]; exact h7
    have F24 : F.1 24 c = nI ρ := by rw [hF, uI_ne (by omega), uI_ne (by omega), uI_eq]
    have F36 : F.1 3 6 = nI p := by rw [rF 3 6 (by omega) (by omega) (by omega), rX2 3 6 (by omega) (by omega) (by omega), rX1 3 6 (by omega) (by omega) (by omega), rx 3 6 (by omega)]; exact h3
    refine ⟨A, F, psS (uI (uI (uI (uI F 3 6 (nI (p + 1))) 3 5 0) 3 9 0) 34 3 0) 0 10 (nI c) (nI ρ), ?_, F24, F36, ?_, hA.symm, ⟨⟨?_, by omega, ?_, ?_, ?_, ?_, trivial, ?_, a22.1, a22.2.1, by omega, by omega, by show 0 ≤ p + 1; omega, by omega, by omega⟩, (Gh_ex h11 (Nat.le_refl _) (Nat.le_succ _) (Nat.le_succ _)).1, ?_, ?_, hf1, Fr_refl _ _ _ _ _ _ _⟩, ⟨by omega, ?_, by omega, ?_⟩, ?_, ⟨fun a k u1 u2 u3 => ?_, fun k u => ?_, fun r u => ⟨?_, ?_⟩, fun t u => ?_, fun i u => ⟨?_, ?_, ?_⟩⟩, a22.2.2, ?_, ?_, ?_, ?_, ?_, ?_, ?_⟩
    · unfold f_X4_addFunction
      rw [sx3, mI_in (a := c) (n := 8) (by omega) (by omega), nI_clamp (show c < 2 ^ 31 by omega)]
      simp only [gd_t]
      rw [show (0 : Int32) = nI 0 from rfl, c_addT (S := uJ Sx 23 c (V p)) sx9 (by omega), ← hX1]
      simp only [Option.bind_some]
      rw [c_addR (S := X1) (by rw [rX1 22 6 (by omega) (by omega) (by omega)]; exact sx6) (by omega), ← hX2]
      have x3 : X2.1 22 3 = nI c := by rw [rX2 22 3 (by omega) (by omega) (by omega), rX1 22 3 (by omega) (by omega) (by omega)]; exact sx3
      simp only [Option.bind_some, x3, mI_in (a := c) (n := 8) (by omega) (by omega), nI_clamp (show c < 2 ^ 31 by omega), gd_t]
      rw [show nI c + 1 = nI (c + 1) from nI_add c 1, ← hF, show nI (c + 1) - 1 = nI c by rw [show (1 : Int32) = nI 1 from rfl, nI_sub (by omega), Nat.add_sub_cancel]]
    · rw [c_push (sz := 0) (by rw [uI_eq]; rfl) (by omega)]
    · intro j hj
      obtain ⟨t1, t2, t3⟩ := h1 j hj
      refine ⟨?_, ?_, fun z => ?_⟩
      · rw [hsmall 31 j (by omega) (by omega) (by omega) (by omega) (by omega) (by omega) (by omega) (by omega) (by omega) (by omega) (by omega)]; exact t1
      · rw [hsmall 32 j (by omega) (by omega) (by omega) (by omega) (by omega) (by omega) (by omega) (by omega) (by omega) (by omega) (by omega)]; exact t2
      · rw [rAl, uJ_ne (by omega), rxl]; exact t3 z
    · rw [hA, uI_ne (by omega), ps_ne (by omega), uI_ne (by omega), uI_ne (by omega), uI_ne (by omega), uI_eq]
    · rw [hA, uI_ne (by omega), ps_ne (by omega), uI_ne (by omega), uI_eq]; rfl
    · rw [hA, uI_ne (by omega)]; exact q34
    · rw [hA, uI_ne (by omega), ps_ne (by omega), uI_ne (by omega), uI_ne (by omega), uI_eq]; rfl
    · rw [hsmall 6 16 (by omega) (by omega) (by omega) (by omega) (by omega) (by omega) (by omega) (by omega) (by omega) (by omega) (by omega)]; exact h4
    · have s1 : SI (uJ Sx 23 c (V p)) n ρ τ (pl p) := SI_cp h12 (Nat.le_refl _) (fun t _ => rx 28 t (by omega)) (fun r _ => rx 27 r (by omega)) (fun t _ => rx 29 t (by omega)) (fun a k u _ => rx a k (by omega))
      have s2 : SI X1 n ρ (τ + 1) (pl p) := by rw [hX1]; exact SI_at s1 (by omega)
      have s3 : SI X2 n (ρ + 1) (τ + 1) (pl p) := by rw [hX2]; exact SI_ar s2 (by omega)
      refine SI_cp s3 (show pl p ≤ pl (p + 1) by omega) (fun t _ => ?_) (fun r _ => ?_) (fun t _ => ?_) (fun a k u _ => ?_)
      · rw [rA 28 t (by omega) (by omega) (by omega), rF 28 t (by omega) (by omega) (by omega)]
      · rw [rA 27 r (by omega) (by omega) (by omega), rF 27 r (by omega) (by omega) (by omega)]
      · rw [rA 29 t (by omega) (by omega) (by omega), rF 29 t (by omega) (by omega) (by omega)]
      · rw [rA a k (by omega) (by omega) (by omega), rF a k (by omega) (by omega) (by omega)]
    · unfold FS
      rw [rA 5 0 (by omega) (by omega) (by omega), rF 5 0 (by omega) (by omega) (by omega), rX2 5 0 (by omega) (by omega) (by omega), rX1 5 0 (by omega) (by omega) (by omega), rA 5 1 (by omega) (by omega) (by omega), rF 5 1 (by omega) (by omega) (by omega), rX2 5 1 (by omega) (by omega) (by omega), rX1 5 1 (by omega) (by omega) (by omega)]
      exact hFS
    · show A.1 35 0 = nI 10; rw [hA, uI_ne (by omega)]; exact q35
    · show A.1 37 0 = nI ρ; rw [hA, uI_ne (by omega)]; exact q37
    · rw [hA, uI_ne (by omega)]; exact q36
    · exact hsmall a k (by omega) (by omega) (by omega) (by omega) (by omega) (by omega) (by omega) (by omega) (by omega) (by omega) (by omega)
    · rw [rAl, uJ_ne (by omega), rxl]
    · exact hsmall 27 r (by omega) (by omega) (by omega) (by omega) (by omega) (by omega) (by omega) (by omega) (by omega) (by omega) (by omega)
    · exact hsmall 26 r (by omega) (by omega) (by omega) (by omega) (by omega) (by omega) (by omega) (by omega) (by omega) (by omega) (by omega)
    · exact hsmall 29 t (by omega) (by omega) (by omega) (by omega) (by omega) (by omega) (by omega) (by omega) (by omega) (by omega) (by omega)
    · exact hsmall 24 i (by omega) (by omega) (by omega) (by omega) (by omega) (by omega) (by omega) (by omega) (by omega) (by omega) (by omega)
    · exact hsmall 25 i (by omega) (by omega) (by omega) (by omega) (by omega) (by omega) (by omega) (by omega) (by omega) (by omega) (by omega)
    · rw [rAl, uJ_ne (by omega), rxl]
    · rw [rAl, uJ_eq]
    · rw [rA 24 c (by omega) (by omega) (by omega)]; exact F24
    · rw [rA 25 c (by omega) (by omega) (by omega), hF, uI_ne (by omega), uI_eq]
    · rw [rA 27 ρ (by omega) (by omega) (by omega), rF 27 ρ (by omega) (by omega) (by omega), hX2]; exact (rg_f X1 ρ (nI τ)).2.1
    · rw [rA 26 ρ (by omega) (by omega) (by omega), rF 26 ρ (by omega) (by omega) (by omega), hX2]; exact (rg_f X1 ρ (nI τ)).1
    · rw [rA 29 τ (by omega) (by omega) (by omega), rF 29 τ (by omega) (by omega) (by omega), rX2 29 τ (by omega) (by omega) (by omega), hX1]; exact (at_f _ τ (nI 0)).2.1
    · rw [hA, uI_eq]
  have hcs : idx V fns p = none ∨ ∃ k, idx V fns p = some k := by
    cases idx V fns p with
    | none => exact Or.inl rfl
    | some k => exact Or.inr ⟨k, rfl⟩
  have hii := idx_fnd (V := V) fns p
  rcases hcs with hfd | ⟨k, hfd⟩
  · rw [hfd] at o1 hii
    simp only [] at o1
    rw [if_pos trivial] at o1
    have hff : min f (ffd pl V fns p) = f := by unfold ffd; rw [← hii]; exact Nat.min_eq_left h14
    obtain ⟨A, F, P, k1, k2, k3, k4, k5, kk⟩ := key S f (fun _ _ _ => rfl) rfl h13 h14
    rw [hff]
    refine ⟨A, ?_, kk⟩
    rw [k1] at o1
    simp only [Option.bind_some, mI_in (a := c) (n := 8) (by omega) (by omega), nI_clamp (show c < 2 ^ 31 by omega), gd_t, k2, k3] at o1
    rw [show nI p + 1 = nI (p + 1) from nI_add p 1, k4] at o1
    simp only [Option.bind_some] at o1
    rw [k5] at o1
    exact o1
  · rw [hfd] at o1 hii
    simp only [] at o1
    have hkl := idx_lt fns p k hfd
    rw [if_neg (nI_m1 (show k < 2 ^ 31 by omega)), h_place T H'] at o1
    simp only [Option.bind_some, c_note] at o1
    have hff : min f (ffd pl V fns p) = min f (4 * pl p + 2) := by unfold ffd; rw [← hii]; rfl
    obtain ⟨A, F, P, k1, k2, k3, k4, k5, kk⟩ := key (ntS S 2 (nI (pl p))) (min f (4 * pl p + 2)) (fun a j h => nt_ne S _ _ h) (nt_21 S _ _) (nt_fs (k := 2) h13 (by omega) (by omega) hpl) (by omega)
    rw [hff]
    refine ⟨A, ?_, kk⟩
    rw [k1] at o1
    simp only [Option.bind_some, mI_in (a := c) (n := 8) (by omega) (by omega), nI_clamp (show c < 2 ^ 31 by omega), gd_t, k2, k3] at o1
    rw [show nI p + 1 = nI (p + 1) from nI_add p 1, k4] at o1
    simp only [Option.bind_some] at o1
    rw [k5] at o1
    exact o1
end CHD
