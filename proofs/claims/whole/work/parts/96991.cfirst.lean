/-! the class's parser: the names of a loop and their first values -/
theorem fnd_some_iff {V : Nat → Int64} : ∀ (l : List Nat) (p : Nat), (fnd V l p).isSome = true ↔ ∃ b, b ∈ l ∧ V b = V p := by
  intro l
  induction l with
  | nil => intro p; exact ⟨fun h => absurd (show false = true from h) (by decide), fun ⟨b, h, _⟩ => absurd h List.not_mem_nil⟩
  | cons c l ih =>
    intro p
    unfold fnd
    by_cases h : V c = V p
    · rw [if_pos h]
      exact ⟨fun _ => ⟨c, List.mem_cons_self .., h⟩, fun _ => rfl⟩
    · rw [if_neg h, ih]
      refine ⟨fun ⟨b, h1, h2⟩ => ⟨b, List.mem_cons_of_mem _ h1, h2⟩, fun ⟨b, h1, h2⟩ => ?_⟩
      rcases List.mem_cons.mp h1 with e | e
      · exact absurd (e ▸ h2) h
      · exact ⟨b, e, h2⟩
theorem fnd_rev {V : Nat → Int64} (l : List Nat) (p : Nat) : (fnd V l.reverse p).isSome = (fnd V l p).isSome := by
  have h := (fnd_some_iff (V := V) l.reverse p).trans (Iff.trans ⟨fun ⟨b, h1, h2⟩ => ⟨b, List.mem_reverse.mp h1, h2⟩, fun ⟨b, h1, h2⟩ => ⟨b, List.mem_reverse.mpr h1, h2⟩⟩ (fnd_some_iff (V := V) l p).symm)
  rcases h1 : (fnd V l.reverse p).isSome with _ | _
  · rcases h2 : (fnd V l p).isSome with _ | _
    · rfl
    · exact absurd (h.mpr h2) (by rw [h1]; decide)
  · exact (h.mp h1).symm
/-- a variable of a loop -/
def VI (V : Nat → Int64) (S : im_S) (N : Nat → Nat) (n n1 b : Nat) : Prop := n < N b ∧ N b < n1 ∧ N b < N (b + 1) ∧ S.1 7 (N b) = 3 ∧ S.1 8 (N b) = nI (tvV (V b)) ∧ S.2.1 21 (N b) = V b ∧ S.1 10 (N b) = nI n ∧ S.1 13 (N b) = -1 ∧ ∃ kv : Nat, S.1 12 (N b) = nI kv ∧ n < kv ∧ kv < n1
theorem VI_cp {V : Nat → Int64} {S S' : im_S} {N N' : Nat → Nat} {n n1 n' b : Nat} (h : VI V S N n n1 b) (hn : n1 ≤ n') (hN : N' b = N b ∧ N' (b + 1) = N (b + 1)) (hr : ∀ a : Nat, (a = 7 ∨ a = 8 ∨ a = 10 ∨ a = 12 ∨ a = 13) → S'.1 a (N b) = S.1 a (N b)) (hl : S'.2.1 21 (N b) = S.2.1 21 (N b)) : VI V S' N' n n' b := by
  obtain ⟨h1, h2, h3, h4, h5, h6, h7, h8, kv, h9, h10, h11⟩ := h
  unfold VI
  rw [hN.1, hN.2]
  exact ⟨h1, by omega, h3, by rw [hr 7 (by omega)]; exact h4, by rw [hr 8 (by omega)]; exact h5, by rw [hl]; exact h6, by rw [hr 10 (by omega)]; exact h7, by rw [hr 13 (by omega)]; exact h8, kv, by rw [hr 12 (by omega)]; exact h9, h10, by omega⟩
/-- what follows the first values -/
def wtl (fu : Nat) (D : im_S) : Option (Int32 × im_S) := (f_X7_take 10 D).bind (fun qS11 => if (qS11.1 : Int32) = 0 then (some (0, qS11.2)) else ((f_X7_openWhilePart fu qS11.2).bind (fun qS15 => if (qS15.1 : Int32) = 0 then (some (0, qS15.2)) else (some (1, qS15.2)))))
def Wc (m : Nat) (fu b : Nat) (X : Option (Int32 × im_S)) (Q : Int32 → im_S → Prop) : Prop := ∃ (r : Int32) (S1 : im_S) (pos1 : Nat), X = some (r, S1) ∧ ((r = 0 ∧ Q 0 S1) ∨ (r = 1 ∧ b < pos1 ∧ pos1 ≤ m ∧ Lp m fu pos1 S1 Q))
section CFI
variable {K pl : Nat → Nat} {V : Nat → Int64} {m fu : Nat} {Q : Int32 → im_S → Prop} {S : im_S} {N M L : Nat → Nat} {pos dep sz n ρ τ f k R : Nat} {γ : List Nat}
/-- a list of first values is read up to its end -/
def PF (K pl : Nat → Nat) (V : Nat → Int64) (m : Nat) (S : im_S) (pos dep sz : Nat) (γ : List Nat) (n ρ τ R : Nat) (S1 : im_S) (N1 M1 L1 : Nat → Nat) (n1 ρ1 τ1 f1 p a0 k0 : Nat) (l : List Nat) (S' : im_S) (N' M' L' : Nat → Nat) (n' ρ' τ' e : Nat) (r : TR) : Prop :=
  Cz K pl V m S n ρ τ sz γ.length R S' N' M' L' e dep sz γ n' ρ' τ' (pl e) (min f1 (pfc K pl V r γ 102 l.reverse [])) ∧ Ag N1 M1 L1 N' M' L' p ∧ S'.1 3 10 = nI n ∧ Fy S1 S' n n1 ρ1 τ1 R a0 k0 ∧ S'.1 a0 k0 = hdV N' r ∧ Chn S' (S'.1 12 n) ((l ++ tks r).map N') ∧ (l ++ tks r).length ≤ 4 ∧ (∀ b, b ∈ l ++ tks r → VI V S' N' n n' b ∧ b < e) ∧ (4000 ≤ pfc K pl V r γ 102 l.reverse [] → G K pl V S' N' M' L' r γ R 102 pos .nil []) ∧ Seg S' N' (S'.1 26 R) (lvs r) (S1.1 26 R) ∧ n1 ≤ n' ∧ ρ1 ≤ ρ' ∧ τ1 ≤ τ' ∧ CI K pl V S' N' p e pos (cls r) ∧ p < e
theorem G_fi (S : im_S) (N M L : Nat → Nat) (p : Nat) (x r o : TR) (c : Nat) : G K pl V S N M L (.append (.tag p x) r) γ R 102 c o [] = (vr V S N p ∧ N (rtk x) < N (rtk x + 1) ∧ S.1 10 (N p) = nI (N c) ∧ S.1 12 (N p) = nI (N (rtk x)) ∧ S.1 14 (N p) = hdV N r ∧ S.1 10 (N (rtk x)) = nI (N c) ∧ S.1 11 (N (rtk x)) = nI (N p) ∧ (if (fnd V (tks o) p).isSome then S.1 13 (N p) = nI (N c) ∧ S.1 9 (N (rtk x)) = 5 ∧ S.1 17 (N p) = nI (L c) else S.1 13 (N p) = -1 ∧ S.1 9 (N (rtk x)) = 4 ∧ S.1 17 (N p) = S.1 27 R) ∧ G K pl V S N M L x γ R 0 0 .nil [] ∧ G K pl V S N M L r γ R 102 c o []) := rfl
def fdup (pl : Nat → Nat) (V : Nat → Int64) (pre γ : List Nat) (p : Nat) : Nat := if (fnd V pre p).isSome ∨ (fnd V γ p).isSome then 4 * pl p + 2 else 4000
theorem pfc_fi (p : Nat) (x r : TR) (pre : List Nat) : pfc K pl V (.append (.tag p x) r) γ 102 pre [] = min (fdup pl V pre γ p) (min (pfc K pl V x γ 0 [] []) (min (ckX K pl V x (tvV (V p))) (pfc K pl V r γ 102 (p :: pre) []))) := rfl
theorem Tp_mem {l : List Nat} {a0 k0 : Nat} {N1 : Nat → Nat} {n1 : Nat} (hsl : Slt (l.map N1) n a0 k0) (hl : ∀ b, b ∈ l → n < N1 b ∧ N1 b < n1) (hn : n < n1) : n ≤ k0 ∧ k0 < n1 ∧ ((a0 = 12 ∧ k0 = n) ∨ (a0 = 14 ∧ n < k0)) := by
  rcases hsl with ⟨-, q1, q2⟩ | ⟨l', q1, q2⟩
  · exact ⟨by omega, by omega, Or.inl ⟨q1, q2⟩⟩
  · have hm : k0 ∈ l.map N1 := by rw [q1]; exact List.mem_append_right _ (List.mem_singleton.mpr rfl)
    obtain ⟨b, hb, e⟩ := List.mem_map.mp hm
    have := hl b hb
    exact ⟨by omega, by omega, Or.inr ⟨q2, by omega⟩⟩
set_option maxHeartbeats 8000000 in
theorem c_firstO (T : TH K pl V m) (hfu : 600 ≤ fu) (hR : R < ρ) (hTp : Tp S sz k R) {p na : Nat} {S1 : im_S} {N1 M1 L1 : Nat → Nat} {n1 ρ1 τ1 f1 a0 k0 : Nat} {l : List Nat} (hpp : pos < p) (C1 : Cz K pl V m S n ρ τ sz γ.length R S1 N1 M1 L1 p dep sz γ n1 ρ1 τ1 (pl p) f1) (hlo : S1.1 3 10 = nI n) (hnn : n < n1) (hρ1 : ρ ≤ ρ1) (hτ1 : τ ≤ τ1) (hch : Chn S1 (S1.1 12 n) (l.map N1)) (hlen : l.length = na) (hna : na ≤ 4) (hlm : ∀ b, b ∈ l → VI V S1 N1 n n1 b ∧ b < p) (hpw : (l.map N1).Pairwise (· < ·)) (hsl : Slt (l.map N1) n a0 k0) :
    ((na = 4 ∨ K p ≠ 1) → dueF fu 3 S1 = some (0, rcS S1 (pl p))) ∧ (na ≠ 4 → K p = 1 → K (p + 1) ≠ 61 → ∃ Z : im_S, dueF fu 3 S1 = some (0, rcS Z (pl (p + 1)))) ∧
    (na ≠ 4 → K p = 1 → K (p + 1) = 61 → p + 1 < m ∧ ∃ (A : im_S) (N2 M2 L2 : Nat → Nat), dueF fu 3 S1 = some (1, A) ∧ Cz K pl V m S n ρ τ sz γ.length R A N2 M2 L2 (p + 2) dep (sz + 1) γ (n1 + 1) ρ1 τ1 (pl (p + 2)) (min f1 (fdup pl V l.reverse γ p)) ∧ Ag N1 M1 L1 N2 M2 L2 p ∧ N2 p = n1 ∧ N2 (p + 1) = n1 + 1 ∧ A.1 3 7 = 0 ∧ A.1 35 sz = nI 19 ∧ A.1 36 sz = nI n1 ∧ A.1 37 sz = nI R ∧ Fy S1 A n n1 ρ1 τ1 R a0 k0 ∧ A.1 a0 k0 = nI n1 ∧ (A.1 7 n1 = 3 ∧ A.1 8 n1 = nI (tvV (V p)) ∧ A.2.1 21 n1 = V p ∧ A.1 17 n1 = A.1 27 R ∧ A.1 10 n1 = nI n ∧ A.1 13 n1 = -1 ∧ A.1 14 n1 = -1) ∧ A.1 26 R = S1.1 26 R ∧ A.1 27 R = S1.1 27 R ∧ Chn A (A.1 12 n) ((l.map N1) ++ [n1]) ∧ ((l.map N1) ++ [n1]).Pairwise (· < ·)) := by
  have hm := T.m_
  have hbd := C1.1.bd
  have hpm := C1.1.pm
  have hTp1 : Tp S1 sz k R := Tp_Fr C1.2.2.2.2.2 hTp
  have hplp := T.pl_ hpm
  obtain ⟨hk01, hk02, hk03⟩ := Tp_mem hsl (fun b hb => ⟨(hlm b hb).1.1, (hlm b hb).1.2.1⟩) hnn
  have hin : in_b (nI p) 501 = true := mI_in (by omega) (by omega)
  have hclp : (nI p).toNatClampNeg = p := nI_clamp (by omega)
  have e1n : nI (K p) = (1 : Int32) ↔ K p = 1 := nI_eq (a := K p) (b := 1) (by have := (tkK_c _ (T.2.1 p hpm).2).2.2.2.2.2; omega) (by omega)
  have e4n : nI na = (4 : Int32) ↔ na = 4 := nI_eq (a := na) (b := 4) (by omega) (by omega)
  have o1 : dueF fu 3 S1 = f_X7_openFirstValue fu S1 := rfl
  unfold f_X7_openFirstValue at o1
  rw [hlo, mI_in (a := n) (n := 512) (by omega) (by omega), nI_clamp (show n < 2 ^ 31 by omega)] at o1
  simp only [gd_t] at o1
  rw [c_kind T C1.1] at o1
  simp only [Option.bind_some] at o1
  have hlenN : (l.map N1).length = na := by rw [List.length_map]; exact hlen
  by_cases h1 : ¬ K p = 1
  · refine ⟨fun _ => ?_, fun _ q => absurd q h1, fun _ q => absurd q h1⟩
    rw [if_pos (fun z => h1 (e1n.mp z)), c_refuse T C1.1] at o1
    exact o1
  have h1 : K p = 1 := Decidable.not_not.mp h1
  rw [if_neg (fun z => z (e1n.mpr h1)), c_len hch (by omega) hfu, hlenN] at o1
  simp only [Option.bind_some] at o1
  by_cases h4 : na = 4
  · refine ⟨fun _ => ?_, fun q => absurd h4 q, fun q => absurd h4 q⟩
    rw [if_neg (fun z => z (e4n.mpr h4)), c_refuse T C1.1] at o1
    exact o1
  refine ⟨fun q => absurd q (by omega), ?_⟩
  rw [if_pos (fun z => h4 (e4n.mp z))] at o1
  have hp : p < m := K_lt T.end_ hpm h1 (by decide) (by decide)
  have hst := T.lt_ hp
  have e33 : S1.2.1 33 p = V p := (C1.1.ct p hpm).2.2 (Or.inl h1)
  simp only [C1.1.at_, hin, hclp, gd_t, e33] at o1
  have hfic := c_fic (fu := fu) (V := V) hch (fun b hb => (hlm b hb).1.2.2.2.2.2.1) (by omega) hfu p
  rw [hfic] at o1
  simp only [Option.bind_some] at o1
  obtain ⟨A0, hA0⟩ : ∃ A0, A0 = if (fnd V l p).isSome then ntS S1 2 (nI (pl p)) else S1 := ⟨_, rfl⟩
  obtain ⟨f0, hf0⟩ : ∃ f0, eqN f0 (if (fnd V l p).isSome then min f1 (4 * pl p + 2) else f1) := ⟨_, eqN_r _⟩
  have CA0 : Cz K pl V m S n ρ τ sz γ.length R A0 N1 M1 L1 p dep sz γ n1 ρ1 τ1 (pl p) f0 := by
    rw [hA0, show f0 = _ from hf0]
    by_cases hv : (fnd V l p).isSome
    · rw [if_pos hv, if_pos hv]; exact Cz_nt (k := 2) C1 (by omega) (by omega) (by omega)
    · rw [if_neg hv, if_neg hv]; exact C1
  have rA0 : ∀ a j : Nat, a ≠ 5 → A0.1 a j = S1.1 a j := fun a j u1 => by
    rw [hA0]
    by_cases hv : (fnd V l p).isSome
    · rw [if_pos hv, nt_ne _ _ _ u1]
    · rw [if_neg hv]
  have rA0l : A0.2.1 = S1.2.1 := by
    rw [hA0]
    by_cases hv : (fnd V l p).isSome
    · rw [if_pos hv, nt_21]
    · rw [if_neg hv]
  have hTp0 : Tp A0 sz k R := Tp_Fr CA0.2.2.2.2.2 hTp
  obtain ⟨A1, a1, CA1, nd1, fz, rd, rd2, fx⟩ := c_bind T CA0 hTp0 (show R < ρ1 by omega) (Or.inl rfl) (by omega) (by omega) hfu hp h1
  have en : ex N1 p (n1 + 1) p = n1 := by rw [ex_le (Nat.le_refl _)]; exact C1.2.1.1
  obtain ⟨b0, b1, b2, b3, b4, b5⟩ := nd1
  rw [en] at b1 b2 b3 b4 b5
  obtain ⟨A2, hA2⟩ : ∃ A2, A2 = uI A1 10 n1 (nI n) := ⟨_, rfl⟩
  have rA2 : ∀ a j : Nat, (a ≠ 3 ∨ j ≠ 6) → (a ≠ 6 ∨ j ≠ 16) → (j ≠ n1 ∨ a < 7 ∨ 20 < a) → a ≠ 28 → a ≠ 5 → A2.1 a j = S1.1 a j := fun a j u1 u2 u3 u4 u5 => by
    rw [hA2, uI_ne (by omega), rd a j u1 u2 u3 u4 u5, rA0 a j u5]
  have A2n : ∀ a : Nat, a ≠ 10 → A2.1 a n1 = A1.1 a n1 := fun a u => by rw [hA2, uI_ne (by omega)]
  have ch2 : Chn A2 (A2.1 12 n) (l.map N1) := by
    rw [rA2 12 n (by omega) (by omega) (by omega) (by omega) (by omega)]
    refine Chn_cp _ _ (fun j hj => ?_) hch
    obtain ⟨b, hb, e⟩ := List.mem_map.mp hj
    have := (hlm b hb).1.2.1
    exact rA2 14 j (by omega) (by omega) (by omega) (by omega) (by omega)
  obtain ⟨v, D0, d1, d2, d3, d4, d5, d6, d7⟩ := c_slot (fu := fu) (kx := n1) ch2 hsl hpw (by omega) hfu (by omega) (by rw [A2n 14 (by omega)]; exact fz.2.2.2.2.2.1) (fun j hj => by
    obtain ⟨b, hb, e⟩ := List.mem_map.mp hj
    have := (hlm b hb).1.2.1
    omega)
  obtain ⟨A3, hA3⟩ : ∃ A3, A3 = uI A2 a0 k0 (nI n1) := ⟨_, rfl⟩
  rw [← hA3] at d2 d3 d6
  have CA3 : Cz K pl V m S n ρ τ sz γ.length R A3 (ex N1 p (n1 + 1)) (ex M1 p ρ1) (ex L1 p τ1) (p + 1) dep sz γ (n1 + 1) ρ1 τ1 (pl (p + 1)) (min f0 (kb pl V γ p)) := by
    rw [hA3, hA2]
    exact Cz_nd (Cz_nd (Cz_B CA1 (show pl p + 1 ≤ pl (p + 1) by omega)) (by omega) (by omega)) (by omega) (by omega)
  have o2 : dueF fu 3 S1 = ((f_X7_take 61 A3).bind (fun qS22 => if (qS22.1 : Int32) = 0 then (some (0, qS22.2)) else ((f_X6_topRegion qS22.2).bind (fun qS26 => (f_X7_open 19 (nI n1) qS26.1 qS26.2).bind (fun qS29 => if (qS29.1 : Int32) = 0 then (some (0, qS29.2)) else (some (1, qS29.2))))))) := by
    have q10 : A1.1 3 10 = nI n := by rw [rd 3 10 (by omega) (by omega) (by omega) (by omega) (by omega), rA0 3 10 (by omega)]; exact hlo
    have e12 : A1.1 12 n = A2.1 12 n := by rw [hA2, uI_ne (by omega)]
    rcases hfd : fnd V l p with _ | b
    · rw [hfd] at o1 hA0
      have hA0 : A0 = S1 := hA0
      simp only [] at o1
      have a1' := a1
      rw [hA0] at a1'
      rw [if_pos trivial, a1'] at o1
      simp only [Option.bind_some, q10, mI_in (a := n1) (n := 512) (by omega) (by omega), nI_clamp (show n1 < 2 ^ 31 by omega), mI_in (a := n) (n := 512) (by omega) (by omega), nI_clamp (show n < 2 ^ 31 by omega), gd_t] at o1
      rw [e12, ← hA2, d1] at o1
      simp only [Option.bind_some] at o1
      rw [d2] at o1
      exact o1
    · rw [hfd] at o1 hA0
      have hA0 : A0 = ntS S1 2 (nI (pl p)) := hA0
      have hbm := (hlm b (fnd_in l p b hfd)).1.2.1
      simp only [] at o1
      rw [if_neg (nI_m1' (show N1 b < 512 by omega)), c_place T C1.1] at o1
      simp only [Option.bind_some, c_note] at o1
      have a1' := a1
      rw [hA0] at a1'
      rw [a1'] at o1
      simp only [Option.bind_some, q10, mI_in (a := n1) (n := 512) (by omega) (by omega), nI_clamp (show n1 < 2 ^ 31 by omega), mI_in (a := n) (n := 512) (by omega) (by omega), nI_clamp (show n < 2 ^ 31 by omega), gd_t] at o1
      rw [e12, ← hA2, d1] at o1
      simp only [Option.bind_some] at o1
      rw [d2] at o1
      exact o1
  rw [show (61 : Int32) = nI 61 from rfl, c_take T CA3.1 61 (by omega)] at o2
  by_cases h61 : ¬ K (p + 1) = 61
  · refine ⟨fun _ _ _ => ⟨A3, ?_⟩, fun _ _ q => absurd q h61⟩
    rw [if_neg h61] at o2
    exact o2
  have h61 : K (p + 1) = 61 := Decidable.not_not.mp h61
  refine ⟨fun _ _ q => absurd h61 q, fun _ _ _ => ?_⟩
  rw [if_pos h61] at o2
  simp only [Option.bind_some] at o2
  rw [if_neg (show ¬ (1 : Int32) = 0 by decide)] at o2
  have hp1 : p + 1 < m := K_lt T.end_ (by omega) h61 (by decide) (by decide)
  have hst1 : pl (p + 1) + 1 ≤ pl (p + 2) := T.lt_ hp1
  have CA4 := Cz_B (B' := pl (p + 2)) (Cz_ad T CA3 hp1) (by omega)
  obtain ⟨sz', hsz'⟩ : ∃ z, sz = z + 1 := ⟨sz - 1, by have := hTp.1; omega⟩
  have hTp4 : Tp (ad6 A3 (p + 1 + 1)) sz k R := Tp_Fr CA4.2.2.2.2.2 hTp
  obtain ⟨A, hA⟩ : ∃ A, A = uI (psS (ad6 A3 (p + 1 + 1)) sz 19 (nI n1) (nI R)) 3 7 0 := ⟨_, rfl⟩
  have hop : dueF fu 3 S1 = some (1, A) := by
    have q37 : (ad6 A3 (p + 1 + 1)).1 37 sz' = nI R := by
      have := hTp4.2.2.2
      rw [hsz', Nat.add_sub_cancel] at this
      exact this
    rw [o2, c_topR (sz := sz') (by rw [← hsz']; exact CA4.1.sz_) (by omega), q37]
    simp only [Option.bind_some]
    unfold f_X7_open
    rw [c_push CA4.1.sz_ (by omega)]
    simp only [Option.bind_some]
    rw [if_neg (show ¬ (1 : Int32) = 0 by decide), hA]
  have rA : ∀ a j : Nat, a ≠ 3 → (a < 34 ∨ 37 < a) → A.1 a j = A3.1 a j := fun a j u1 u2 => by
    rw [hA]; unfold ad6; rw [uI_ne (by omega), ps_ne (by omega), uI_ne (by omega)]
  have rAl : A.2.1 = A1.2.1 := by rw [hA, hA3, hA2]; rfl
  have CA := Cz_3 (j := 7) (v := 0) (Cz_push CA4 19 (nI n1) (nI R) (by omega) (Nat.le_refl _)) (by omega)
  rw [← hA] at CA
  have hff : min f0 (kb pl V γ p) = min f1 (fdup pl V l.reverse γ p) := by
    unfold fdup
    rw [fnd_rev, show f0 = _ from hf0]
    unfold kb
    have hf := C1.2.2.2.2.1
    by_cases hv : (fnd V l p).isSome
    · rw [if_pos hv, if_pos (Or.inl hv)]
      split <;> omega
    · rw [if_neg hv]
      by_cases hg : (fnd V γ p).isSome
      · rw [if_pos hg, if_pos (Or.inr hg)]
      · rw [if_neg hg, if_neg (fun z => z.elim hv hg)]
  rw [hff] at CA
  have A3n : ∀ a : Nat, a ≠ 10 → A3.1 a n1 = A1.1 a n1 := fun a u => by rw [hA3, uI_ne (by omega), A2n a u]
  obtain ⟨q35, q36, q37, -⟩ := ps_f (ad6 A3 (p + 1 + 1)) sz 19 (nI n1) (nI R)
  refine ⟨hp1, A, _, _, _, hop, CA, ?_, ?_, ?_, by rw [hA, uI_eq], by rw [hA, uI_ne (by omega)]; exact q35, by rw [hA, uI_ne (by omega)]; exact q36, by rw [hA, uI_ne (by omega)]; exact q37, ⟨fun a k' u1 u2 u0 u3 u4 => ?_, fun k' u0 u3 => ?_, fun r hr' => ⟨?_, fun hne => ?_⟩, fun t ht => ?_⟩, ?_, ⟨?_, ?_, ?_, ?_, ?_, ?_, ?_⟩, ?_, ?_, ?_, d7⟩
  · exact Ag_tr (Ag_ex N1 M1 L1 p (n1 + 1) ρ1 τ1) (Ag_ex _ _ _ (p + 1) (n1 + 1) ρ1 τ1) (by omega)
  · rw [ex_le (by omega)]; exact en
  · rw [ex_le (by omega), ex_gt (by omega)]
  · rw [rA a k' (by omega) (by omega), hA3, uI_ne (by omega), rA2 a k' (by omega) (by omega) (by omega) (by omega) (by omega)]
  · rw [rAl, rd2 21 k' (by omega), rA0l]
  · rw [rA 27 r (by omega) (by omega), hA3, uI_ne (by omega), rA2 27 r (by omega) (by omega) (by omega) (by omega) (by omega)]
  · rw [rA 26 r (by omega) (by omega), hA3, uI_ne (by omega), rA2 26 r (by omega) (by omega) (by omega) (by omega) (by omega)]
  · rw [rA 29 t (by omega) (by omega), hA3, uI_ne (by omega), rA2 29 t (by omega) (by omega) (by omega) (by omega) (by omega)]
  · rw [rA a0 k0 (by omega) (by omega), hA3, uI_eq]
  · rw [rA 7 n1 (by omega) (by omega), A3n 7 (by omega)]; exact b1
  · rw [rA 8 n1 (by omega) (by omega), A3n 8 (by omega)]; exact b2
  · rw [rAl]; exact b3
  · rw [rA 17 n1 (by omega) (by omega), A3n 17 (by omega), b4, rA 27 R (by omega) (by omega), hA3, uI_ne (by omega), hA2, uI_ne (by omega)]
  · rw [rA 10 n1 (by omega) (by omega), hA3, uI_ne (by omega), hA2, uI_eq]
  · rw [rA 13 n1 (by omega) (by omega), A3n 13 (by omega)]; exact fz.2.2.2.2.1
  · rw [rA 14 n1 (by omega) (by omega), A3n 14 (by omega)]; exact fz.2.2.2.2.2.1
  · rw [rA 26 R (by omega) (by omega), hA3, uI_ne (by omega), rA2 26 R (by omega) (by omega) (by omega) (by omega) (by omega)]
  · rw [rA 27 R (by omega) (by omega), hA3, uI_ne (by omega), rA2 27 R (by omega) (by omega) (by omega) (by omega) (by omega)]
  · rw [rA 12 n (by omega) (by omega)]
    exact Chn_cp _ _ (fun j _ => rA 14 j (by omega) (by omega)) d6
end CFI
