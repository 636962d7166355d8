/-! the class's parser: parameters -/
/-- the tokens of parameters -/
def pms : Nat → Nat → List Nat
  | _, 0 => []
  | p, k + 1 => p :: pms (p + 2) k
theorem pms_len : ∀ (k p : Nat), (pms p k).length = k := by
  intro k
  induction k with
  | zero => intro p; rfl
  | succ k ih => intro p; show (pms (p + 2) k).length + 1 = k + 1; rw [ih]
/-- the faults of parameters -/
def fpa (pl : Nat → Nat) (V : Nat → Int64) : List Nat → Nat → Nat → Nat
  | _, _, 0 => 4000
  | γ, p, k + 1 => min (kb pl V γ p) (fpa pl V (p :: γ) (p + 2) k)
section CPA
variable {K pl : Nat → Nat} {V : Nat → Int64} {m fu : Nat} {S : im_S} {N M L : Nat → Nat} {p n ρ τ f c : Nat} {fns : List Nat}
/-- while parameters are read -/
def PI (K pl : Nat → Nat) (V : Nat → Int64) (m : Nat) (S : im_S) (N M L : Nat → Nat) (n ρ τ c p : Nat) (S1 : im_S) (N1 M1 L1 : Nat → Nat) (pp n1 f1 : Nat) (l : List Nat) : Prop :=
  Cz K pl V m S1 n1 (ρ + 1) (τ + 1) 1 0 ρ S1 N1 M1 L1 pp 0 1 l.reverse n1 (ρ + 1) (τ + 1) (pl pp) f1 ∧ Tp S1 1 10 ρ ∧ FrF S S1 n ρ τ c ∧ n ≤ n1 ∧ Ag N M L N1 M1 L1 p ∧ (M1 (p + 1) = ρ + 1 ∧ L1 (p + 1) = τ + 1) ∧ (S1.1 36 0 = nI c ∧ S1.1 22 3 = nI (c + 1) ∧ S1.2.1 23 c = V p ∧ S1.1 24 c = nI ρ ∧ S1.1 27 ρ = nI τ ∧ S1.1 26 ρ = -1 ∧ S1.1 29 τ = 0 ∧ S1.1 3 7 = 0) ∧ Chn S1 (S1.1 25 c) (l.map N1) ∧ (l.map N1).Pairwise (· < ·) ∧ (∀ b, b ∈ l → b < pp ∧ n ≤ N1 b ∧ N1 b < n1 ∧ N1 b < N1 (b + 1) ∧ S1.1 7 (N1 b) = 3 ∧ S1.1 8 (N1 b) = nI (tvV (V b)) ∧ S1.2.1 21 (N1 b) = V b ∧ S1.1 17 (N1 b) = nI τ) ∧ p < pp ∧ ∀ k, n ≤ k → k < n1 → S1.1 7 k = 3
set_option maxHeartbeats 4000000 in
theorem c_parS (T : TH K pl V m) (hfu : 600 ≤ fu) (hc : c < 8) {S1 : im_S} {N1 M1 L1 : Nat → Nat} {pp n1 f1 : Nat} {l : List Nat} (H : PI K pl V m S N M L n ρ τ c p S1 N1 M1 L1 pp n1 f1 l) (hl : l.length < 4) (hk : K pp = 1) :
    pp < m ∧ ∃ (E : im_S) (N2 M2 L2 : Nat → Nat), (∀ {α : Type} (X : Int32 → im_S → Option α), ((f_X7_bindHere fu S1).bind (fun qS11 => gd (in_b (nI c) 8) ((f_X3_append fu ((qS11.2.1 25) (nI c).toNatClampNeg) qS11.1 qS11.2).bind (fun qS14 => gd (in_b (nI c) 8) ((f_X7_know qS11.1 (uI qS14.2 25 (nI c).toNatClampNeg qS14.1)).bind (fun qS17 => X qS11.1 qS17.2)))))) = X (nI n1) E) ∧ PI K pl V m S N M L n ρ τ c p E N2 M2 L2 (pp + 1) (n1 + 1) (min f1 (kb pl V l.reverse pp)) (l ++ [pp]) := by
  obtain ⟨C1, hTp, hFr, hn1, hAg, ⟨gM, gL⟩, ⟨a36, a22, a23, a24, a27, a26, a29, a37⟩, hch, hpw, hlm, hpp, hk3⟩ := H
  have hm := T.m_
  have hbd := C1.1.bd
  have hpm := C1.1.pm
  have hp : pp < m := K_lt T.end_ hpm hk (by decide) (by decide)
  have hst := T.lt_ hp
  have hplp := T.pl_ hpm
  refine ⟨hp, ?_⟩
  obtain ⟨B, b0, CB, ndB, fz, rd, rd2, fx⟩ := c_bind T C1 hTp (Nat.lt_succ_self ρ) (Or.inl rfl) (Nat.le_refl _) (by omega) hfu hp hk
  have FB := CB.2.2.2.2.2
  have en : ex N1 pp (n1 + 1) pp = n1 := by rw [ex_le (Nat.le_refl _)]; exact C1.2.1.1
  have en1 : ex N1 pp (n1 + 1) (pp + 1) = n1 + 1 := ex_gt (by omega)
  obtain ⟨v0, v1, v2, v3, v4, v5⟩ := ndB
  rw [en] at v1 v2 v3 v4 v5
  have hinc : in_b (nI c) 8 = true := mI_in (by omega) (by omega)
  have hclc : (nI c).toNatClampNeg = c := nI_clamp (by omega)
  have b25 : B.1 25 c = S1.1 25 c := (FB.2.2.2.2.2.2.2 c).2.1
  have hlN : ∀ j, j ∈ l.map N1 → j < n1 := fun j hj => by
    obtain ⟨b, hb, e⟩ := List.mem_map.mp hj
    have := hlm b hb
    omega
  have chB : Chn B (B.1 25 c) (l.map N1) := by
    rw [b25]
    refine Chn_cp _ _ (fun j hj => ?_) hch
    have := hlN j hj
    exact FB.1 14 j (by omega) (by omega) this
  have hb14 : B.1 14 n1 = -1 := fz.2.2.2.2.2.1
  -- the chain grows
  have app : ∃ (v : Int32) (D0 : im_S), f_X3_append fu (B.1 25 c) (nI n1) B = some (v, D0) ∧ (∀ a j : Nat, (a ≠ 14 ∨ j ∉ l.map N1) → D0.1 a j = B.1 a j) ∧ D0.2.1 = B.2.1 ∧ Chn (uI D0 25 c v) ((uI D0 25 c v).1 25 c) (l.map N1 ++ [n1]) := by
    rcases List.eq_nil_or_concat l with hl0 | ⟨l', b, hl0⟩
    · subst hl0
      have hB1 : B.1 25 c = -1 := chB
      refine ⟨nI n1, B, by rw [hB1]; exact c_app0 hfu, fun _ _ _ => rfl, rfl, ?_⟩
      rw [uI_eq]
      refine ⟨rfl, by omega, ?_⟩
      show (uI B 25 c (nI n1)).1 14 n1 = -1
      rw [uI_ne (by omega)]
      exact hb14
    · rw [List.concat_eq_append] at hl0
      subst hl0
      rw [List.map_append] at chB hpw hlN ⊢
      have chB' : Chn B (B.1 25 c) (l'.map N1 ++ [N1 b]) := chB
      have hpw' : (l'.map N1 ++ [N1 b]).Pairwise (· < ·) := hpw
      have hkl : ∀ j, j ∈ l'.map N1 → j < N1 b := fun j hj => (List.pairwise_append.mp hpw').2.2 j hj (N1 b) (List.mem_singleton.mpr rfl)
      have hbn : N1 b < n1 := hlN (N1 b) (List.mem_append_right _ (List.mem_singleton.mpr rfl))
      have hll : (l'.map N1).length < 512 := by
        rw [List.length_map]
        rw [List.length_append] at hl
        omega
      refine ⟨B.1 25 c, uI B 14 (N1 b) (nI n1), c_app1 chB' hll hfu, fun a j u => ?_, rfl, ?_⟩
      · refine uI_ne ?_
        rcases u with u | u
        · exact Or.inl u
        · exact Or.inr (fun e => u (by rw [e]; exact List.mem_append_right _ (List.mem_singleton.mpr rfl)))
      · rw [uI_eq]
        have := Chn_sn (S := B) (S1 := uI (uI B 14 (N1 b) (nI n1)) 25 c (B.1 25 c)) (v := n1) (by omega) (by rw [uI_ne (by omega), uI_ne (by omega)]; exact hb14) (l'.map N1) (N1 b) (B.1 25 c) (fun j hj => by have := hkl j hj; rw [uI_ne (by omega), uI_ne (by omega)]) (by rw [uI_ne (by omega), uI_eq]) chB'
        exact this
  obtain ⟨v, D0, d1, d2, d3, d4⟩ := app
  obtain ⟨D, hD⟩ : ∃ D, D = uI D0 25 c v := ⟨_, rfl⟩
  rw [← hD] at d4
  have rD : ∀ a j : Nat, (a ≠ 14 ∨ j ∉ l.map N1) → (a ≠ 25 ∨ j ≠ c) → D.1 a j = B.1 a j := fun a j u1 u2 => by rw [hD, uI_ne (by omega), d2 a j u1]
  have rDl : D.2.1 = B.2.1 := by rw [hD]; exact d3
  have rDx : ∀ a j : Nat, a ≠ 14 → a ≠ 25 → D.1 a j = B.1 a j := fun a j u1 u2 => rD a j (Or.inl u1) (Or.inl u2)
  obtain ⟨E, hE⟩ : ∃ E, E = uI (uI D 4 l.reverse.length (nI n1)) 3 5 (nI (l.reverse.length + 1)) := ⟨_, rfl⟩
  -- self-based
  have CD : Cz K pl V m D (n1 + 1) (ρ + 1) (τ + 1) 1 0 ρ D (ex N1 pp (n1 + 1)) (ex M1 pp (ρ + 1)) (ex L1 pp (τ + 1)) (pp + 1) 0 1 l.reverse (n1 + 1) (ρ + 1) (τ + 1) (pl (pp + 1)) (min f1 (kb pl V l.reverse pp)) := by
    obtain ⟨c1, c2, c3, c4, c5, -⟩ := CB
    refine ⟨Pz_cp c1 (fun a j q => rDx a j (by omega) (by omega)) (fun j => by rw [rDl]) c1.pm (by rw [rDx 3 6 (by omega) (by omega)]; exact c1.at_) (by rw [rDx 3 9 (by omega) (by omega)]; exact c1.dp) (by rw [rDx 34 3 (by omega) (by omega)]; exact c1.sz_) (rDx 3 5 (by omega) (by omega)) (fun i _ => rDx 4 i (by omega) (by omega)) (fun b _ => ⟨rfl, by rw [rDl]⟩) (by rw [rDx 6 16 (by omega) (by omega)]; exact c1.nn) (by rw [rDx 22 6 (by omega) (by omega)]; exact c1.rr) (by rw [rDx 22 9 (by omega) (by omega)]; exact c1.tt) c1.bd, c2, ?_, ?_, c5, Fr_refl _ _ _ _ _ _ _⟩
    · exact SI_cp c3 (show pl pp + 1 ≤ pl (pp + 1) by omega) (fun t _ => rDx 28 t (by omega) (by omega)) (fun r _ => rDx 27 r (by omega) (by omega)) (fun t _ => rDx 29 t (by omega) (by omega)) (fun a k u _ => rDx a k (by omega) (by omega))
    · unfold FS
      rw [rDx 5 0 (by omega) (by omega), rDx 5 1 (by omega) (by omega)]
      exact c4
  have hlr : l.reverse.length = l.length := List.length_reverse
  have CE0 := Cz_know CD (b := pp) (by omega) (by rw [en]; omega) (by rw [en, rDl]; exact v3) (by omega) (by omega) (by omega)
  rw [en, ← hE] at CE0
  have CE : Cz K pl V m E (n1 + 1) (ρ + 1) (τ + 1) 1 0 ρ E (ex N1 pp (n1 + 1)) (ex M1 pp (ρ + 1)) (ex L1 pp (τ + 1)) (pp + 1) 0 1 (l ++ [pp]).reverse (n1 + 1) (ρ + 1) (τ + 1) (pl (pp + 1)) (min f1 (kb pl V l.reverse pp)) := by
    rw [List.reverse_append]
    exact Cz_base CE0
  have rE : ∀ a j : Nat, a ≠ 4 → (a ≠ 3 ∨ j ≠ 5) → E.1 a j = D.1 a j := fun a j u1 u2 => by rw [hE, uI_ne (by omega), uI_ne (by omega)]
  have rEl : E.2.1 = B.2.1 := by rw [hE]; exact rDl
  have eb : ∀ b, b ∈ l → ex N1 pp (n1 + 1) b = N1 b ∧ ex N1 pp (n1 + 1) (b + 1) = N1 (b + 1) := fun b hb => by have := (hlm b hb).1; exact ⟨ex_le (by omega), ex_le (by omega)⟩
  have emap : (l ++ [pp]).map (ex N1 pp (n1 + 1)) = l.map N1 ++ [n1] := by
    rw [List.map_append]
    congr 1
    · exact map_N (fun b hb => (eb b hb).1)
    · show [ex N1 pp (n1 + 1) pp] = [n1]; rw [en]
  have n14 : ∀ j, j < n → j ∉ l.map N1 := fun j hj hh => by
    obtain ⟨b, hb, e⟩ := List.mem_map.mp hh
    have := hlm b hb
    omega
  refine ⟨E, ex N1 pp (n1 + 1), ex M1 pp (ρ + 1), ex L1 pp (τ + 1), fun {α} X => ?_, CE, ?_, ?_, by omega, Ag_tr hAg (Ag_ex N1 M1 L1 pp (n1 + 1) (ρ + 1) (τ + 1)) (by omega), ⟨by rw [ex_le (by omega)]; exact gM, by rw [ex_le (by omega)]; exact gL⟩, ⟨?_, ?_, ?_, ?_, ?_, ?_, ?_, ?_⟩, ?_, ?_, fun b hb => ?_, by omega, fun k u1 u2 => ?_⟩
  · rw [b0]
    simp only [Option.bind_some, hinc, hclc, gd_t]
    rw [d1]
    simp only [Option.bind_some]
    rw [← hD, c_know CD.1.kn (by omega), ← hE]
    rfl
  · exact ⟨hTp.1, by rw [rE 35 _ (by omega) (by omega), rDx 35 _ (by omega) (by omega), FB.2.2.2.2.1 35 _ (by omega) (by omega) (by omega)]; exact hTp.2.1, hTp.2.2.1, by rw [rE 37 _ (by omega) (by omega), rDx 37 _ (by omega) (by omega), FB.2.2.2.2.1 37 _ (by omega) (by omega) (by omega)]; exact hTp.2.2.2⟩
  · refine FrF_tr hFr (n1 := n) (ρ1 := ρ) (τ1 := τ) (c1 := c) ⟨fun a k u1 u2 u3 => ?_, fun k u => ?_, fun r u => ⟨?_, ?_⟩, fun t u => ?_, fun i u => ⟨?_, ?_, ?_⟩⟩ (Nat.le_refl _) (Nat.le_refl _) (Nat.le_refl _) (Nat.le_refl _)
    · rw [rE a k (by omega) (by omega), rD a k (Or.inr (n14 k u3)) (Or.inl (by omega)), FB.1 a k u1 u2 (by omega)]
    · rw [rEl, FB.2.1 k (by omega)]
    · rw [rE 27 r (by omega) (by omega), rDx 27 r (by omega) (by omega), (FB.2.2.1 r (by omega)).1]
    · rw [rE 26 r (by omega) (by omega), rDx 26 r (by omega) (by omega), (FB.2.2.1 r (by omega)).2 (by omega)]
    · rw [rE 29 t (by omega) (by omega), rDx 29 t (by omega) (by omega), FB.2.2.2.1 t (by omega)]
    · rw [rE 24 i (by omega) (by omega), rDx 24 i (by omega) (by omega), (FB.2.2.2.2.2.2.2 i).1]
    · rw [rE 25 i (by omega) (by omega), rD 25 i (Or.inl (by omega)) (Or.inr (by omega)), (FB.2.2.2.2.2.2.2 i).2.1]
    · rw [rEl, (FB.2.2.2.2.2.2.2 i).2.2]
  · rw [rE 36 0 (by omega) (by omega), rDx 36 0 (by omega) (by omega), FB.2.2.2.2.1 36 0 (by omega) (by omega) (by omega)]; exact a36
  · rw [rE 22 3 (by omega) (by omega), rDx 22 3 (by omega) (by omega), FB.2.2.2.2.2.2.1]; exact a22
  · rw [rEl, (FB.2.2.2.2.2.2.2 c).2.2]; exact a23
  · rw [rE 24 c (by omega) (by omega), rDx 24 c (by omega) (by omega), (FB.2.2.2.2.2.2.2 c).1]; exact a24
  · rw [rE 27 ρ (by omega) (by omega), rDx 27 ρ (by omega) (by omega), (FB.2.2.1 ρ (by omega)).1]; exact a27
  · rw [rE 26 ρ (by omega) (by omega), rDx 26 ρ (by omega) (by omega), rd 26 ρ (by omega) (by omega) (by omega) (by omega) (by omega)]; exact a26
  · rw [rE 29 τ (by omega) (by omega), rDx 29 τ (by omega) (by omega), FB.2.2.2.1 τ (by omega)]; exact a29
  · rw [rE 3 7 (by omega) (by omega), rDx 3 7 (by omega) (by omega), rd 3 7 (by omega) (by omega) (by omega) (by omega) (by omega)]; exact a37
  · rw [emap, rE 25 c (by omega) (by omega)]
    exact Chn_cp _ _ (fun j _ => rE 14 j (by omega) (by omega)) d4
  · rw [emap, List.pairwise_append]
    exact ⟨hpw, List.pairwise_singleton _ _, fun a ha b hb => by rw [List.mem_singleton] at hb; rw [hb]; exact hlN a ha⟩
  · rcases List.mem_append.mp hb with z | z
    · obtain ⟨t1, t2, t3, t4, t5, t6, t7, t8⟩ := hlm b z
      obtain ⟨g1, g2⟩ := eb b z
      have rr : ∀ a : Nat, 7 ≤ a → a ≤ 20 → a ≠ 14 → E.1 a (N1 b) = S1.1 a (N1 b) := fun a u1 u2 u3 => by rw [rE a _ (by omega) (by omega), rDx a _ u3 (by omega), FB.1 a _ u1 u2 t3]
      rw [g1, g2, rr 7 (by omega) (by omega) (by omega), rr 8 (by omega) (by omega) (by omega), rr 17 (by omega) (by omega) (by omega), rEl, FB.2.1 _ t3]
      exact ⟨by omega, t2, by omega, t4, t5, t6, t7, t8⟩
    · rw [List.mem_singleton] at z
      subst z
      rw [en, en1, rE 7 _ (by omega) (by omega), rDx 7 _ (by omega) (by omega), rE 8 _ (by omega) (by omega), rDx 8 _ (by omega) (by omega), rE 17 _ (by omega) (by omega), rDx 17 _ (by omega) (by omega), rEl]
      refine ⟨by omega, hn1, by omega, by omega, v1, v2, v3, ?_⟩
      rw [v4, (FB.2.2.1 ρ (by omega)).1]; exact a27
  · rw [rE 7 k (by omega) (by omega), rDx 7 k (by omega) (by omega)]
    rcases Nat.lt_or_ge k n1 with z | z
    · rw [FB.1 7 k (by omega) (by omega) z]; exact hk3 k u1 z
    · rw [show k = n1 by omega]; exact v1
theorem PI_ad (T : TH K pl V m) {S1 : im_S} {N1 M1 L1 : Nat → Nat} {pp n1 f1 : Nat} {l : List Nat} (H : PI K pl V m S N M L n ρ τ c p S1 N1 M1 L1 pp n1 f1 l) (hp : pp < m) : PI K pl V m S N M L n ρ τ c p (ad6 S1 (pp + 1)) (ex N1 pp n1) (ex M1 pp (ρ + 1)) (ex L1 pp (τ + 1)) (pp + 1) n1 f1 l := by
  obtain ⟨C1, hTp, hFr, hn1, hAg, ⟨gM, gL⟩, ⟨a36, a22, a23, a24, a27, a26, a29, a37⟩, hch, hpw, hlm, hpp, hk3⟩ := H
  have hst := T.lt_ hp
  have rd : ∀ a j : Nat, (a ≠ 3 ∨ j ≠ 6) → (ad6 S1 (pp + 1)).1 a j = S1.1 a j := fun a j u => by unfold ad6; rw [uI_ne (by omega)]
  have eb : ∀ b, b ∈ l → ex N1 pp n1 b = N1 b ∧ ex N1 pp n1 (b + 1) = N1 (b + 1) := fun b hb => by have := (hlm b hb).1; exact ⟨ex_le (by omega), ex_le (by omega)⟩
  have emap : l.map (ex N1 pp n1) = l.map N1 := map_N (fun b hb => (eb b hb).1)
  refine ⟨Cz_base (Cz_B (Cz_ad T C1 hp) (show pl pp ≤ pl (pp + 1) by omega)), Tp_uI hTp (by omega), ?_, hn1, Ag_tr hAg (Ag_ex N1 M1 L1 pp n1 (ρ + 1) (τ + 1)) (by omega), ⟨by rw [ex_le (by omega)]; exact gM, by rw [ex_le (by omega)]; exact gL⟩, ⟨by rw [rd 36 0 (by omega)]; exact a36, by rw [rd 22 3 (by omega)]; exact a22, a23, by rw [rd 24 c (by omega)]; exact a24, by rw [rd 27 ρ (by omega)]; exact a27, by rw [rd 26 ρ (by omega)]; exact a26, by rw [rd 29 τ (by omega)]; exact a29, by rw [rd 3 7 (by omega)]; exact a37⟩, ?_, by rw [emap]; exact hpw, fun b hb => ?_, by omega, fun k u1 u2 => by rw [rd 7 k (by omega)]; exact hk3 k u1 u2⟩
  · exact FrF_tr hFr (n1 := n) (ρ1 := ρ) (τ1 := τ) (c1 := c) ⟨fun a k u1 u2 u3 => rd a k (by omega), fun k u => rfl, fun r u => ⟨rd 27 r (by omega), rd 26 r (by omega)⟩, fun t u => rd 29 t (by omega), fun i u => ⟨rd 24 i (by omega), rd 25 i (by omega), rfl⟩⟩ (Nat.le_refl _) (Nat.le_refl _) (Nat.le_refl _) (Nat.le_refl _)
  · rw [emap, rd 25 c (by omega)]
    exact Chn_cp _ _ (fun j _ => rd 14 j (by omega)) hch
  · obtain ⟨t1, t2, t3, t4, t5, t6, t7, t8⟩ := hlm b hb
    obtain ⟨g1, g2⟩ := eb b hb
    rw [g1, g2, rd 7 _ (by omega), rd 8 _ (by omega), rd 17 _ (by omega)]
    exact ⟨by omega, t2, t3, t4, t5, t6, t7, t8⟩
/-- all parameters -/
theorem c_parL (T : TH K pl V m) (hfu : 600 ≤ fu) (hc : c < 8) : ∀ (q nf : Nat) (S1 : im_S) (N1 M1 L1 : Nat → Nat) (pp n1 f1 : Nat) (l : List Nat), PI K pl V m S N M L n ρ τ c p S1 N1 M1 L1 pp n1 f1 l → l.length ≤ 4 → 4 < q + l.length → 5 < nf + l.length →
    (∀ e, pPa K q l.length pp = (e, none) → ∃ Z : im_S, f_X7_parameters_L17 fu nf (nI c) 1 (nI l.length) S1 = some (0, rcS Z (pl e))) ∧ ∀ e t, pPa K q l.length pp = (e, some t) → ∃ (k : Nat) (S2 : im_S) (N2 M2 L2 : Nat → Nat) (n2 : Nat), t = .tag (l.length + k) .nil ∧ 1 ≤ k ∧ l.length + k ≤ 4 ∧ f_X7_parameters_L17 fu nf (nI c) 1 (nI l.length) S1 = some (1, S2) ∧ PI K pl V m S N M L n ρ τ c p S2 N2 M2 L2 e n2 (min f1 (fpa pl V l.reverse pp k)) (l ++ pms pp k) := by
  intro q
  induction q with
  | zero => intro nf S1 N1 M1 L1 pp n1 f1 l _ h1 h2; omega
  | succ q ih =>
    intro nf S1 N1 M1 L1 pp n1 f1 l H hl hq hnf
    have C1 := H.1
    have hm := T.m_
    have hpm := C1.1.pm
    obtain ⟨nf, rfl⟩ : ∃ z, nf = z + 1 := ⟨nf - 1, by omega⟩
    have hkl : K pp < 127 := by have := (tkK_c _ (T.2.1 pp hpm).2).2.2.2.2.2; omega
    have e1n : nI (K pp) = (1 : Int32) ↔ K pp = 1 := nI_eq (a := K pp) (b := 1) (by omega) (by omega)
    have e4n : nI l.length = (4 : Int32) ↔ l.length = 4 := nI_eq (a := l.length) (b := 4) (by omega) (by omega)
    have c4 : ¬ (4 : Int32) < nI l.length := fun z => by have := (mI_lt (a := 4) (b := l.length) (by omega) (by omega)).mp z; omega
    rw [pPa]
    rw [f_X7_parameters_L17, if_neg c4, if_neg (show ¬ (1 : Int32) = 0 by decide), c_kind T C1.1]
    simp only [Option.bind_some]
    by_cases h1 : ¬ K pp = 1
    · have hp0 : (if l.length = 4 then ((pp, none) : PR) else if K pp = 1 then (if K (pp + 1) = 44 then pPa K q (l.length + 1) (pp + 2) else (pp + 1, some (.tag (l.length + 1) .nil))) else (pp, none)) = (pp, none) := by
        by_cases h4 : l.length = 4
        · rw [if_pos h4]
        · rw [if_neg h4, if_neg h1]
      rw [hp0]
      refine ⟨fun e he => ?_, (fun e y he => by cases he)⟩
      cases he
      refine ⟨S1, ?_⟩
      rw [if_pos (fun z => h1 (e1n.mp z)), c_refuse T C1.1]
      rfl
    have h1 : K pp = 1 := Decidable.not_not.mp h1
    rw [if_neg (show ¬ nI (K pp) ≠ (1 : Int32) from fun z => z (e1n.mpr h1))]
    by_cases h4 : l.length = 4
    · rw [if_pos h4]
      refine ⟨fun e he => ?_, (fun e y he => by cases he)⟩
      cases he
      refine ⟨S1, ?_⟩
      rw [if_neg (show ¬ nI l.length ≠ (4 : Int32) from fun z => z (e4n.mpr h4)), c_refuse T C1.1]
      rfl
    rw [if_neg h4, if_pos h1, if_pos (show nI l.length ≠ (4 : Int32) from fun z => h4 (e4n.mp z))]
    obtain ⟨hp, E, N2, M2, L2, hst, HE⟩ := c_parS (fu := fu) T hfu hc H (by omega) h1
    rw [hst (fun _ S9 => (f_X7_kindHere S9).bind (fun qS20 => if (qS20.1 : Int32) ≠ 44 then (f_X7_parameters_L17 fu nf (nI c) 0 (nI l.length + 1) qS20.2) else (f_X7_parameters_L17 fu nf (nI c) 1 (nI l.length + 1) (uI qS20.2 3 6 ((qS20.2.1 3 6) + 1)))))]
    have CE := HE.1
    have hpmE := CE.1.pm
    rw [c_kind T CE.1]
    simp only [Option.bind_some]
    have hkl1 : K (pp + 1) < 127 := by have := (tkK_c _ (T.2.1 (pp + 1) hpmE).2).2.2.2.2.2; omega
    have e44 : nI (K (pp + 1)) = (44 : Int32) ↔ K (pp + 1) = 44 := nI_eq (a := K (pp + 1)) (b := 44) (by omega) (by omega)
    have hl1 : (l ++ [pp]).length = l.length + 1 := by rw [List.length_append]; rfl
    have hrv : (l ++ [pp]).reverse = pp :: l.reverse := by rw [List.reverse_append]; rfl
    by_cases h44 : K (pp + 1) = 44
    · rw [if_pos h44, if_neg (show ¬ nI (K (pp + 1)) ≠ (44 : Int32) from fun z => z (e44.mpr h44)), CE.1.at_, show nI (pp + 1) + 1 = nI (pp + 2) from nI_add (pp + 1) 1, show nI l.length + 1 = nI (l.length + 1) from nI_add l.length 1]
      have hp1 : pp + 1 < m := K_lt T.end_ hpmE h44 (by decide) (by decide)
      have HA := PI_ad T HE hp1
      obtain ⟨i1, i2⟩ := ih nf _ _ _ _ (pp + 2) _ _ (l ++ [pp]) HA (by omega) (by omega) (by omega)
      rw [hl1] at i1 i2
      refine ⟨fun e he => i1 e he, fun e t he => ?_⟩
      obtain ⟨k, S2, N3, M3, L3, n2, k1, k2, k3, k4, k5⟩ := i2 e t he
      refine ⟨k + 1, S2, N3, M3, L3, n2, by rw [k1, show l.length + 1 + k = l.length + (k + 1) by omega], by omega, by omega, k4, ?_⟩
      have ef : min (min f1 (kb pl V l.reverse pp)) (fpa pl V (l ++ [pp]).reverse (pp + 2) k) = min f1 (fpa pl V l.reverse pp (k + 1)) := by
        rw [hrv]
        show _ = min f1 (min (kb pl V l.reverse pp) (fpa pl V (pp :: l.reverse) (pp + 2) k))
        rw [Nat.min_assoc]
      have el : l ++ [pp] ++ pms (pp + 2) k = l ++ pms pp (k + 1) := by
        rw [List.append_assoc]; rfl
      rw [ef, el] at k5
      exact k5
    · rw [if_neg h44, if_pos (show nI (K (pp + 1)) ≠ (44 : Int32) from fun z => h44 (e44.mp z))]
      refine ⟨(fun e he => by cases he), fun e t he => ?_⟩
      cases he
      obtain ⟨nf, rfl⟩ : ∃ z, nf = z + 1 := ⟨nf - 1, by omega⟩
      refine ⟨1, E, N2, M2, L2, n1 + 1, rfl, by omega, by omega, ?_, ?_⟩
      · rw [f_X7_parameters_L17]
        by_cases z4 : (4 : Int32) < nI l.length + 1
        · rw [if_pos z4]
        · rw [if_neg z4, if_pos rfl]
      · have ef : min f1 (kb pl V l.reverse pp) = min f1 (fpa pl V l.reverse pp 1) := by
          show _ = min f1 (min (kb pl V l.reverse pp) 4000)
          have hf := C1.2.2.2.2.1
          rw [← Nat.min_assoc]
          have : min f1 (kb pl V l.reverse pp) ≤ 4000 := by omega
          rw [Nat.min_eq_left this]
        rw [← ef]
        exact HE
end CPA
