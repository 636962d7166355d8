/-! the class's parser: while, and the opening of a next value -/
theorem fnd_V {V : Nat → Int64} : ∀ (l : List Nat) (p b : Nat), fnd V l p = some b → V b = V p := by
  intro l
  induction l with
  | nil => intro p b h; cases h
  | cons c l ih =>
    intro p b h
    unfold fnd at h
    by_cases hc : V c = V p
    · rw [if_pos hc] at h; cases h; exact hc
    · rw [if_neg hc] at h; exact ih p b h
theorem fnd_cg {V : Nat → Int64} {p p' : Nat} (h : V p' = V p) : ∀ (l : List Nat), fnd V l p' = fnd V l p := by
  intro l
  induction l with
  | nil => rfl
  | cons c l ih => unfold fnd; rw [h, ih]
theorem bnd_eq0 : ∀ (s : Nat) (f : TR), tsz f ≤ s → ∀ γ : List Nat, bnd f γ = (tks f).reverse ++ γ := by
  intro s
  induction s with
  | zero => intro f hs; cases f <;> simp [tsz] at hs
  | succ s ih =>
    intro f hs γ
    unfold bnd tks
    split
    · rename_i p x r
      show bnd r (p :: γ) = (p :: tks r).reverse ++ γ
      rw [ih r (by simp only [tsz] at hs; omega), List.reverse_cons, List.append_assoc]
      rfl
    · rename_i h
      split
      · rename_i p x r
        exact absurd rfl (h p x r)
      · rfl
theorem bnd_eq (f : TR) (γ : List Nat) : bnd f γ = (tks f).reverse ++ γ := bnd_eq0 (tsz f) f (Nat.le_refl _) γ
section CWH
variable {K pl : Nat → Nat} {V : Nat → Int64} {m fu : Nat} {S : im_S} {N M L : Nat → Nat} {pos dep sz n ρ τ B f : Nat} {γ : List Nat} {S0 : im_S} {n0 ρ0 τ0 sz0 kn0 R0 : Nat}
theorem c_whL (T : TH K pl V m) (nl ρl : Nat) (hnl : nl < 512) : ∀ (l : List Nat) (nf i : Nat) (w : Int32) (S1 : im_S) (γ1 : List Nat), Cz K pl V m S0 n0 ρ0 τ0 sz0 kn0 R0 S1 N M L pos dep sz γ1 n ρ τ B f → Chn S1 w (l.map N) → i + l.length ≤ 4 → l.length < nf → (∀ b, b ∈ l → b < pos ∧ N b < n ∧ S1.2.1 21 (N b) = V b) → γ1.length + l.length ≤ pos → kn0 ≤ γ1.length → S1.1 3 10 = nI nl → S1.1 15 nl = nI ρl → ∃ S2 : im_S, f_X7_openWhilePart_L15 fu nf w (nI i) S1 = some (1, uI (psS S2 sz 20 (nI nl) (nI ρl)) 3 7 0) ∧ Cz K pl V m S0 n0 ρ0 τ0 sz0 kn0 R0 S2 N M L pos dep sz (l.reverse ++ γ1) n ρ τ B f ∧ (∀ a j : Nat, a ≠ 4 → (a ≠ 3 ∨ j ≠ 5) → S2.1 a j = S1.1 a j) ∧ S2.2.1 = S1.2.1 := by
  intro l
  induction l with
  | nil =>
    intro nf i w S1 γ1 C1 hw hi hnf _ _ _ h10 h15
    have hm := T.m_
    have hbd := C1.1.bd
    have hpm := C1.1.pm
    have hw : w = -1 := hw
    have hi : i + 0 ≤ 4 := hi
    obtain ⟨nf, rfl⟩ : ∃ z, nf = z + 1 := ⟨nf - 1, by omega⟩
    refine ⟨S1, ?_, C1, fun _ _ _ _ => rfl, rfl⟩
    have e : ((f_X6_push 20 (S1.1 3 10) ((S1.1 15) ((S1.1 3 10).toNatClampNeg)) S1).bind (fun qS2 => some ((1 : Int32), (uI qS2.2 3 7 0)))) = some (1, uI (psS S1 sz 20 (nI nl) (nI ρl)) 3 7 0) := by
      rw [h10, nI_clamp (show nl < 2 ^ 31 by omega), h15, c_push C1.1.sz_ (by omega)]
      rfl
    have g : in_b (S1.1 3 10) 512 = true := by rw [h10]; exact mI_in (by omega) hnl
    rw [f_X7_openWhilePart_L15, g]
    simp only [gd_t]
    by_cases c4 : (4 : Int32) ≤ nI i
    · rw [if_pos c4]; exact e
    · rw [if_neg c4, if_pos hw]; exact e
  | cons b l ih =>
    intro nf i w S1 γ1 C1 hw hi hnf hb hγ hk h10 h15
    have hm := T.m_
    have hbd := C1.1.bd
    have hpm := C1.1.pm
    have hi : i + (l.length + 1) ≤ 4 := hi
    have hγ : γ1.length + (l.length + 1) ≤ pos := hγ
    have hnf : l.length + 1 < nf := hnf
    obtain ⟨nf, rfl⟩ : ∃ z, nf = z + 1 := ⟨nf - 1, by omega⟩
    obtain ⟨w1, w2, w3⟩ := hw
    obtain ⟨b1, b2, b3⟩ := hb b (List.mem_cons_self ..)
    have c4 : ¬ (4 : Int32) ≤ nI i := fun z => by have := (mI_le (a := 4) (b := i) (by omega) (by omega)).mp z; omega
    obtain ⟨A, hA⟩ : ∃ A, A = uI (uI S1 4 γ1.length (nI (N b))) 3 5 (nI (γ1.length + 1)) := ⟨_, rfl⟩
    have CA : Cz K pl V m S0 n0 ρ0 τ0 sz0 kn0 R0 A N M L pos dep sz (b :: γ1) n ρ τ B f := by
      rw [hA]
      exact Cz_know C1 b1 b2 b3 (by omega) hk (by omega)
    have rA : ∀ a j : Nat, a ≠ 4 → (a ≠ 3 ∨ j ≠ 5) → A.1 a j = S1.1 a j := fun a j u1 u2 => by rw [hA, uI_ne (by omega), uI_ne (by omega)]
    obtain ⟨S2, s1, s2, s3, s4⟩ := ih nf (i + 1) (A.1 14 (N b)) A (b :: γ1) CA (by rw [rA 14 (N b) (by omega) (by omega)]; exact Chn_cp _ _ (fun j _ => rA 14 j (by omega) (by omega)) w3) (by omega) (by omega) (fun c hc => by rw [hA]; exact hb c (List.mem_cons_of_mem _ hc)) (by rw [List.length_cons]; omega) (by rw [List.length_cons]; omega) (by rw [rA 3 10 (by omega) (by omega)]; exact h10) (by rw [rA 15 nl (by omega) (by omega)]; exact h15)
    refine ⟨S2, ?_, ?_, fun a j u1 u2 => by rw [s3 a j u1 u2, rA a j u1 u2], by rw [s4, hA]; rfl⟩
    · rw [f_X7_openWhilePart_L15, if_neg c4, w1, if_neg (nI_m1' w2), c_know C1.1.kn (by omega), ← hA]
      simp only [Option.bind_some, mI_in (a := N b) (n := 512) (by omega) w2, nI_clamp (show N b < 2 ^ 31 by omega), gd_t]
      rw [show nI i + 1 = nI (i + 1) from nI_add i 1]
      exact s1
    · rw [List.reverse_cons, List.append_assoc]
      exact s2
end CWH
/-- a variable of a loop, while next is read -/
def VJ (V : Nat → Int64) (S : im_S) (N : Nat → Nat) (n n1 : Nat) (l pre : List Nat) (b : Nat) : Prop := n < N b ∧ N b < n1 ∧ N b < N (b + 1) ∧ S.1 7 (N b) = 3 ∧ S.1 8 (N b) = nI (tvV (V b)) ∧ S.2.1 21 (N b) = V b ∧ S.1 10 (N b) = nI n ∧ ((∃ p', p' ∈ pre ∧ fnd V l p' = some b) → S.1 13 (N b) = nI n) ∧ ((¬ ∃ p', p' ∈ pre ∧ fnd V l p' = some b) → S.1 13 (N b) = -1)
/-- nodes from lo on are kept but for which names next binds; so are regions but Rn's leaves -/
def FN (S S' : im_S) (lo n ρ τ Rn : Nat) (vs : List Nat) : Prop := (∀ a k : Nat, 7 ≤ a → a ≤ 20 → lo ≤ k → k < n → (a ≠ 13 ∨ ¬ k ∈ vs) → S'.1 a k = S.1 a k) ∧ (∀ k : Nat, lo ≤ k → k < n → S'.2.1 21 k = S.2.1 21 k) ∧ (∀ r : Nat, r < ρ → S'.1 27 r = S.1 27 r ∧ (r ≠ Rn → S'.1 26 r = S.1 26 r)) ∧ ∀ t : Nat, t < τ → S'.1 29 t = S.1 29 t
theorem FN_tr {S S1 S2 : im_S} {lo n ρ τ Rn n1 ρ1 τ1 : Nat} {vs : List Nat} (a : FN S S1 lo n ρ τ Rn vs) (b : FN S1 S2 lo n1 ρ1 τ1 Rn vs) (h1 : n ≤ n1) (h2 : ρ ≤ ρ1) (h3 : τ ≤ τ1) : FN S S2 lo n ρ τ Rn vs :=
  ⟨fun x k u1 u2 u0 u3 u4 => (b.1 x k u1 u2 u0 (by omega) u4).trans (a.1 x k u1 u2 u0 u3 u4), fun k u0 u3 => (b.2.1 k u0 (by omega)).trans (a.2.1 k u0 u3), fun r hr => ⟨((b.2.2.1 r (by omega)).1).trans (a.2.2.1 r hr).1, fun hne => ((b.2.2.1 r (by omega)).2 hne).trans ((a.2.2.1 r hr).2 hne)⟩, fun t ht => (b.2.2.2 t (by omega)).trans (a.2.2.2 t ht)⟩
theorem Fw_FN {S S1 S2 : im_S} {lo n rl ρ τ k0 lo1 n1 ρ1 τ1 Rn : Nat} {vs : List Nat} (h : Fw S S1 lo n rl ρ τ k0) (F : FN S1 S2 lo1 n1 ρ1 τ1 Rn vs) (h0 : lo1 ≤ lo) (h1 : n ≤ n1) (h2 : ρ ≤ ρ1) (h3 : τ ≤ τ1) (h4 : ∀ k, k ∈ vs → k < lo) (h5 : Rn < rl) : Fw S S2 lo n rl ρ τ k0 := by
  obtain ⟨a1, a2, a3, a4⟩ := h
  obtain ⟨b1, b2, b3, b4⟩ := F
  exact ⟨fun x k u1 u2 u0 u3 u4 => (b1 x k u1 u2 (by omega) (by omega) (Or.inr (fun z => by have := h4 k z; omega))).trans (a1 x k u1 u2 u0 u3 u4), fun k u0 hk => (b2 k (by omega) (by omega)).trans (a2 k u0 hk), fun r hr => ⟨((b3 r (by omega)).1).trans (a3 r hr).1, fun hR => ((b3 r (by omega)).2 (by omega)).trans ((a3 r hr).2 hR)⟩, fun t ht => (b4 t (by omega)).trans (a4 t ht)⟩
section CNX
variable {K pl : Nat → Nat} {V : Nat → Int64} {m fu : Nat} {Q : Int32 → im_S → Prop} {S : im_S} {N M L : Nat → Nat} {pos dep sz n ρ τ f k R : Nat} {γ : List Nat} {kn : Nat}
def fnx (pl : Nat → Nat) (V : Nat → Int64) (pre l : List Nat) (p : Nat) : Nat := if (fnd V l p).isSome ∧ ¬ (fnd V pre p).isSome then 4000 else 4 * pl p + 2
set_option maxHeartbeats 8000000 in
theorem c_nextO (T : TH K pl V m) (hfu : 600 ≤ fu) (hR : R < ρ) (hTp : Tp S sz k R) {p : Nat} {S1 : im_S} {N1 M1 L1 : Nat → Nat} {n1 ρ1 τ1 f1 ρn : Nat} {l pre : List Nat} (hpp : pos < p) (C1 : Cz K pl V m S n ρ τ sz kn R S1 N1 M1 L1 p dep sz γ n1 ρ1 τ1 (pl p) f1) (hlo : S1.1 3 10 = nI n) (hnn : n < n1) (hρ1 : ρ ≤ ρ1) (hτ1 : τ ≤ τ1) (hch : Chn S1 (S1.1 12 n) (l.map N1)) (hlen : l.length ≤ 4) (hlm : ∀ b, b ∈ l → VJ V S1 N1 n n1 l pre b ∧ b < p) (h15 : S1.1 15 n = nI ρn) (hρn : ρ ≤ ρn ∧ ρn + 1 < ρ1) :
    (K p ≠ 1 → dueF fu 4 S1 = some (0, rcS S1 (pl p))) ∧ (K p = 1 → K (p + 1) ≠ 61 → ∃ Z : im_S, dueF fu 4 S1 = some (0, rcS Z (pl (p + 1)))) ∧
    (K p = 1 → K (p + 1) = 61 → p + 1 < m ∧ ∃ (A : im_S) (N2 M2 L2 : Nat → Nat) (kv nA : Nat), dueF fu 4 S1 = some (1, A) ∧ Cz K pl V m S n ρ τ sz kn R A N2 M2 L2 (p + 2) dep (sz + 1) γ nA ρ1 τ1 (pl (p + 2)) (min f1 (fnx pl V pre l p)) ∧ Ag N1 M1 L1 N2 M2 L2 p ∧ n1 ≤ nA ∧ n < kv ∧ kv < nA ∧ A.1 3 7 = 0 ∧ A.1 35 sz = nI 21 ∧ A.1 36 sz = nI kv ∧ A.1 37 sz = nI (ρn + 1) ∧ FN S1 A n n1 ρ1 τ1 (ρn + 1) (l.map N1) ∧ A.1 26 (ρn + 1) = S1.1 26 (ρn + 1) ∧ A.1 8 kv = nI (tvV (V p)) ∧ A.1 10 kv = nI n ∧ (4000 ≤ fnx pl V pre l p → ∃ b, fnd V l p = some b ∧ kv = N1 b) ∧ (∀ b, b ∈ l → VJ V A N2 n nA l (p :: pre) b) ∧ (∀ k, n1 ≤ k → k < nA → A.1 7 k ≠ 8)) := by
  have hm := T.m_
  have hbd := C1.1.bd
  have hpm := C1.1.pm
  have hTp1 : Tp S1 sz k R := Tp_Fr C1.2.2.2.2.2 hTp
  have hplp := T.pl_ hpm
  have hin : in_b (nI p) 501 = true := mI_in (by omega) (by omega)
  have hclp : (nI p).toNatClampNeg = p := nI_clamp (by omega)
  have e1n : nI (K p) = (1 : Int32) ↔ K p = 1 := nI_eq (a := K p) (b := 1) (by have := (tkK_c _ (T.2.1 p hpm).2).2.2.2.2.2; omega) (by omega)
  have o1 : dueF fu 4 S1 = f_X7_openNextValue fu S1 := rfl
  unfold f_X7_openNextValue at o1
  rw [c_kind T C1.1] at o1
  simp only [Option.bind_some] at o1
  by_cases h1 : ¬ K p = 1
  · refine ⟨fun _ => ?_, fun q => absurd q h1, fun q => absurd q h1⟩
    rw [if_neg (fun z => h1 (e1n.mp z)), c_refuse T C1.1] at o1
    exact o1
  have h1 : K p = 1 := Decidable.not_not.mp h1
  refine ⟨fun q => absurd h1 q, ?_⟩
  have hp : p < m := K_lt T.end_ hpm h1 (by decide) (by decide)
  have hst := T.lt_ hp
  have hNam : Nam (V p) := (T.2.2.1 p hp).2.2.2 h1
  have e33 : S1.2.1 33 p = V p := (C1.1.ct p hpm).2.2 (Or.inl h1)
  rw [if_pos (e1n.mpr h1)] at o1
  simp only [C1.1.at_, hlo, hin, hclp, gd_t, e33, mI_in (a := n) (n := 512) (by omega) (by omega), nI_clamp (show n < 2 ^ 31 by omega)] at o1
  rw [c_fic (fu := fu) (V := V) hch (fun b hb => (hlm b hb).1.2.2.2.2.2.1) (by omega) hfu p] at o1
  simp only [Option.bind_some] at o1
  have t3 := tvV_r (V p)
  -- behind the choice of the variable
  have fin : ∀ (A3 : im_S) (N2 M2 L2 : Nat → Nat) (kv nA : Nat), dueF fu 4 S1 = ((f_X7_take 61 A3).bind (fun qS36 => if (qS36.1 : Int32) = 0 then (some (0, qS36.2)) else (gd (in_b (qS36.2.1 3 10) 512) ((f_X7_open 21 (nI kv) (((qS36.2.1 15) ((qS36.2.1 3 10).toNatClampNeg)) + 1) qS36.2).bind (fun qS40 => if (qS40.1 : Int32) = 0 then (some (0, qS40.2)) else (some (1, qS40.2))))))) → Cz K pl V m S n ρ τ sz kn R A3 N2 M2 L2 (p + 1) dep sz γ nA ρ1 τ1 (pl (p + 1)) (min f1 (fnx pl V pre l p)) → Ag N1 M1 L1 N2 M2 L2 p → n1 ≤ nA → n < kv → kv < nA → FN S1 A3 n n1 ρ1 τ1 (ρn + 1) (l.map N1) → A3.1 26 (ρn + 1) = S1.1 26 (ρn + 1) → A3.1 3 10 = nI n → A3.1 8 kv = nI (tvV (V p)) → A3.1 10 kv = nI n → (4000 ≤ fnx pl V pre l p → ∃ b, fnd V l p = some b ∧ kv = N1 b) → (∀ b, b ∈ l → VJ V A3 N2 n nA l (p :: pre) b) → (∀ k, n1 ≤ k → k < nA → A3.1 7 k ≠ 8) →
      (K p = 1 → K (p + 1) ≠ 61 → ∃ Z : im_S, dueF fu 4 S1 = some (0, rcS Z (pl (p + 1)))) ∧ (K p = 1 → K (p + 1) = 61 → p + 1 < m ∧ ∃ (A : im_S) (N2 M2 L2 : Nat → Nat) (kv nA : Nat), dueF fu 4 S1 = some (1, A) ∧ Cz K pl V m S n ρ τ sz kn R A N2 M2 L2 (p + 2) dep (sz + 1) γ nA ρ1 τ1 (pl (p + 2)) (min f1 (fnx pl V pre l p)) ∧ Ag N1 M1 L1 N2 M2 L2 p ∧ n1 ≤ nA ∧ n < kv ∧ kv < nA ∧ A.1 3 7 = 0 ∧ A.1 35 sz = nI 21 ∧ A.1 36 sz = nI kv ∧ A.1 37 sz = nI (ρn + 1) ∧ FN S1 A n n1 ρ1 τ1 (ρn + 1) (l.map N1) ∧ A.1 26 (ρn + 1) = S1.1 26 (ρn + 1) ∧ A.1 8 kv = nI (tvV (V p)) ∧ A.1 10 kv = nI n ∧ (4000 ≤ fnx pl V pre l p → ∃ b, fnd V l p = some b ∧ kv = N1 b) ∧ (∀ b, b ∈ l → VJ V A N2 n nA l (p :: pre) b) ∧ (∀ k, n1 ≤ k → k < nA → A.1 7 k ≠ 8)) := by
    intro A3 N2 M2 L2 kv nA o2 CA3 hAg hnA hkv1 hkv2 hFN h26 h10 h8 hpar hgd hVJ hk7
    rw [show (61 : Int32) = nI 61 from rfl, c_take T CA3.1 61 (by omega)] at o2
    have hbd3 := CA3.1.bd
    by_cases h61 : ¬ K (p + 1) = 61
    · refine ⟨fun _ _ => ⟨A3, ?_⟩, fun _ q => absurd q h61⟩
      rw [if_neg h61] at o2
      exact o2
    have h61 : K (p + 1) = 61 := Decidable.not_not.mp h61
    refine ⟨fun _ q => absurd h61 q, fun _ _ => ?_⟩
    rw [if_pos h61] at o2
    simp only [Option.bind_some] at o2
    rw [if_neg (show ¬ (1 : Int32) = 0 by decide)] at o2
    have hp1 : p + 1 < m := K_lt T.end_ (by omega) h61 (by decide) (by decide)
    have hst1 : pl (p + 1) + 1 ≤ pl (p + 2) := T.lt_ hp1
    have CA4 := Cz_B (B' := pl (p + 2)) (Cz_ad T CA3 hp1) (by omega)
    obtain ⟨A, hA⟩ : ∃ A, A = uI (psS (ad6 A3 (p + 1 + 1)) sz 21 (nI kv) (nI (ρn + 1))) 3 7 0 := ⟨_, rfl⟩
    have q10 : (ad6 A3 (p + 1 + 1)).1 3 10 = nI n := by unfold ad6; rw [uI_ne (by omega)]; exact h10
    have q15 : (ad6 A3 (p + 1 + 1)).1 15 n = nI ρn := by
      unfold ad6
      rw [uI_ne (by omega), hFN.1 15 n (by omega) (by omega) (Nat.le_refl _) hnn (Or.inl (by omega))]; exact h15
    have hop : dueF fu 4 S1 = some (1, A) := by
      rw [o2, q10, mI_in (a := n) (n := 512) (by omega) (by omega), nI_clamp (show n < 2 ^ 31 by omega), q15, show nI ρn + 1 = nI (ρn + 1) from nI_add ρn 1]
      simp only [gd_t]
      unfold f_X7_open
      rw [c_push CA4.1.sz_ (by omega)]
      simp only [Option.bind_some]
      rw [if_neg (show ¬ (1 : Int32) = 0 by decide), hA]
    have rA : ∀ a j : Nat, a ≠ 3 → (a < 34 ∨ 37 < a) → A.1 a j = A3.1 a j := fun a j u1 u2 => by
      rw [hA]; unfold ad6; rw [uI_ne (by omega), ps_ne (by omega), uI_ne (by omega)]
    have rAl : A.2.1 = A3.2.1 := by rw [hA]; rfl
    have CA := Cz_3 (j := 7) (v := 0) (Cz_push CA4 21 (nI kv) (nI (ρn + 1)) (by omega) (Nat.le_refl _)) (by omega)
    rw [← hA] at CA
    obtain ⟨q35, q36, q37, -⟩ := ps_f (ad6 A3 (p + 1 + 1)) sz 21 (nI kv) (nI (ρn + 1))
    refine ⟨hp1, A, _, _, _, kv, nA, hop, CA, Ag_tr hAg (Ag_ex N2 M2 L2 (p + 1) nA ρ1 τ1) (by omega), hnA, hkv1, hkv2, by rw [hA, uI_eq], by rw [hA, uI_ne (by omega)]; exact q35, by rw [hA, uI_ne (by omega)]; exact q36, by rw [hA, uI_ne (by omega)]; exact q37, ⟨fun a k' u1 u2 u0 u3 u4 => ?_, fun k' u0 u3 => ?_, fun r hr' => ⟨?_, fun hne => ?_⟩, fun t ht => ?_⟩, ?_, ?_, ?_, hgd, fun b hb => ?_, fun k u1 u2 => by rw [rA 7 k (by omega) (by omega)]; exact hk7 k u1 u2⟩
    · rw [rA a k' (by omega) (by omega)]; exact hFN.1 a k' u1 u2 u0 u3 u4
    · rw [rAl]; exact hFN.2.1 k' u0 u3
    · rw [rA 27 r (by omega) (by omega)]; exact (hFN.2.2.1 r hr').1
    · rw [rA 26 r (by omega) (by omega)]; exact (hFN.2.2.1 r hr').2 hne
    · rw [rA 29 t (by omega) (by omega)]; exact hFN.2.2.2 t ht
    · rw [rA 26 (ρn + 1) (by omega) (by omega)]; exact h26
    · rw [rA 8 kv (by omega) (by omega)]; exact h8
    · rw [rA 10 kv (by omega) (by omega)]; exact hpar
    · obtain ⟨w1, w2, w3, w4, w5, w6, w7, w8, w9⟩ := hVJ b hb
      have hb1 := (hlm b hb).2
      unfold VJ
      rw [ex_le (show b ≤ p + 1 by omega), ex_le (show b + 1 ≤ p + 1 by omega), rA 7 _ (by omega) (by omega), rA 8 _ (by omega) (by omega), rA 10 _ (by omega) (by omega), rA 13 _ (by omega) (by omega), rAl]
      exact ⟨w1, w2, w3, w4, w5, w6, w7, w8, w9⟩
  have hmemV : ∀ b, b ∈ l → N1 b ∈ l.map N1 := fun b hb => List.mem_map_of_mem hb
  -- the stray variable
  have stray : fnx pl V pre l p = 4 * pl p + 2 → (∀ b, b ∈ l → fnd V l p = some b → ∃ p', p' ∈ pre ∧ fnd V l p' = some b) → ∃ (A3 X : im_S), (f_X7_placeHere (ntS S1 2 (nI (pl p))) = some (nI (pl p), ntS S1 2 (nI (pl p))) ∧ f_X6_topRegion (ntS S1 2 (nI (pl p))) = some (nI R, ntS S1 2 (nI (pl p))) ∧ f_X3_add 3 (nI (tvV (V p))) (nI (pl p)) (V p) (nI R) (ntS S1 2 (nI (pl p))) = some (nI n1, X) ∧ X.1 3 10 = nI n ∧ X.1 3 6 = nI p ∧ uI (uI (uI X 10 n1 (nI n)) 13 n1 (nI n)) 3 6 (nI (p + 1)) = A3) ∧ (A3.1 3 10 = nI n) ∧ Cz K pl V m S n ρ τ sz kn R A3 (ex N1 p (n1 + 1)) (ex M1 p ρ1) (ex L1 p τ1) (p + 1) dep sz γ (n1 + 1) ρ1 τ1 (pl (p + 1)) (min f1 (fnx pl V pre l p)) ∧ FN S1 A3 n n1 ρ1 τ1 (ρn + 1) (l.map N1) ∧ A3.1 26 (ρn + 1) = S1.1 26 (ρn + 1) ∧ A3.1 8 n1 = nI (tvV (V p)) ∧ A3.1 10 n1 = nI n ∧ (∀ b, b ∈ l → VJ V A3 (ex N1 p (n1 + 1)) n (n1 + 1) l (p :: pre) b) ∧ A3.1 7 n1 = 3 := by
    intro hfx hbnd
    have C0 := Cz_nt (k := 2) C1 (by omega) (by omega) hplp
    have hTp0 : Tp (ntS S1 (nI 2) (nI (pl p))) sz k R := Tp_Fr C0.2.2.2.2.2 hTp
    obtain ⟨A1, a1, CA1, nd1, fz, rd, rd2, -, nl, fx⟩ := c_here T C0 hTp0 (show R < ρ1 by omega) (Or.inl rfl) (by omega) (by omega) hp 3 (by omega) (tvV (V p)) (V p)
    have nl := nl (by omega)
    have en : ex N1 p (n1 + 1) p = n1 := by rw [ex_le (Nat.le_refl _)]; exact C1.2.1.1
    obtain ⟨b0, b1, b2, b3, b4, b5⟩ := nd1
    rw [en] at b1 b2 b3 b4 b5
    have r1 : ∀ a j : Nat, (a ≠ 3 ∨ j ≠ 6) → (a ≠ 6 ∨ j ≠ 16) → (j ≠ n1 ∨ a < 7 ∨ 20 < a) → a ≠ 28 → a ≠ 5 → A1.1 a j = S1.1 a j := fun a j u1 u2 u3 u4 u5 => by
      by_cases q : a = 26 ∧ j = R
      · rw [q.1, q.2, nl, nt_ne _ _ _ (by omega)]
      · rw [rd a j u1 u2 u3 (by omega) u4, nt_ne _ _ _ u5]
    have r1l : ∀ j : Nat, j ≠ n1 → A1.2.1 21 j = S1.2.1 21 j := fun j u => by rw [rd2 21 j (by omega), nt_21]
    obtain ⟨A3, hA3⟩ : ∃ A3, A3 = uI (uI A1 10 n1 (nI n)) 13 n1 (nI n) := ⟨_, rfl⟩
    have r3 : ∀ a j : Nat, ((a ≠ 10 ∧ a ≠ 13) ∨ j ≠ n1) → A3.1 a j = A1.1 a j := fun a j u => by rw [hA3, uI_ne (by omega), uI_ne (by omega)]
    have CA3 : Cz K pl V m S n ρ τ sz kn R A3 (ex N1 p (n1 + 1)) (ex M1 p ρ1) (ex L1 p τ1) (p + 1) dep sz γ (n1 + 1) ρ1 τ1 (pl (p + 1)) (min f1 (fnx pl V pre l p)) := by
      rw [hA3, hfx]
      exact Cz_nd (Cz_nd (Cz_B CA1 (show pl p + wk 3 ≤ pl (p + 1) by have : wk 3 = 1 := rfl; omega)) (by omega) (by omega)) (by omega) (by omega)
    obtain ⟨T0, sT, t1, t2, t3, t4, t5⟩ := c_addHere T C0 hTp0 (show R < ρ1 by omega) (by omega) 3 (by omega) (nI (tvV (V p))) (V p)
    have e1 : A1 = ad6 (adS (ntS S1 (nI 2) (nI (pl p))) n1 3 (nI (tvV (V p))) (nI (pl p)) (V p) R T0 sT) (p + 1) := by
      rw [t5] at a1
      cases a1
      rfl
    obtain ⟨X, hX⟩ : ∃ X, X = adS (ntS S1 (nI 2) (nI (pl p))) n1 3 (nI (tvV (V p))) (nI (pl p)) (V p) R T0 sT := ⟨_, rfl⟩
    rw [← hX] at e1
    refine ⟨A3, X, ⟨c_place T C0.1, ?_, ?_, ?_, ?_, ?_⟩, ?_, CA3, ⟨fun a k' u1 u2 u0 u3 u4 => ?_, fun k' u0 u3 => ?_, fun r hr' => ⟨?_, fun hne => ?_⟩, fun t ht => ?_⟩, ?_, ?_, ?_, fun b hb => ?_, by rw [r3 7 n1 (by omega)]; exact b1⟩
    · obtain ⟨h1', h2, h3, h4⟩ := hTp0
      obtain ⟨sz', hsz'⟩ : ∃ z, sz = z + 1 := ⟨sz - 1, by omega⟩
      rw [hsz', Nat.add_sub_cancel] at h4
      have e34 : (ntS S1 2 (nI (pl p))).1 34 3 = nI (sz' + 1) := by rw [← hsz']; exact C0.1.sz_
      have h4' : (ntS S1 2 (nI (pl p))).1 37 sz' = nI R := h4
      rw [c_topR e34 (by omega), h4']
    · rw [hX]
      exact c_add (c := 3) C0.1.nn (by omega) (by omega) (by omega) t1 (by omega) t3
    · rw [hX, ad_ne (by omega), nt_ne _ _ _ (by omega)]; exact hlo
    · rw [hX, ad_ne (by omega), nt_ne _ _ _ (by omega)]; exact C1.1.at_
    · rw [hA3, e1]
      refine im_ext (fun a j => ?_) (fun a j => rfl) rfl
      unfold ad6
      by_cases q : a = 3 ∧ j = 6
      · rw [q.1, q.2, uI_eq, uI_ne (by omega), uI_ne (by omega), uI_eq]
      · rw [uI_ne (by omega)]
        by_cases q1 : a = 13 ∧ j = n1
        · rw [q1.1, q1.2, uI_eq, uI_eq]
        · rw [uI_ne (by omega), uI_ne (a := a) (k := j) (i := 13) (by omega)]
          by_cases q2 : a = 10 ∧ j = n1
          · rw [q2.1, q2.2, uI_eq, uI_eq]
          · rw [uI_ne (by omega), uI_ne (a := a) (k := j) (i := 10) (by omega), uI_ne (by omega)]
    · rw [r3 3 10 (by omega), r1 3 10 (by omega) (by omega) (by omega) (by omega) (by omega)]; exact hlo
    · rw [r3 a k' (by omega), r1 a k' (by omega) (by omega) (by omega) (by omega) (by omega)]
    · rw [hA3]; exact r1l k' (by omega)
    · rw [r3 27 r (by omega), r1 27 r (by omega) (by omega) (by omega) (by omega) (by omega)]
    · rw [r3 26 r (by omega), r1 26 r (by omega) (by omega) (by omega) (by omega) (by omega)]
    · rw [r3 29 t (by omega), r1 29 t (by omega) (by omega) (by omega) (by omega) (by omega)]
    · rw [r3 26 (ρn + 1) (by omega), r1 26 (ρn + 1) (by omega) (by omega) (by omega) (by omega) (by omega)]
    · rw [r3 8 n1 (by omega)]; exact b2
    · rw [hA3, uI_ne (by omega), uI_eq]
    · obtain ⟨⟨w1, w2, w3, w4, w5, w6, w7, w8, w9⟩, hb1⟩ := hlm b hb
      have rr : ∀ a : Nat, 7 ≤ a → a ≤ 20 → A3.1 a (N1 b) = S1.1 a (N1 b) := fun a u1 u2 => by rw [r3 a _ (by omega), r1 a _ (by omega) (by omega) (by omega) (by omega) (by omega)]
      unfold VJ
      rw [ex_le (show b ≤ p by omega), ex_le (show b + 1 ≤ p by omega), rr 7 (by omega) (by omega), rr 8 (by omega) (by omega), rr 10 (by omega) (by omega), rr 13 (by omega) (by omega)]
      refine ⟨w1, by omega, w3, w4, w5, by rw [hA3]; show A1.2.1 21 (N1 b) = _; rw [r1l _ (by omega)]; exact w6, w7, fun ⟨p', hp', hf'⟩ => ?_, fun hno => w9 (fun ⟨p', hp', hf'⟩ => hno ⟨p', List.mem_cons_of_mem _ hp', hf'⟩)⟩
      rcases List.mem_cons.mp hp' with z | z
      · rw [z] at hf'; exact w8 (hbnd b hb hf')
      · exact w8 ⟨p', z, hf'⟩
  have hcs : fnd V l p = none ∨ ∃ b, fnd V l p = some b := by
    cases fnd V l p with
    | none => exact Or.inl rfl
    | some b => exact Or.inr ⟨b, rfl⟩
  rcases hcs with hfd | ⟨b, hfd⟩
  · -- no such name
    have hfx : fnx pl V pre l p = 4 * pl p + 2 := by unfold fnx; rw [hfd]; exact if_neg (fun z => absurd z.1 (by decide))
    obtain ⟨A3, X, ⟨x1, x2, x3, x4, x5, x6⟩, e2, e3, e4, e5, e6, e7, e8, e9⟩ := stray hfx (fun b hb h => by rw [hfd] at h; cases h)
    refine fin A3 _ _ _ n1 (n1 + 1) ?_ e3 (Ag_ex N1 M1 L1 p (n1 + 1) ρ1 τ1) (by omega) hnn (by omega) e4 e5 e2 e6 e7 (fun h => absurd h (by omega)) e8 (fun k u1 u2 => by rw [show k = n1 by omega, e9]; exact k8 (c := 3) (by omega) (by omega))
    rw [hfd] at o1
    simp only [] at o1
    rw [if_pos trivial, c_place T C1.1] at o1
    simp only [Option.bind_some, c_note] at o1
    rw [c_ty (by omega) hNam] at o1
    simp only [Option.bind_some] at o1
    rw [x1] at o1
    simp only [Option.bind_some] at o1
    rw [x2] at o1
    simp only [Option.bind_some] at o1
    rw [x3] at o1
    simp only [Option.bind_some, x4, x5, mI_in (a := n1) (n := 512) (by omega) (by omega), nI_clamp (show n1 < 2 ^ 31 by omega), gd_t] at o1
    rw [show nI p + 1 = nI (p + 1) from nI_add p 1, x6] at o1
    exact o1
  · have hbl := fnd_in l p b hfd
    have hVb := fnd_V l p b hfd
    obtain ⟨⟨w1, w2, w3, w4, w5, w6, w7, w8, w9⟩, hb1⟩ := hlm b hbl
    have hiff : (fnd V pre p).isSome = true ↔ ∃ p', p' ∈ pre ∧ fnd V l p' = some b := by
      rw [fnd_some_iff]
      exact ⟨fun ⟨p', h1, h2⟩ => ⟨p', h1, by rw [fnd_cg h2]; exact hfd⟩, fun ⟨p', h1, h2⟩ => ⟨p', h1, by rw [← fnd_V l p' b h2]; exact hVb⟩⟩
    rw [hfd] at o1
    simp only [] at o1
    rw [if_neg (nI_m1' (show N1 b < 512 by omega)), mI_in (a := N1 b) (n := 512) (by omega) (by omega), nI_clamp (show N1 b < 2 ^ 31 by omega)] at o1
    simp only [gd_t] at o1
    by_cases hpre : (fnd V pre p).isSome = true
    · have hfx : fnx pl V pre l p = 4 * pl p + 2 := by unfold fnx; exact if_neg (fun z => z.2 hpre)
      obtain ⟨A3, X, ⟨x1, x2, x3, x4, x5, x6⟩, e2, e3, e4, e5, e6, e7, e8, e9⟩ := stray hfx (fun b' hb' h => by rw [hfd] at h; cases h; exact hiff.mp hpre)
      refine fin A3 _ _ _ n1 (n1 + 1) ?_ e3 (Ag_ex N1 M1 L1 p (n1 + 1) ρ1 τ1) (by omega) hnn (by omega) e4 e5 e2 e6 e7 (fun h => absurd h (by omega)) e8 (fun k u1 u2 => by rw [show k = n1 by omega, e9]; exact k8 (c := 3) (by omega) (by omega))
      have h13 := w8 (hiff.mp hpre)
      rw [h13, if_neg (nI_m1' (show n < 512 by omega)), c_place T C1.1] at o1
      simp only [Option.bind_some, c_note] at o1
      rw [c_ty (by omega) hNam] at o1
      simp only [Option.bind_some] at o1
      rw [x1] at o1
      simp only [Option.bind_some] at o1
      rw [x2] at o1
      simp only [Option.bind_some] at o1
      rw [x3] at o1
      simp only [Option.bind_some, x4, x5, mI_in (a := n1) (n := 512) (by omega) (by omega), nI_clamp (show n1 < 2 ^ 31 by omega), gd_t] at o1
      rw [show nI p + 1 = nI (p + 1) from nI_add p 1, x6] at o1
      exact o1
    · have hfx : fnx pl V pre l p = 4000 := by unfold fnx; rw [hfd]; exact if_pos ⟨rfl, hpre⟩
      have h13 := w9 (fun z => hpre (hiff.mpr z))
      rw [h13, if_pos rfl, hlo, C1.1.at_, show nI p + 1 = nI (p + 1) from nI_add p 1] at o1
      have hf := C1.2.2.2.2.1
      obtain ⟨A3, hA3⟩ : ∃ A3, A3 = ad6 (uI S1 13 (N1 b) (nI n)) (p + 1) := ⟨_, rfl⟩
      have r3 : ∀ a j : Nat, (a ≠ 3 ∨ j ≠ 6) → (a ≠ 13 ∨ j ≠ N1 b) → A3.1 a j = S1.1 a j := fun a j u1 u2 => by rw [hA3]; unfold ad6; rw [uI_ne (by omega), uI_ne (by omega)]
      have CA3 : Cz K pl V m S n ρ τ sz kn R A3 (ex N1 p n1) (ex M1 p ρ1) (ex L1 p τ1) (p + 1) dep sz γ n1 ρ1 τ1 (pl (p + 1)) (min f1 (fnx pl V pre l p)) := by
        rw [hA3, hfx, Nat.min_eq_left hf]
        exact Cz_B (Cz_ad T (Cz_nd C1 (by omega) (by omega)) hp) (by omega)
      refine fin A3 _ _ _ (N1 b) n1 (by rw [hA3]; exact o1) CA3 (Ag_ex N1 M1 L1 p n1 ρ1 τ1) (Nat.le_refl _) w1 w2 ⟨fun a k' u1 u2 u0 u3 u4 => ?_, fun k' u0 u3 => ?_, fun r hr' => ⟨?_, fun hne => ?_⟩, fun t ht => ?_⟩ ?_ ?_ ?_ ?_ (fun _ => ⟨b, hfd, rfl⟩) (fun c hc => ?_) (fun k u1 u2 => absurd u1 (by omega))
      · refine r3 a k' (by omega) ?_
        rcases u4 with z | z
        · exact Or.inl z
        · exact Or.inr (fun e => z (by rw [e]; exact hmemV b hbl))
      · rw [hA3]; rfl
      · exact r3 27 r (by omega) (by omega)
      · exact r3 26 r (by omega) (by omega)
      · exact r3 29 t (by omega) (by omega)
      · exact r3 26 (ρn + 1) (by omega) (by omega)
      · rw [r3 3 10 (by omega) (by omega)]; exact hlo
      · rw [r3 8 (N1 b) (by omega) (by omega), w5, hVb]
      · rw [r3 10 (N1 b) (by omega) (by omega)]; exact w7
      · obtain ⟨⟨y1, y2, y3, y4, y5, y6, y7, y8, y9⟩, hc1⟩ := hlm c hc
        unfold VJ
        rw [ex_le (show c ≤ p by omega), ex_le (show c + 1 ≤ p by omega), r3 7 _ (by omega) (by omega), r3 8 _ (by omega) (by omega), r3 10 _ (by omega) (by omega)]
        refine ⟨y1, y2, y3, y4, y5, by rw [hA3]; exact y6, y7, fun ⟨p', hp', hf'⟩ => ?_, fun hno => ?_⟩
        · by_cases hcb : N1 c = N1 b
          · rw [hcb, hA3]; unfold ad6; rw [uI_ne (by omega), uI_eq]
          · rw [r3 13 _ (by omega) (by omega)]
            rcases List.mem_cons.mp hp' with z | z
            · rw [z, hfd] at hf'
              cases hf'
              exact absurd rfl hcb
            · exact y8 ⟨p', z, hf'⟩
        · by_cases hcb : N1 c = N1 b
          · have hcb' : c = b := by
              rcases Nat.lt_trichotomy c b with z | z | z
              · have := (C1.2.1.2.2.2.1 (c + 1) b (by omega) (by omega)).1; omega
              · exact z
              · have := (C1.2.1.2.2.2.1 (b + 1) c (by omega) (by omega)).1; omega
            exact absurd ⟨p, List.mem_cons_self .., by rw [hcb']; exact hfd⟩ hno
          · rw [r3 13 _ (by omega) (by omega)]
            exact y9 (fun ⟨p', hp', hf'⟩ => hno ⟨p', List.mem_cons_of_mem _ hp', hf'⟩)
end CNX
