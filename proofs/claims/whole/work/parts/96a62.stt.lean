/-! steps of the reference: a table is made -/
theorem sz21 : ∀ i : Nat, i < 21 → (Int64.ofNat i).toInt32 = nI i := by decide
theorem sz_nat {v : Int64} (h : ¬ bad20 v) : ∃ n, n ≤ 20 ∧ v = Int64.ofNat n ∧ v.toInt32 = nI n ∧ i64N v = n := by
  have h0 : ¬ (lg_cmp v 0 : Int32) < 0 := fun q => h (.inl q)
  have h1 : (lg_cmp v 20 : Int32) ≤ 0 := Classical.byContradiction (fun q => h (.inr q))
  rw [lg_cmp_lt, Int64.lt_iff_toInt_lt] at h0
  rw [lg_cmp_le, Int64.le_iff_toInt_le] at h1
  have e0 : (0 : Int64).toInt = 0 := rfl
  have e1 : (20 : Int64).toInt = 20 := rfl
  rw [e0] at h0
  rw [e1] at h1
  obtain ⟨i, hi⟩ : ∃ i : Nat, v.toInt = i := ⟨v.toInt.toNat, by omega⟩
  have hv : v = Int64.ofNat i := by
    apply Int64.toInt_inj.mp
    rw [hi, Int64.toInt_ofNat_of_lt (show i < 2 ^ 63 by omega)]
  have hq := sz21 i (by omega)
  refine ⟨i, by omega, hv, by rw [hv]; exact hq, ?_⟩
  unfold i64N
  rw [hv, hq, nI_clamp (by omega)]
section STT
variable {K pl : Nat → Nat} {V : Nat → Int64} {m fr e n' r' fu : Nat} {y : TR} {q0 : Nat} {ar : Nat → Int64} {ν ρ : Nat → Nat} {W : Nat → Int32 × Int32 × Int32} {S S1 Sa : im_S} {nA nS nT : Nat} {A : Nat → TPth} {b : Nat → Nat} {vals : TPth → Nat → Option TVal} {lk : TPth → Nat → Option TPth} {M : Nat → TPth × Nat} {Lv evs : List TEv} {f1 f2 : Nat → Nat} {x0 k0 j r : Nat} {γ : List Nat}
def tbH (A : Nat → TPth) (b : Nat → Nat) (f1 f2 : Nat → Nat) (nA nS x0 j : Nat) (P : TPth) (i : Nat) (A' : Nat → TPth) (b' : Nat → Nat) (c1 c3 : Nat → Int32) (g1 g2 : Nat → Nat) : Prop := (∀ x, x < nA → A' x = A x ∧ b' x = b x) ∧ (∀ i', i' < i → A' (nA + i') = (4 * j, i') :: P ∧ c1 (nA + i') = nI x0 ∧ c3 (nA + i') = nI i') ∧ ∀ s, s < nS → g1 s = f1 s ∧ g2 s = f2 s
theorem tb_L (T : TH K pl V m) (hfu : 600 ≤ fu) (R : RHd K pl V m fr y e n' r' ν ρ W Sa) {n k len t1 t2 s0 : Nat} {P : TPth} {z4 : Int32} (hn : n ≤ 20) (hk : k < 1200) (h110 : Sa.1 110 k = nI (ρ (4 * j))) (hPk : ∀ i, POk V y ((4 * j, i) :: P)) (hlen : len = (rgL y (4 * j)).length) (hl : len ≤ 496) (hb : nA ≤ 21021 ∧ nS ≤ 496496) (ht1 : t1 = cwR 1 0 y (4 * j)) (ht2 : t2 = cwR 0 1 y (4 * j)) :
    ∀ (d i nf : Nat) (S2 : im_S) (A' : Nat → TPth) (b' : Nat → Nat) (c1 c2 c3 : Nat → Int32) (g1 g2 : Nat → Nat), i + d = n → d < nf → EnL y ρ Sa S2 nA nS i (nS + i * len) A' b' c1 c2 c3 g1 g2 (i * t1) (i * t2) → tbH A b f1 f2 nA nS x0 j P i A' b' c1 c3 g1 g2 → ∃ (S3 : im_S) (A' : Nat → TPth) (b' : Nat → Nat) (c1 c2 c3 : Nat → Int32) (g1 g2 : Nat → Nat), EnL y ρ Sa S3 nA nS n (nS + n * len) A' b' c1 c2 c3 g1 g2 (n * t1) (n * t2) ∧ tbH A b f1 f2 nA nS x0 j P n A' b' c1 c3 g1 g2 ∧ f_X11_table_L110 fu nf (nI x0) (nI k) (nI s0) z4 (nI n) (nI i) S2 = (f_X11_event (nI s0) 3 ((((S3.1 75 68) + 1) - 1).toInt64) (uI (uI S3 75 72 ((S3.1 75 72) + nI n)) 75 68 ((S3.1 75 68) + 1))).bind (fun qS2 => gd (z_b qS2.1) (some (qS2.1, qS2.2))) := by
  intro d
  induction d with
  | zero =>
    intro i nf S2 A' b' c1 c2 c3 g1 g2 hi hnf hE hH
    obtain ⟨nf, rfl⟩ : ∃ z, nf = z + 1 := ⟨nf - 1, by omega⟩
    have : i = n := by omega
    subst this
    refine ⟨S2, A', b', c1, c2, c3, g1, g2, hE, hH, ?_⟩
    rw [f_X11_table_L110, if_pos ((mI_le (a := i) (b := i) (by omega) (by omega)).mpr (Nat.le_refl _))]
  | succ d ih =>
    intro i nf S2 A' b' c1 c2 c3 g1 g2 hi hnf hE hH
    obtain ⟨nf, rfl⟩ : ∃ z, nf = z + 1 := ⟨nf - 1, by omega⟩
    have hil : i * len ≤ 20 * 496 := Nat.mul_le_mul (by omega) hl
    have hd : hdR ((4 * j, i) :: P) = 4 * j := rfl
    obtain ⟨S3, v1, v2⟩ := EnL_sn (fu := fu) T hfu R hE (hPk i) (o := nI x0) (x3 := -1) (x4 := nI i) (by omega) (by rw [hd, ← hlen]; omega)
    rw [hd] at v1
    rw [hd, ← hlen, ← ht1, ← ht2, show nS + i * len + len = nS + (i + 1) * len by rw [Nat.succ_mul]; omega, show i * t1 + t1 = (i + 1) * t1 from (Nat.succ_mul i t1).symm, show i * t2 + t2 = (i + 1) * t2 from (Nat.succ_mul i t2).symm] at v2
    obtain ⟨H1, H2, H3⟩ := hH
    obtain ⟨S4, A2, b2, d1, d2, d3, e1, e2, r1, r2, r3⟩ := ih (i + 1) nf S3 _ _ _ _ _ _ _ (by omega) (by omega) v2 ⟨fun x hx => ⟨by rw [upN_ne (by omega)]; exact (H1 x hx).1, by rw [upN_ne (by omega)]; exact (H1 x hx).2⟩, fun i' hi' => by
      by_cases c : i' = i
      · rw [c, upN_eq, upN_eq, upN_eq]
        exact ⟨rfl, rfl, rfl⟩
      · rw [upN_ne (by omega), upN_ne (by omega), upN_ne (by omega)]
        exact H2 i' (by omega), fun s hs => ⟨by rw [exF_lo (by omega)]; exact (H3 s hs).1, by rw [exF_lo (by omega)]; exact (H3 s hs).2⟩⟩
    refine ⟨S4, A2, b2, d1, d2, d3, e1, e2, r1, r2, ?_⟩
    have h110' : S2.1 110 k = nI (ρ (4 * j)) := by
      rw [hE.2.2.2.2.2.2.1 110 k (by omega) (by omega) (by omega)]
      exact h110
    rw [f_X11_table_L110, if_neg (fun q => by have := (mI_le (a := n) (b := i) (by omega) (by omega)).mp q; omega), mI_in (a := k) (n := 1200) (by omega) hk, nI_clamp (show k < 2 ^ 31 by omega), h110', v1, show nI i + 1 = nI (i + 1) from nI_add i 1]
    exact r3
end STT
