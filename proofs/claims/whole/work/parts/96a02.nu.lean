/-! a number for each own token -/
def mgN (b : Nat) (ν1 ν2 : Nat → Nat) : Nat → Nat := fun i => if i < b then ν1 i else ν2 i
theorem mg_lo {b i : Nat} {ν1 ν2 : Nat → Nat} (h : i < b) : mgN b ν1 ν2 i = ν1 i := if_pos h
theorem mg_hi {b i : Nat} {ν1 ν2 : Nat → Nat} (h : b ≤ i) : mgN b ν1 ν2 i = ν2 i := if_neg (by omega)
section NUX
variable {K pl : Nat → Nat} {V : Nat → Int64} {m : Nat} {D : im_S} {lo hi rlo rhi : Nat}
def NuP (K pl : Nat → Nat) (V : Nat → Int64) (D : im_S) (lo hi rlo rhi : Nat) (x : TR) : Prop :=
  (∀ k, RepD K pl V D lo hi rlo rhi x 0 k → ∃ ν, OKs K pl V D lo hi rlo rhi ν x ∧ ν (otk x) = k) ∧ (∀ i, RepD K pl V D lo hi rlo rhi x 101 i → ∃ ν, OKs K pl V D lo hi rlo rhi ν x ∧ RwA D rlo rhi ν x i ∧ LL x) ∧ (∀ i, RepD K pl V D lo hi rlo rhi x 102 i → ∃ ν, OKs K pl V D lo hi rlo rhi ν x ∧ RwB pl V D rlo rhi ν x i ∧ LL x)
theorem NuP_x {c : Nat} {f : TR} (h : ∀ k, RepD K pl V D lo hi rlo rhi (.tag c f) 0 k → ∃ ν, OKs K pl V D lo hi rlo rhi ν (.tag c f) ∧ ν (otk (.tag c f)) = k) : NuP K pl V D lo hi rlo rhi (.tag c f) := ⟨h, fun i q => (show False from q).elim, fun i q => (show False from q).elim⟩
/-- an own token ahead of the rest -/
theorem OK_hd {x : TR} {p b e md : Nat} {ν : Nat → Nat} {k : Nat} (w : Wt K x b e md) (h : p < b) (o : OKs K pl V D lo hi rlo rhi ν x) : OKs K pl V D lo hi rlo rhi (mgN (p + 1) (fun _ => k) ν) x := (OK_cp w ν _ (fun i q1 q2 => mg_hi (by omega))).1 o
theorem OK_lo {x : TR} {p b e md : Nat} {ν ν2 : Nat → Nat} (w : Wt K x p e md) (h : e ≤ b) (o : OKs K pl V D lo hi rlo rhi ν x) : OKs K pl V D lo hi rlo rhi (mgN b ν ν2) x := (OK_cp w ν _ (fun i q1 q2 => mg_lo (by omega))).1 o
theorem OK_hi {x : TR} {p b e md : Nat} {ν ν2 : Nat → Nat} (w : Wt K x p e md) (h : b ≤ p) (o : OKs K pl V D lo hi rlo rhi ν x) : OKs K pl V D lo hi rlo rhi (mgN b ν2 ν) x := (OK_cp w ν _ (fun i q1 q2 => mg_hi (by omega))).1 o
set_option maxHeartbeats 1000000 in
theorem nu_ex {x : TR} {p e md : Nat} (w : Wt K x p e md) : NuP K pl V D lo hi rlo rhi x := by
  refine Wt_ind (K := K) (P := fun x p e md => NuP K pl V D lo hi rlo rhi x) ?_ ?_ ?_ ?_ ?_ ?_ ?_ ?_ ?_ ?_ ?_ ?_ ?_ ?_ ?_ (tsz x) x p e md (Nat.le_refl _) w
  · intro p md _
    refine NuP_x (fun k h => ⟨fun _ => k, ?_, rfl⟩)
    obtain ⟨h1, h2, -, -, nd, -, e1, e2⟩ := h
    exact fm_1.mpr ⟨⟨nd, e1, e2⟩, h1, h2⟩
  · intro p md _
    refine NuP_x (fun k h => ⟨fun _ => k, ?_, rfl⟩)
    obtain ⟨h1, h2, -, -, nd, -, e1, e2⟩ := h
    exact fm_1.mpr ⟨⟨nd, e1, e2⟩, h1, h2⟩
  · intro p md _
    refine NuP_x (fun k h => ⟨fun _ => k, ?_, rfl⟩)
    obtain ⟨h1, h2, -, -, nd, -, e1, e2⟩ := h
    exact fm_1.mpr ⟨⟨nd, e1, e2⟩, h1, h2⟩
  · intro p md _
    refine NuP_x (fun k h => ⟨fun _ => k, ?_, rfl⟩)
    obtain ⟨h1, h2, -, -, nd, i, e1, e2, -⟩ := h
    exact fm_1.mpr ⟨⟨nd, i, e1, e2, trivial, trivial⟩, h1, h2⟩
  · intro p as b md _ _ w1 ih
    refine NuP_x (fun k h => ?_)
    obtain ⟨h1, h2, -, -, nd, i, e1, e2, r1⟩ := h
    obtain ⟨ν1, o1, a1, z1⟩ := ih.2.1 i r1
    have g0 : mgN (p + 1) (fun _ => k) ν1 p = k := mg_lo (by omega)
    refine ⟨mgN (p + 1) (fun _ => k) ν1, fm_c.mpr ⟨⟨⟨by rw [g0]; exact nd, i, by rw [g0]; exact e1, by rw [g0]; exact e2, (OK_cp (lo := lo) (hi := hi) (pl := pl) (V := V) w1 ν1 _ (fun i q1 q2 => mg_hi (by omega))).2.1 i a1, z1⟩, ?_, ?_⟩, OK_hd w1 (by omega) o1⟩, g0⟩
    · show lo ≤ mgN (p + 1) (fun _ => k) ν1 p; rw [g0]; exact h1
    · show mgN (p + 1) (fun _ => k) ν1 p < hi; rw [g0]; exact h2
  · intro p x y b e md _ w1 w2 ih1 ih2
    refine NuP_x (fun k h => ?_)
    obtain ⟨h1, h2, -, -, nd, k1, k2, e1, e2, r1, r2⟩ := h
    obtain ⟨ν1, o1, a1⟩ := ih1.1 k1 r1
    obtain ⟨ν2, o2, a2⟩ := ih2.1 k2 r2
    have l1 := Wt_lt w1
    have t1 := Wt_ot w1
    have t2 := Wt_ot w2
    have g0 : mgN (p + 1) (fun _ => k) (mgN b ν1 ν2) p = k := mg_lo (by omega)
    have g1 : mgN (p + 1) (fun _ => k) (mgN b ν1 ν2) (otk x) = k1 := by rw [mg_hi (by omega), mg_lo (by omega)]; exact a1
    have g2 : mgN (p + 1) (fun _ => k) (mgN b ν1 ν2) (otk y) = k2 := by rw [mg_hi (by omega), mg_hi (by omega)]; exact a2
    refine ⟨mgN (p + 1) (fun _ => k) (mgN b ν1 ν2), fm_c.mpr ⟨⟨⟨by rw [g0]; exact nd, by rw [g0, g1]; exact e1, by rw [g0, g2]; exact e2⟩, ?_, ?_⟩, fm_a.mpr ⟨OK_hd w1 (by omega) (OK_lo w1 (Nat.le_refl _) o1), OK_hd w2 (by omega) (OK_hi w2 (by omega) o2)⟩⟩, g0⟩
    · show lo ≤ mgN (p + 1) (fun _ => k) (mgN b ν1 ν2) p; rw [g0]; exact h1
    · show mgN (p + 1) (fun _ => k) (mgN b ν1 ν2) p < hi; rw [g0]; exact h2
  · intro p x y z b c e md w1 w2 w3 ih1 ih2 ih3
    refine NuP_x (fun k h => ?_)
    obtain ⟨h1, h2, -, -, nd, ⟨k1, e1, r1⟩, k2, k3, e2, e3, r2, r3⟩ := h
    obtain ⟨ν1, o1, a1⟩ := ih1.1 k1 r1
    obtain ⟨ν2, o2, a2⟩ := ih2.1 k2 r2
    obtain ⟨ν3, o3, a3⟩ := ih3.1 k3 r3
    have l1 := Wt_lt w1
    have l2 := Wt_lt w2
    have t1 := Wt_ot w1
    have t2 := Wt_ot w2
    have t3 := Wt_ot w3
    have g0 : mgN (p + 1) (fun _ => k) (mgN b ν1 (mgN c ν2 ν3)) p = k := mg_lo (by omega)
    have g1 : mgN (p + 1) (fun _ => k) (mgN b ν1 (mgN c ν2 ν3)) (otk x) = k1 := by rw [mg_hi (by omega), mg_lo (by omega)]; exact a1
    have g2 : mgN (p + 1) (fun _ => k) (mgN b ν1 (mgN c ν2 ν3)) (otk y) = k2 := by rw [mg_hi (by omega), mg_hi (by omega), mg_lo (by omega)]; exact a2
    have g3 : mgN (p + 1) (fun _ => k) (mgN b ν1 (mgN c ν2 ν3)) (otk z) = k3 := by rw [mg_hi (by omega), mg_hi (by omega), mg_hi (by omega)]; exact a3
    refine ⟨mgN (p + 1) (fun _ => k) (mgN b ν1 (mgN c ν2 ν3)), fm_c.mpr ⟨⟨⟨by rw [g0]; exact nd, by rw [g0, g1]; exact e1, by rw [g0, g2]; exact e2, by rw [g0, g3]; exact e3⟩, ?_, ?_⟩, fm_a.mpr ⟨OK_hd w1 (by omega) (OK_lo w1 (Nat.le_refl _) o1), fm_a.mpr ⟨OK_hd w2 (by omega) (OK_hi w2 (by omega) (OK_lo w2 (Nat.le_refl _) o2)), OK_hd w3 (by omega) (OK_hi w3 (by omega) (OK_hi w3 (by omega) o3))⟩⟩⟩, g0⟩
    · show lo ≤ mgN (p + 1) (fun _ => k) (mgN b ν1 (mgN c ν2 ν3)) p; rw [g0]; exact h1
    · show mgN (p + 1) (fun _ => k) (mgN b ν1 (mgN c ν2 ν3)) p < hi; rw [g0]; exact h2
  · intro p fs c ns g b d f e md _ _ w1 w2 w3 w4 ih1 ih2 ih3 ih4
    refine NuP_x (fun k h => ?_)
    obtain ⟨h1, h2, -, -, nd, ⟨i, e1, e2, r1⟩, ⟨k2, e3, r2⟩, ⟨i', e4, e5, r3⟩, k4, e6, r4⟩ := h
    obtain ⟨ν1, o1, a1, z1⟩ := ih1.2.2 i r1
    obtain ⟨ν2, o2, a2⟩ := ih2.1 k2 r2
    obtain ⟨ν3, o3, a3, z3⟩ := ih3.2.2 i' r3
    obtain ⟨ν4, o4, a4⟩ := ih4.1 k4 r4
    have l1 := Wt_lt w1
    have l2 := Wt_lt w2
    have l3 := Wt_lt w3
    have l4 := Wt_lt w4
    have t2 := Wt_ot w2
    have t4 := Wt_ot w4
    obtain ⟨ν, hν⟩ : ∃ ν, ν = mgN (p + 1) (fun _ => k) (mgN b ν1 (mgN d ν2 (mgN f ν3 ν4))) := ⟨_, rfl⟩
    have g0 : ν p = k := by rw [hν]; exact mg_lo (by omega)
    have g2 : ν (otk c) = k2 := by rw [hν, mg_hi (by omega), mg_hi (by omega), mg_lo (by omega)]; exact a2
    have g4 : ν (otk g) = k4 := by rw [hν, mg_hi (by omega), mg_hi (by omega), mg_hi (by omega), mg_hi (by omega)]; exact a4
    have q1 : ∀ i, p + 1 ≤ i → i < b → ν i = ν1 i := fun i u1 u2 => by rw [hν, mg_hi (by omega), mg_lo (by omega)]
    have q2 : ∀ i, b + 1 ≤ i → i < d → ν i = ν2 i := fun i u1 u2 => by rw [hν, mg_hi (by omega), mg_hi (by omega), mg_lo (by omega)]
    have q3 : ∀ i, d + 1 ≤ i → i < f → ν i = ν3 i := fun i u1 u2 => by rw [hν, mg_hi (by omega), mg_hi (by omega), mg_hi (by omega), mg_lo (by omega)]
    have q4 : ∀ i, f + 1 ≤ i → i < e → ν i = ν4 i := fun i u1 u2 => by rw [hν, mg_hi (by omega), mg_hi (by omega), mg_hi (by omega), mg_hi (by omega)]
    refine ⟨ν, fm_c.mpr ⟨⟨⟨by rw [g0]; exact nd, ⟨i, by rw [g0]; exact e1, by rw [g0]; exact e2, (OK_cp (K := K) (lo := lo) (hi := hi) (D := D) w1 ν1 ν q1).2.2 i a1, z1⟩, by rw [g0, g2]; exact e3, ⟨i', by rw [g0]; exact e4, by rw [g0]; exact e5, (OK_cp (K := K) (lo := lo) (hi := hi) (D := D) w3 ν3 ν q3).2.2 i' a3, z3⟩, by rw [g0, g4]; exact e6⟩, ?_, ?_⟩, fm_a.mpr ⟨(OK_cp w1 ν1 ν q1).1 o1, fm_a.mpr ⟨(OK_cp w2 ν2 ν q2).1 o2, fm_a.mpr ⟨(OK_cp w3 ν3 ν q3).1 o3, (OK_cp w4 ν4 ν q4).1 o4⟩⟩⟩⟩, g0⟩
    · show lo ≤ ν p; rw [g0]; exact h1
    · show ν p < hi; rw [g0]; exact h2
  · intro p x e md _ w1 ih
    refine NuP_x (fun k h => ?_)
    obtain ⟨h1, h2, -, -, nd, e0, k1, e1, r1⟩ := h
    obtain ⟨ν1, o1, a1⟩ := ih.1 k1 r1
    have t1 := Wt_ot w1
    have g0 : mgN (p + 1) (fun _ => k) ν1 p = k := mg_lo (by omega)
    have g1 : mgN (p + 1) (fun _ => k) ν1 (otk x) = k1 := by rw [mg_hi (by omega)]; exact a1
    refine ⟨mgN (p + 1) (fun _ => k) ν1, fm_c.mpr ⟨⟨⟨by rw [g0]; exact nd, by rw [g0]; exact e0, by rw [g0, g1]; exact e1⟩, ?_, ?_⟩, OK_hd w1 (by omega) o1⟩, g0⟩
    · show lo ≤ mgN (p + 1) (fun _ => k) ν1 p; rw [g0]; exact h1
    · show mgN (p + 1) (fun _ => k) ν1 p < hi; rw [g0]; exact h2
  · intro p j x y e md _ w1 w2 ih1 ih2
    refine NuP_x (fun k h => ?_)
    obtain ⟨h1, h2, -, -, nd, k1, k2, e1, e2, e3, r1, r2⟩ := h
    obtain ⟨ν1, o1, a1⟩ := ih1.1 k1 r1
    obtain ⟨ν2, o2, a2⟩ := ih2.1 k2 r2
    have t1 := Wt_ot w1
    have t2 := Wt_ot w2
    have g0 : mgN j ν1 (mgN (j + 1) (fun _ => k) ν2) j = k := by rw [mg_hi (by omega), mg_lo (by omega)]
    have g1 : mgN j ν1 (mgN (j + 1) (fun _ => k) ν2) (otk x) = k1 := by rw [mg_lo (by omega)]; exact a1
    have g2 : mgN j ν1 (mgN (j + 1) (fun _ => k) ν2) (otk y) = k2 := by rw [mg_hi (by omega), mg_hi (by omega)]; exact a2
    refine ⟨mgN j ν1 (mgN (j + 1) (fun _ => k) ν2), fm_c.mpr ⟨⟨⟨by rw [g0]; exact nd, by rw [g0, g1]; exact e1, by rw [g0, g2]; exact e2, by rw [g0, g1]; exact e3⟩, ?_, ?_⟩, fm_a.mpr ⟨OK_lo w1 (Nat.le_refl _) o1, OK_hi w2 (by omega) (OK_hd w2 (by omega) o2)⟩⟩, g0⟩
    · show lo ≤ mgN j ν1 (mgN (j + 1) (fun _ => k) ν2) j; rw [g0]; exact h1
    · show mgN j ν1 (mgN (j + 1) (fun _ => k) ν2) j < hi; rw [g0]; exact h2
  · intro p j x y b md w1 w2 ih1 ih2
    refine NuP_x (fun k h => ?_)
    obtain ⟨h1, h2, -, -, nd, k1, k2, e1, e2, e3, r1, r2⟩ := h
    obtain ⟨ν1, o1, a1⟩ := ih1.1 k1 r1
    obtain ⟨ν2, o2, a2⟩ := ih2.1 k2 r2
    have t1 := Wt_ot w1
    have t2 := Wt_ot w2
    have g0 : mgN j ν1 (mgN (j + 1) (fun _ => k) ν2) j = k := by rw [mg_hi (by omega), mg_lo (by omega)]
    have g1 : mgN j ν1 (mgN (j + 1) (fun _ => k) ν2) (otk x) = k1 := by rw [mg_lo (by omega)]; exact a1
    have g2 : mgN j ν1 (mgN (j + 1) (fun _ => k) ν2) (otk y) = k2 := by rw [mg_hi (by omega), mg_hi (by omega)]; exact a2
    refine ⟨mgN j ν1 (mgN (j + 1) (fun _ => k) ν2), fm_c.mpr ⟨⟨⟨by rw [g0]; exact nd, by rw [g0, g1]; exact e1, by rw [g0, g2]; exact e2, by rw [g0, g1]; exact e3⟩, ?_, ?_⟩, fm_a.mpr ⟨OK_lo w1 (Nat.le_refl _) o1, OK_hi w2 (by omega) (OK_hd w2 (by omega) o2)⟩⟩, g0⟩
    · show lo ≤ mgN j ν1 (mgN (j + 1) (fun _ => k) ν2) j; rw [g0]; exact h1
    · show mgN j ν1 (mgN (j + 1) (fun _ => k) ν2) j < hi; rw [g0]; exact h2
  · intro p x y b e md _ _ w1 w2 ih1 ih2
    refine NuP_x (fun k h => ?_)
    obtain ⟨h1, h2, -, -, nd, rr, k1, k2, e1, e2, r1, r2⟩ := h
    obtain ⟨ν1, o1, a1⟩ := ih1.1 k1 r1
    obtain ⟨ν2, o2, a2⟩ := ih2.1 k2 r2
    have l1 := Wt_lt w1
    have t1 := Wt_ot w1
    have t2 := Wt_ot w2
    have g0 : mgN (p + 1) (fun _ => k) (mgN b ν1 ν2) p = k := mg_lo (by omega)
    have g1 : mgN (p + 1) (fun _ => k) (mgN b ν1 ν2) (otk x) = k1 := by rw [mg_hi (by omega), mg_lo (by omega)]; exact a1
    have g2 : mgN (p + 1) (fun _ => k) (mgN b ν1 ν2) (otk y) = k2 := by rw [mg_hi (by omega), mg_hi (by omega)]; exact a2
    refine ⟨mgN (p + 1) (fun _ => k) (mgN b ν1 ν2), fm_c.mpr ⟨⟨⟨by rw [g0]; exact nd, by rw [g0, g1]; exact e1, by rw [g0, g2]; exact e2, by rw [g0]; exact rr⟩, ?_, ?_⟩, fm_a.mpr ⟨OK_hd w1 (by omega) (OK_lo w1 (Nat.le_refl _) o1), OK_hd w2 (by omega) (OK_hi w2 (by omega) o2)⟩⟩, g0⟩
    · show lo ≤ mgN (p + 1) (fun _ => k) (mgN b ν1 ν2) p; rw [g0]; exact h1
    · show mgN (p + 1) (fun _ => k) (mgN b ν1 ν2) p < hi; rw [g0]; exact h2
  · intro p x b md w1 ih
    refine NuP_x (fun k h => ?_)
    obtain ⟨h1, h2, -, -, nd, e0, k1, e1, r1⟩ := h
    obtain ⟨ν1, o1, a1⟩ := ih.1 k1 r1
    have t1 := Wt_ot w1
    have g0 : mgN (p + 1) (fun _ => k) ν1 p = k := mg_lo (by omega)
    have g1 : mgN (p + 1) (fun _ => k) ν1 (otk x) = k1 := by rw [mg_hi (by omega)]; exact a1
    refine ⟨mgN (p + 1) (fun _ => k) ν1, fm_c.mpr ⟨⟨⟨by rw [g0]; exact nd, by rw [g0]; exact e0, by rw [g0, g1]; exact e1⟩, ?_, ?_⟩, OK_hd w1 (by omega) o1⟩, g0⟩
    · show lo ≤ mgN (p + 1) (fun _ => k) ν1 p; rw [g0]; exact h1
    · show mgN (p + 1) (fun _ => k) ν1 p < hi; rw [g0]; exact h2
  · intro p x b md hmd _ w1 ih
    refine ⟨fun k h => (show False from h).elim, fun i h => ?_, fun i h => ?_⟩
    · obtain ⟨h1, h2, ⟨k1, e1, r1⟩, -⟩ := h
      obtain ⟨ν1, o1, a1⟩ := ih.1 k1 r1
      exact ⟨ν1, fm_a.mpr ⟨o1, fun c hc => absurd hc List.not_mem_nil⟩, ⟨h1, h2, by rw [a1]; exact e1, trivial⟩, trivial⟩
    · obtain ⟨h1, h2, ⟨e0, e0', k1, e1, r1⟩, -⟩ := h
      obtain ⟨ν1, o1, a1⟩ := ih.1 k1 r1
      exact ⟨ν1, fm_a.mpr ⟨o1, fun c hc => absurd hc List.not_mem_nil⟩, ⟨h1, h2, e0, e0', by rw [a1]; exact e1, trivial⟩, trivial⟩
  · intro p x l b e md hmd _ _ w1 w2 ih1 ih2
    have l1 := Wt_lt w1
    have t1 := Wt_ot w1
    refine ⟨fun k h => (show False from h).elim, fun i h => ?_, fun i h => ?_⟩
    · obtain ⟨h1, h2, ⟨k1, e1, r1⟩, h3⟩ := h
      obtain ⟨ν1, o1, a1⟩ := ih1.1 k1 r1
      obtain ⟨ν2, o2, a2, z2⟩ := ih2.2.1 (i + 1) h3
      have g1 : mgN b ν1 ν2 (otk x) = k1 := by rw [mg_lo (by omega)]; exact a1
      exact ⟨mgN b ν1 ν2, fm_a.mpr ⟨OK_lo w1 (Nat.le_refl _) o1, OK_hi w2 (by omega) o2⟩, ⟨h1, h2, by rw [g1]; exact e1, (OK_cp (lo := lo) (hi := hi) (pl := pl) (V := V) w2 ν2 _ (fun i q1 q2 => mg_hi (by omega))).2.1 _ a2⟩, z2⟩
    · obtain ⟨h1, h2, ⟨e0, e0', k1, e1, r1⟩, h3⟩ := h
      obtain ⟨ν1, o1, a1⟩ := ih1.1 k1 r1
      obtain ⟨ν2, o2, a2, z2⟩ := ih2.2.2 (i + 1) h3
      have g1 : mgN b ν1 ν2 (otk x) = k1 := by rw [mg_lo (by omega)]; exact a1
      exact ⟨mgN b ν1 ν2, fm_a.mpr ⟨OK_lo w1 (Nat.le_refl _) o1, OK_hi w2 (by omega) o2⟩, ⟨h1, h2, e0, e0', by rw [g1]; exact e1, (OK_cp (lo := lo) (hi := hi) (pl := pl) (V := V) w2 ν2 _ (fun i q1 q2 => mg_hi (by omega))).2.2 _ a2⟩, z2⟩
end NUX
