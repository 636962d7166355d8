/-! the class's parser: a program -/
/-- the functions of a program -/
def PO (K pl : Nat → Nat) (V : Nat → Int64) (S : im_S) (N M L : Nat → Nat) : TR → Nat → Nat → Nat → Prop
  | .append (.tag p (.append (.tag cnt .nil) x)) r, c, p0, e => p = p0 ∧ ∃ e1, FO K pl V S N M L c p cnt x e1 ∧ e1 ≤ e ∧ ((r = .nil ∧ e1 = e) ∨ (r ≠ .nil ∧ PO K pl V S N M L r (c + 1) e1 e))
  | _, _, _, _ => False
def clP : TR → List (Nat × TR)
  | .append (.tag _ (.append _ x)) r => cls x ++ clP r
  | _ => []
def fnP : TR → List Nat
  | .append (.tag p _) r => p :: fnP r
  | _ => []
/-- the first fault that reading finds in a program -/
def fP (K pl : Nat → Nat) (V : Nat → Int64) : TR → List Nat → Nat
  | .append (.tag p (.append (.tag cnt _) x)) r, fns => min (fF K pl V fns p cnt x) (fP K pl V r (fns ++ [p]))
  | _, _ => 4000
section CPG
variable {K pl : Nat → Nat} {V : Nat → Int64} {m fu : Nat} {S : im_S} {N M L : Nat → Nat} {p n ρ τ f : Nat} {fns : List Nat}
theorem FO_st {S S' : im_S} {N M L N' M' L' : Nat → Nat} {c p cnt e n ρ τ : Nat} {x : TR} (h : FO K pl V S N M L c p cnt x e) (hg : Gh N M L e n ρ τ []) (hF : FrF S S' n ρ τ (c + 1)) (hA : Ag N M L N' M' L' e) : FO K pl V S' N' M' L' c p cnt x e := by
  obtain ⟨h1, h2, h3, h4, h5, h6, h7, h8, h9, h10, ⟨h11, h12, h13, h14, h15⟩, h16, h17, b, e0, wx, hb, he, hj, hMb⟩ := h
  obtain ⟨g1, g2, g3, g4, -⟩ := hg
  have hxl := Wt_lt wx
  have hxr := Wt_rt wx
  obtain ⟨q1, q2, q3⟩ := hF.2.2.2.2 c (by omega)
  have mM := (g4 (p + 1) e (by omega) (Nat.le_refl _))
  have hN : ∀ j, j ∈ pms (p + 2) cnt → N' j = N j ∧ N' (j + 1) = N (j + 1) ∧ N j < n := fun j hjj => by
    have := hj j hjj
    have m1 := (g4 (j + 1) e (by omega) (Nat.le_refl _)).1
    have m2 := (h9 j hjj).1.1
    exact ⟨(hA j (by omega)).1, (hA (j + 1) (by omega)).1, by omega⟩
  have emap : (pms (p + 2) cnt).map N' = (pms (p + 2) cnt).map N := map_N (fun j hjj => (hN j hjj).1)
  have hr1 := (hA (rtk x) (by omega)).1
  have hr2 := (hA (rtk x + 1) (by omega)).1
  have mr := (g4 (rtk x + 1) e (by omega) (Nat.le_refl _)).1
  have hB : Sb S S' N M L b e0 (N e) := by
    have m1 := g4 b e (by omega) (Nat.le_refl _)
    have m2 := g4 e0 e (by omega) (Nat.le_refl _)
    refine Sb_Fw ⟨fun a k u1 u2 u3 u4 u5 => hF.1 a k u1 u2 (by omega), fun k u3 u4 => hF.2.1 k (by omega), fun r hr => ⟨(hF.2.2.1 r (by omega)).1, fun _ => (hF.2.2.1 r (by omega)).2⟩, fun t ht => hF.2.2.2.1 t (by omega)⟩
  have hMe : Mn N M L e0 := fun i j z1 z2 => g4 i j z1 (by omega)
  have hAe : Ag N M L N' M' L' e0 := fun j z => hA j (by omega)
  have mp := (hA p (by omega))
  have mp1 := (hA (p + 1) (by omega))
  unfold FO
  rw [mp.2.1, mp.2.2, mp1.2.1, mp1.2.2, emap, hr1, hr2]
  refine ⟨by rw [q3]; exact h1, by rw [q1]; exact h2, h3, h4, by rw [(hF.2.2.1 (M p) (by omega)).1]; exact h5, by rw [hF.2.2.2.1 (L p) (by omega)]; exact h6, h7, ?_, fun j hjj => ?_, ?_, ⟨h11, h12, h13, by rw [hF.1 9 _ (by omega) (by omega) (by omega)]; exact h14, by rw [hF.1 10 _ (by omega) (by omega) (by omega)]; exact h15⟩, ?_, fun hz => ?_, b, e0, wx, hb, he, hj, by rw [(hA b (by omega)).2.1]; exact hMb⟩
  · rw [q2]
    refine Chn_cp _ _ (fun j hjj => ?_) h8
    obtain ⟨i, hi, ei⟩ := List.mem_map.mp hjj
    have := (hN i hi).2.2
    exact hF.1 14 j (by omega) (by omega) (by omega)
  · obtain ⟨⟨t1, t2, t3, t4⟩, t5, t6, t7⟩ := h9 j hjj
    obtain ⟨n1, n2, n3⟩ := hN j hjj
    unfold vr
    rw [n1, n2, hF.1 7 _ (by omega) (by omega) n3, hF.1 8 _ (by omega) (by omega) n3, hF.2.1 _ n3, hF.1 17 _ (by omega) (by omega) n3]
    exact ⟨⟨t1, t2, t3, t4⟩, t5, t6, t7⟩
  · refine CI_cp h10 (fun i j z1 z2 => (g4 i j z1 z2).1) (fun j hjj => (hA j hjj).1) (by omega) (fun a k u1 u2 u3 => hF.1 a k (by omega) (by omega) (by omega)) (fun k u2 u3 => hF.2.1 k (by omega)) (fun a t u1 u2 u3 u4 u5 => ?_)
    have m1 := (g4 (t + 1) e (by omega) (Nat.le_refl _)).1
    exact hF.1 a (N t) (by omega) (by omega) (by omega)
  · rw [(hF.2.2.1 (M p) (by omega)).2]
    exact Seg_st hB hMe hAe (lvs x) _ _ (lvs_in wx) h16
  · have m1 := (g4 e0 e (by omega) (Nat.le_refl _)).1
    exact G_st wx hMe hAe hB (Or.inr (Or.inl m1)) (fun j hjj => hj j (List.mem_reverse.mp hjj)) hMb (by omega) (h17 hz)
end CPG
