/-! the class's parser: a program -/
/-- the functions of a program -/
def PO (K pl : Nat → Nat) (V : Nat → Int64) (S : im_S) (N M L : Nat → Nat) : TR → Nat → Nat → Nat → Prop
  | .append (.tag p (.append (.tag cnt .nil) x)) r, c, p0, e => p = p0 ∧ ∃ e1, FO K pl V S N M L c p cnt x e1 ∧ e1 ≤ e ∧ ((r = .nil ∧ e1 = e) ∨ (r ≠ .nil ∧ PO K pl V S N M L r (c + 1) e1 e))
  | _, _, _, _ => False
def clP : TR → List (Nat × TR)
  | .append (.tag _ (.append _ x)) r => cls x ++ clP r
  | _ => []
def fnP : TR → List Nat
  | .append (.tag p _) r => p :: fnP r
  | _ => []
/-- the first fault that reading finds in a program -/
def fP (K pl : Nat → Nat) (V : Nat → Int64) : TR → List Nat → Nat
  | .append (.tag p (.append (.tag cnt _) x)) r, fns => min (fF K pl V fns p cnt x) (fP K pl V r (fns ++ [p]))
  | _, _ => 4000
section CPG
variable {K pl : Nat → Nat} {V : Nat → Int64} {m fu : Nat} {S : im_S} {N M L : Nat → Nat} {p n ρ τ f : Nat} {fns : List Nat}
theorem FO_st {S S' : im_S} {N M L N' M' L' : Nat → Nat} {c p cnt e n ρ τ : Nat} {x : TR} (h : FO K pl V S N M L c p cnt x e) (hg : Gh N M L e n ρ τ []) (hF : FrF S S' n ρ τ (c + 1)) (hA : Ag N M L N' M' L' e) : FO K pl V S' N' M' L' c p cnt x e := by
  obtain ⟨h1, h2, h3, h4, h5, h6, h7, h8, h9, h10, ⟨h11, h12, h13, h14, h15⟩, h16, h17, b, e0, wx, hb, he, hj, hMb⟩ := h
  obtain ⟨g1, g2, g3, g4, -⟩ := hg
  have hxl := Wt_lt wx
  have hxr := Wt_rt wx
  obtain ⟨q1, q2, q3⟩ := hF.2.2.2.2 c (by omega)
  have mM := (g4 (p + 1) e (by omega) (Nat.le_refl _))
  have hN : ∀ j, j ∈ pms (p + 2) cnt → N' j = N j ∧ N' (j + 1) = N (j + 1) ∧ N j < n := fun j hjj => by
    have := hj j hjj
    have m1 := (g4 (j + 1) e (by omega) (Nat.le_refl _)).1
    have m2 := (h9 j hjj).1.1
    exact ⟨(hA j (by omega)).1, (hA (j + 1) (by omega)).1, by omega⟩
  have emap : (pms (p + 2) cnt).map N' = (pms (p + 2) cnt).map N := map_N (fun j hjj => (hN j hjj).1)
  have hr1 := (hA (rtk x) (by omega)).1
  have hr2 := (hA (rtk x + 1) (by omega)).1
  have mr := (g4 (rtk x + 1) e (by omega) (Nat.le_refl _)).1
  have hB : Sb S S' N M L b e0 (N e) := by
    have m1 := g4 b e (by omega) (Nat.le_refl _)
    have m2 := g4 e0 e (by omega) (Nat.le_refl _)
    refine Sb_Fw ⟨fun a k u1 u2 u3 u4 u5 => hF.1 a k u1 u2 (by omega), fun k u3 u4 => hF.2.1 k (by omega), fun r hr => ⟨(hF.2.2.1 r (by omega)).1, fun _ => (hF.2.2.1 r (by omega)).2⟩, fun t ht => hF.2.2.2.1 t (by omega)⟩
  have hMe : Mn N M L e0 := fun i j z1 z2 => g4 i j z1 (by omega)
  have hAe : Ag N M L N' M' L' e0 := fun j z => hA j (by omega)
  have mp := (hA p (by omega))
  have mp1 := (hA (p + 1) (by omega))
  unfold FO
  rw [mp.2.1, mp.2.2, mp1.2.1, mp1.2.2, emap, hr1, hr2]
  refine ⟨by rw [q3]; exact h1, by rw [q1]; exact h2, h3, h4, by rw [(hF.2.2.1 (M p) (by omega)).1]; exact h5, by rw [hF.2.2.2.1 (L p) (by omega)]; exact h6, h7, ?_, fun j hjj => ?_, ?_, ⟨h11, h12, h13, by rw [hF.1 9 _ (by omega) (by omega) (by omega)]; exact h14, by rw [hF.1 10 _ (by omega) (by omega) (by omega)]; exact h15⟩, ?_, fun hz => ?_, b, e0, wx, hb, he, hj, by rw [(hA b (by omega)).2.1]; exact hMb⟩
  · rw [q2]
    refine Chn_cp _ _ (fun j hjj => ?_) h8
    obtain ⟨i, hi, ei⟩ := List.mem_map.mp hjj
    have := (hN i hi).2.2
    exact hF.1 14 j (by omega) (by omega) (by omega)
  · obtain ⟨⟨t1, t2, t3, t4⟩, t5, t6, t7⟩ := h9 j hjj
    obtain ⟨n1, n2, n3⟩ := hN j hjj
    unfold vr
    rw [n1, n2, hF.1 7 _ (by omega) (by omega) n3, hF.1 8 _ (by omega) (by omega) n3, hF.2.1 _ n3, hF.1 17 _ (by omega) (by omega) n3]
    exact ⟨⟨t1, t2, t3, t4⟩, t5, t6, t7⟩
  · refine CI_cp h10 (fun i j z1 z2 => (g4 i j z1 z2).1) (fun j hjj => (hA j hjj).1) (by omega) (fun a k u1 u2 u3 => hF.1 a k (by omega) (by omega) (by omega)) (fun k u2 u3 => hF.2.1 k (by omega)) (fun a t u1 u2 u3 u4 u5 => ?_)
    have m1 := (g4 (t + 1) e (by omega) (Nat.le_refl _)).1
    exact hF.1 a (N t) (by omega) (by omega) (by omega)
  · rw [(hF.2.2.1 (M p) (by omega)).2]
    exact Seg_st hB hMe hAe (lvs x) _ _ (lvs_in wx) h16
  · have m1 := (g4 e0 e (by omega) (Nat.le_refl _)).1
    exact G_st wx hMe hAe hB (Or.inr (Or.inl m1)) (fun j hjj => hj j (List.mem_reverse.mp hjj)) hMb (by omega) (h17 hz)
/-- the end of reading: the calls, then the answer -/
def lk (fu : Nat) (S : im_S) : Option (Int32 × im_S) := (f_X7_linkCalls fu S).bind (fun qS21 => if (qS21.2.1 5 0 : Int32) ≠ 0 then (some (0, qS21.2)) else (some (1, qS21.2)))
theorem l51_0 {nf : Nat} {x2 z4 : Int32} (h : S.1 5 0 = 1) : f_X7_read_L51 fu (nf + 1) x2 0 z4 S = some (0, S) := by
  have h1 : (if (S.1 5 0 : Int32) ≠ 0 then (some ((0 : Int32), S)) else (some (1, S))) = some (0, S) := by rw [h]; rfl
  rw [f_X7_read_L51]
  by_cases z : (8 : Int32) < z4
  · rw [if_pos z, if_pos rfl]; exact h1
  · rw [if_neg z, if_pos rfl, if_pos rfl]; exact h1
theorem l51_end (T : TH K pl V m) {nf : Nat} {x2 : Int32} (H : Hz K pl V m S N M L p n ρ τ f fns) (h : K p = 0) : f_X7_read_L51 fu (nf + 1) x2 1 (nI fns.length) S = lk fu S := by
  have h8 := H.2.2.2.2.2.2.2.2.2.2.2.2.2
  have c8 : ¬ (8 : Int32) < nI fns.length := fun z => by have := (mI_lt (a := 8) (b := fns.length) (by omega) (by omega)).mp z; omega
  rw [f_X7_read_L51, if_neg c8, if_neg (show ¬ (1 : Int32) = 0 by decide), h_kind T H]
  simp only [Option.bind_some]
  rw [h, if_pos (show nI 0 = (0 : Int32) from rfl), if_neg (show ¬ (1 : Int32) = 0 by decide)]
  rfl
theorem hx_bind {nf : Nat} {x2 z4 : Int32} : ((f_X7_header fu S).bind (fun qS29 => if (qS29.1 : Int32) = 0 then (f_X7_read_L51 fu nf x2 0 z4 qS29.2) else ((f_X7_expression fu qS29.2).bind (fun qS33 => if (qS33.1 : Int32) = 0 then (f_X7_read_L51 fu nf x2 0 z4 qS33.2) else (f_X7_read_L51 fu nf x2 1 z4 qS33.2))))) = (hxp fu S).bind (fun q => f_X7_read_L51 fu nf x2 q.1 z4 q.2) := by
  unfold hxp
  rcases f_X7_header fu S with _ | ⟨r0, S0⟩
  · rfl
  · simp only [Option.bind_some]
    by_cases z0 : r0 = 0
    · rw [if_pos z0, if_pos z0]; rfl
    · rw [if_neg z0, if_neg z0]
      rcases f_X7_expression fu S0 with _ | ⟨r1, S1⟩
      · rfl
      · simp only [Option.bind_some]
        by_cases z1 : r1 = 0
        · rw [if_pos z1, if_pos z1]; rfl
        · rw [if_neg z1, if_neg z1]; rfl
theorem l51_step (T : TH K pl V m) {nf : Nat} {x2 : Int32} (H : Hz K pl V m S N M L p n ρ τ f fns) (h : K p ≠ 0) (hc : fns.length < 8) : f_X7_read_L51 fu (nf + 1) x2 1 (nI fns.length) S = (hxp fu S).bind (fun q => f_X7_read_L51 fu nf x2 q.1 (nI (fns.length + 1)) q.2) := by
  have hkl : K p < 127 := by have := (tkK_c _ (T.2.1 p H.2.1).2).2.2.2.2.2; omega
  have e0 : nI (K p) = (0 : Int32) ↔ K p = 0 := nI_eq (a := K p) (b := 0) (by omega) (by omega)
  have c8 : ¬ (8 : Int32) < nI fns.length := fun z => by have := (mI_lt (a := 8) (b := fns.length) (by omega) (by omega)).mp z; omega
  have c8' : ¬ (8 : Int32) ≤ nI fns.length := fun z => by have := (mI_le (a := 8) (b := fns.length) (by omega) (by omega)).mp z; omega
  rw [f_X7_read_L51, if_neg c8, if_neg (show ¬ (1 : Int32) = 0 by decide), h_kind T H]
  simp only [Option.bind_some]
  rw [if_neg (fun z => h (e0.mp z)), if_neg c8', show nI fns.length + 1 = nI (fns.length + 1) from nI_add fns.length 1]
  exact hx_bind
theorem l51_8 (T : TH K pl V m) {nf : Nat} {x2 : Int32} (H : Hz K pl V m S N M L p n ρ τ f fns) (h : K p ≠ 0) (hc : fns.length = 8) : f_X7_read_L51 fu (nf + 2) x2 1 (nI fns.length) S = some (0, rcS S (pl p)) := by
  have hkl : K p < 127 := by have := (tkK_c _ (T.2.1 p H.2.1).2).2.2.2.2.2; omega
  have e0 : nI (K p) = (0 : Int32) ↔ K p = 0 := nI_eq (a := K p) (b := 0) (by omega) (by omega)
  rw [hc, f_X7_read_L51, if_neg (by decide), if_neg (show ¬ (1 : Int32) = 0 by decide), h_kind T H]
  simp only [Option.bind_some]
  rw [if_neg (fun z => h (e0.mp z)), if_pos (by decide), h_refuse T H]
  simp only [Option.bind_some]
  refine l51_0 ?_
  unfold rcS; rw [uI_ne (by omega), uI_eq]
/-- a program is read -/
def PPr (K pl : Nat → Nat) (V : Nat → Int64) (m : Nat) (S : im_S) (N M L : Nat → Nat) (p n ρ τ f : Nat) (fns : List Nat) (S' : im_S) (N' M' L' : Nat → Nat) (n' ρ' τ' e : Nat) (y : TR) : Prop := Hz K pl V m S' N' M' L' e n' ρ' τ' (min f (fP K pl V y fns)) (fns ++ fnP y) ∧ FrF S S' n ρ τ fns.length ∧ Ag N M L N' M' L' p ∧ n ≤ n' ∧ ρ ≤ ρ' ∧ τ ≤ τ' ∧ p < e ∧ PO K pl V S' N' M' L' y fns.length p e ∧ CI K pl V S' N' p e e (clP y)
set_option maxHeartbeats 4000000 in
theorem c_prog (T : TH K pl V m) (hfu : 600 ≤ fu) {q : Nat} (hq : 3 * m + 4 ≤ q) {x2 : Int32} : ∀ (t nf : Nat) (S : im_S) (N M L : Nat → Nat) (p n ρ τ f : Nat) (fns : List Nat), Hz K pl V m S N M L p n ρ τ f fns → fns.length < 8 → 8 ≤ t + fns.length → 10 < nf + fns.length →
    (∀ e, pP K q (t + 1) fns.length p = (e, none) → ∃ S' : im_S, (hxp fu S).bind (fun q => f_X7_read_L51 fu nf x2 q.1 (nI (fns.length + 1)) q.2) = some (0, S') ∧ S'.1 5 0 = 1 ∧ S'.1 5 1 = nI (pl e)) ∧ ∀ e y, pP K q (t + 1) fns.length p = (e, some y) → ∃ (S' : im_S) (N' M' L' : Nat → Nat) (n' ρ' τ' : Nat), (hxp fu S).bind (fun q => f_X7_read_L51 fu nf x2 q.1 (nI (fns.length + 1)) q.2) = lk fu S' ∧ PPr K pl V m S N M L p n ρ τ f fns S' N' M' L' n' ρ' τ' e y := by
  intro t
  induction t with
  | zero => intro nf S N M L p n ρ τ f fns H hc ht; omega
  | succ t ih =>
    intro nf S N M L p n ρ τ f fns H hc ht hnf
    obtain ⟨nf, rfl⟩ : ∃ z, nf = z + 1 := ⟨nf - 1, by omega⟩
    obtain ⟨h1, h2⟩ := c_fun (fu := fu) T hfu H hc hq
    rw [pP, if_neg (by omega)]
    rcases hr : pF K q p with ⟨e1, _ | f1⟩
    · rw [pbd_none rfl]
      refine ⟨fun e he => ?_, (fun e y he => by cases he)⟩
      cases he
      obtain ⟨S', s1, s2, s3⟩ := h1 e1 hr
      refine ⟨S', ?_, s2, s3⟩
      rw [s1]
      exact l51_0 s2
    rw [pbd_some rfl]
    obtain ⟨cnt, x, S1, N1, M1, L1, n1, ρ1, τ1, k1, k2, k3⟩ := h2 e1 f1 hr
    obtain ⟨H1, F1, A1, b1, b2, b3, b4, O1⟩ := k3
    rw [k2]
    simp only [Option.bind_some]
    have hl : (fns ++ [p]).length = fns.length + 1 := by rw [List.length_append]; rfl
    have hci : CI K pl V S1 N1 p e1 p (cls x) := O1.2.2.2.2.2.2.2.2.2.1
    by_cases h0 : K e1 = 0
    · rw [if_pos h0]
      refine ⟨(fun e he => by cases he), fun e y he => ?_⟩
      cases he
      refine ⟨S1, N1, M1, L1, n1, ρ1, τ1, ?_, ?_⟩
      · have := l51_end (fu := fu) (nf := nf) (x2 := x2) T H1 h0
        rw [hl] at this
        exact this
      · rw [k1]
        have hf := H.2.2.2.2.2.2.2.2.2.2.2.1
        refine ⟨?_, F1, A1, b1, b2, b3, b4, ⟨rfl, e1, O1, Nat.le_refl _, Or.inl ⟨rfl, rfl⟩⟩, ?_⟩
        · have e2 : min f (fP K pl V (.append (.tag p (.append (.tag cnt .nil) x)) .nil) fns) = min f (fF K pl V fns p cnt x) := by
            show min f (min (fF K pl V fns p cnt x) 4000) = _
            rw [← Nat.min_assoc]
            exact Nat.min_eq_left (Nat.le_trans (Nat.min_le_left _ _) hf)
          rw [e2]
          exact H1
        · show CI K pl V S1 N1 p e1 e1 (cls x ++ [])
          rw [List.append_nil]
          exact CI_wid hci (Nat.le_refl _) (Nat.le_refl _) (fun k k1 k2 => absurd k1 (by omega)) (fun k k1 k2 => absurd k1 (by omega)) (Or.inr (Or.inl (Nat.le_refl _)))
    rw [if_neg h0]
    by_cases h8 : fns.length + 1 = 8
    · have hpp : pP K q (t + 1) (fns.length + 1) e1 = (e1, none) := by rw [pP, if_pos h8]
      rw [hpp, pbd_none rfl]
      refine ⟨fun e he => ?_, (fun e y he => by cases he)⟩
      cases he
      obtain ⟨nf, rfl⟩ : ∃ z, nf = z + 1 := ⟨nf - 1, by omega⟩
      have := l51_8 (fu := fu) (nf := nf) (x2 := x2) T H1 h0 (by omega)
      rw [hl] at this
      refine ⟨_, this, ?_, ?_⟩
      · unfold rcS; rw [uI_ne (by omega), uI_eq]
      · unfold rcS; rw [uI_eq]
    have hst := l51_step (fu := fu) (nf := nf) (x2 := x2) T H1 h0 (by omega)
    obtain ⟨i1, i2⟩ := ih nf S1 N1 M1 L1 e1 n1 ρ1 τ1 _ (fns ++ [p]) H1 (by omega) (by omega) (by omega)
    rw [hl] at hst i1 i2
    rw [hst]
    rcases hr2 : pP K q (t + 1) (fns.length + 1) e1 with ⟨e2, _ | r⟩
    · rw [pbd_none rfl]
      refine ⟨fun e he => ?_, (fun e y he => by cases he)⟩
      cases he
      exact i1 e2 hr2
    rw [pbd_some rfl]
    refine ⟨(fun e he => by cases he), fun e y he => ?_⟩
    cases he
    obtain ⟨S2, N2, M2, L2, n2, ρ2, τ2, s1, H2, F2, A2, c1, c2, c3, c4, O2, I2⟩ := i2 e2 r hr2
    rw [hl] at F2 O2
    have g1 := H1.2.2.2.2.2.2.2.2.1
    have O1' := FO_st O1 g1 F2 A2
    have hci2 : CI K pl V S2 N2 p e1 p (cls x) := O1'.2.2.2.2.2.2.2.2.2.1
    refine ⟨S2, N2, M2, L2, n2, ρ2, τ2, s1, ?_⟩
    rw [k1]
    refine ⟨?_, FrF_tr F1 F2 b1 b2 b3 (by omega), Ag_tr A1 A2 (by omega), by omega, by omega, by omega, by omega, ⟨rfl, e1, O1', by omega, Or.inr ⟨fun z => by rw [z] at O2; exact O2, O2⟩⟩, ?_⟩
    · have e3 : min (min f (fF K pl V fns p cnt x)) (fP K pl V r (fns ++ [p])) = min f (fP K pl V (.append (.tag p (.append (.tag cnt .nil) x)) r) fns) := by
        show _ = min f (min (fF K pl V fns p cnt x) (fP K pl V r (fns ++ [p])))
        rw [Nat.min_assoc]
      have e4 : fns ++ [p] ++ fnP r = fns ++ fnP (.append (.tag p (.append (.tag cnt .nil) x)) r) := by rw [List.append_assoc]; rfl
      rw [e3, e4] at H2
      exact H2
    · show CI K pl V S2 N2 p e2 e2 (cls x ++ clP r)
      exact CI_seq (CI_wid (t0 := e2) hci2 (Nat.le_refl _) (Nat.le_refl _) (fun k k1 k2 => absurd k1 (by omega)) (fun k k1 k2 => absurd k1 (by omega)) (Or.inr (Or.inl (by omega)))) I2 (by omega) (Nat.le_refl _) (by omega) (fun k k1 k2 => absurd k1 (by omega)) (Or.inr (Or.inr (Nat.le_refl _)))
end CPG
