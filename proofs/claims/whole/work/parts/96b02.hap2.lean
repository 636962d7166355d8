/-! events of loops and tables; a loop begins -/
section HP2
variable {K : Nat → Nat} {V : Nat → Int64} {y : TR} {q0 : Nat} {ar : Nat → Int64} {En : TPth → Prop} {cv vr vr' : TPth → Nat → Option TVal} {mv mv' : Option (TPth × Nat × TVal)} {Aw : TPth → Nat → Prop} {WV WC : TPth → Nat → TPth → Nat → Prop} {R H R' : List TEv} {fl fl' : Prop} {e0 f : Nat} {W : Nat → Int32 × Int32 × Int32} {ν : Nat → Nat} {NR : TEv → Prop} {P1 : TPth} {j r i : Nat} {γ : List Nat} {x x' fs c ns g : TR} {a : TVal}
theorem rd_0 {AW : TPth → Nat → Prop} {Ev Hp : TEv → Prop} (h : NQ V y En cv vr mv AW Ev Hp P1 (.tag 7 (.tag j (.append fs (.append c (.append ns g)))), γ, r)) : ∀ i, En ((4 * j, i) :: P1) → En ((4 * j, 0) :: P1) := by
  intro i
  induction i with
  | zero => exact id
  | succ i ih => exact fun q => ih (h.2.2.1 i (.inl q)).2.1
theorem rd_H {AW : TPth → Nat → Prop} {Ev Hp : TEv → Prop} (h : NQ V y En cv vr mv AW Ev Hp P1 (.tag 7 (.tag j (.append fs (.append c (.append ns g)))), γ, r)) {i : Nat} : ∀ k, En ((4 * j, i + 1 + k) :: P1) → Hp (P1, j, i) := by
  intro k
  induction k with
  | zero => exact fun q => (h.2.2.1 i (.inl q)).1
  | succ k ih => exact fun q => ih (h.2.2.1 (i + 1 + k) (.inl q)).2.1
/-- a round that has not ended yet: the loop has no value -/
theorem lp_nv (A : AB K V y q0 ar En cv vr mv Aw WV WC R H fl) (hqa : ABq V y En cv vr mv Aw WV WC R H P1 (.tag 7 (.tag j (.append fs (.append c (.append ns g)))), γ, r)) (hE : En ((4 * j, i) :: P1)) (hnH : ¬ (P1, j, i) ∈ H) : ∀ u, ¬ Vm cv mv P1 j u := fun u q => by
  obtain ⟨i', v0, u1, u2, u3, u4⟩ := hqa.2.2.2.2.1 u q
  rcases Nat.lt_trichotomy i' i with cc | cc | cc
  · obtain ⟨v2, m1, m2, m3⟩ := rd_dn hqa (i := i') (i - i' - 1) (by rw [show i' + 1 + (i - i' - 1) = i by omega]; exact hE)
    rw [u3] at m1
    cases m1
    rcases u4 with u4 | u4
    · exact m2 u4.1
    · obtain ⟨-, -, v3, s1, s2, s3⟩ := hqa.2.2.2.1 i' (A.2.1.1 _ _ _ (.inl u4)).1
      rw [u3] at s1
      cases s1
      exact m3 s3
  · subst cc
    exact hnH u2
  · exact hnH (rd_H hqa (i := i) (i' - i - 1) (by rw [show i + 1 + (i' - i - 1) = i' by omega]; exact u1))
theorem H_lp0 (B : SBd K V y e0 f W ν) (A : AB K V y q0 ar En cv vr none Aw WV WC R H fl) (hz : (.tag 7 (.tag j (.append fs (.append c (.append ns g)))), γ, r) ∈ scP y) (hr : r = hdR P1) (he : (P1, j, i) ∈ R) (hRn : R'.Nodup) (hRm : ∀ e, e ∈ R' ↔ e ∈ R ∧ e ≠ (P1, j, i)) (ha : cv ((4 * j, i) :: P1) (rtk c) = some a) (h4 : a.1 = 4) :
    AB K V y q0 ar En cv vr (some (P1, j, a)) (AwN y Aw (fun _ _ => False) WV WC cv vr (fun _ => False)) (WVN WV vr) (WCN WC (fun _ _ _ _ => False) cv) R' ((P1, j, i) :: H) fl := by
  have hE1 : En P1 := (A.2.1.2.2.2.1 P1 _ i (.inl he)).1
  have hqa := A.2.2.2.2.1 P1 _ hE1 hz hr
  have hnH := rh_no A.2.1.2.2.1 he
  obtain ⟨⟨p', e', wz⟩, hs, htr⟩ := (tl_P B.1) _ hz
  obtain ⟨-, b1, d1, f1, n1, n2, w1, w2, w3, w4⟩ := wz
  have hx := htr _ (mc _ (mr _ (ml _ (hd_in w2 _ _))))
  have hEr : En ((4 * j, i) :: P1) := (hqa.2.1 i (.inl he)).1
  have hta := AB_tv B A hx (.inl ha)
  refine H_mv (z1 := (.tag 7 (.tag j (.append fs (.append c (.append ns g)))), γ, r)) (i := i) B A hz hr rfl rfl he hRn hRm (fun q => hqa.1 q (rd_0 hqa i hEr)) (lp_nv A hqa hEr hnH) ⟨hta.1, fun q => absurd h4 q⟩ ⟨i, a, hEr, List.mem_cons_self, ha, .inl ⟨h4, rfl⟩⟩ (fun En2 Va2 De2 C c1 c2 => (C.2 i a (c1 _ hEr) (c2 _ _ _ ⟨_, hx, rfl, rfl, ha⟩)).2.1 h4) (fun hf => ?_)
  obtain ⟨k1, k2, k3, k4, k5⟩ := A.2.2.2.2.2 hf P1 _ hE1 hz hr
  have vk : ∀ {v : TVal}, Vm cv none P1 j v → Vm cv (some (P1, j, a)) P1 j v := fun q => by
    rcases q with q | q
    · exact .inl q
    · cases q
  refine ⟨k1.imp (fun q => .inl ⟨q, id⟩) id, fun i' v q1 q2 => ?_, fun i' v q => vk (k3 i' v q), k4, k5⟩
  by_cases ci : i' = i
  · subst ci
    rw [ha] at q2
    cases q2
    exact .inr ⟨List.mem_cons_self, fun _ => .inr rfl, fun q => absurd h4 q, fun q => absurd h4 q⟩
  · rcases k2 i' v q1 q2 with u | ⟨u1, u2, u3, u4⟩
    · exact .inl ((hRm _).mpr ⟨u, fun q => ci (congrArg (fun w : TEv => w.2.2) q)⟩)
    · exact .inr ⟨List.mem_cons_of_mem _ u1, fun q => vk (u2 q), u3, u4⟩
/-- the last round: give -/
theorem H_lp1 (B : SBd K V y e0 f W ν) (A : AB K V y q0 ar En cv vr none Aw WV WC R H fl) (hz : (.tag 7 (.tag j (.append fs (.append c (.append ns g)))), γ, r) ∈ scP y) (hr : r = hdR P1) (he : (P1, j, i) ∈ R) (hRn : R'.Nodup) (hRm : ∀ e, e ∈ R' ↔ e ∈ R ∧ e ≠ (P1, j, i)) (ha : cv ((4 * j, i) :: P1) (rtk c) = some a) (h4 : a.1 ≠ 4) (h0 : a.2.1 = 0) :
    AB K V y q0 ar (fun P => En P ∨ P = (4 * j + 2, 0) :: (4 * j, i) :: P1) cv vr none (AwN y Aw (fun _ _ => False) WV WC cv vr (fun P => P = (4 * j + 2, 0) :: (4 * j, i) :: P1)) (WVN WV vr) (WCN WC (fun _ _ _ _ => False) cv) R' ((P1, j, i) :: H) fl := by
  have hE1 : En P1 := (A.2.1.2.2.2.1 P1 _ i (.inl he)).1
  have hqa := A.2.2.2.2.1 P1 _ hE1 hz hr
  have hnH := rh_no A.2.1.2.2.1 he
  obtain ⟨⟨p', e', wz⟩, hs, htr⟩ := (tl_P B.1) _ hz
  obtain ⟨-, b1, d1, f1, n1, n2, w1, w2, w3, w4⟩ := wz
  have hx := htr _ (mc _ (mr _ (ml _ (hd_in w2 _ _))))
  have hEr : En ((4 * j, i) :: P1) := (hqa.2.1 i (.inl he)).1
  have hPr := A.1.2.1 _ hEr
  have m0 : ¬ En ((4 * j + 2, 0) :: (4 * j, i) :: P1) := fun q => hnH (hqa.2.2.2.1 i q).1
  have hh : ∀ {k k' : Nat} {D D' : TPth} {u u' : Nat}, (k, u) :: D = (k', u') :: D' → k = k' := fun h => congrArg Prod.fst (List.cons.inj h).1
  refine H_gen (z1 := (.tag 7 (.tag j (.append fs (.append c (.append ns g)))), γ, r)) (i := i) (NE := fun P => P = (4 * j + 2, 0) :: (4 * j, i) :: P1) (VN := fun _ _ _ => False) (NR := fun _ => False) (mv' := none) (fl' := fl) B A hz hr rfl rfl he (fun F b u => ⟨.inl, fun q => q.elim id False.elim⟩) (fun Q q => ?_) (fun _ _ _ q => q.elim) (fun P t u q => by cases q) hRn (fun e => ⟨fun q => .inl ((hRm e).mp q), fun q => q.elim (hRm e).mpr False.elim⟩) (fun _ _ _ q => q.elim) (fun q => hqa.1 q (rd_0 hqa i hEr)) (fun En2 Va2 De2 C c1 c2 => ⟨fun Q q => ?_, fun P t u q => (by cases q), fun _ q => q.elim⟩) id (fun hf => ?_)
  · subst q
    refine ⟨m0, pk_nd hPr.1 hz (.inr ⟨.inr rfl, rfl⟩), z0_cn hPr.2 (.inr rfl), ⟨_, _, rfl, pk_ne hPr.1, hEr⟩, own_lp B.1 hz (k := 2) (by omega) (by omega) rfl P1, fun i' q => ?_, fun i' q => ?_⟩
    · rcases q with q | q
      · have := hh q
        omega
      · have := hh q
        omega
    · have : i' = i := (congrArg Prod.snd (List.cons.inj (List.cons.inj q).2).1).symm
      subst this
      exact ⟨List.mem_cons_self, .inl hEr, a, ha, h4, h0⟩
  · subst q
    exact ((C.2 i a (c1 _ hEr) (c2 _ _ _ ⟨_, hx, rfl, rfl, ha⟩)).2.2.2 h4 h0).1
  · obtain ⟨k1, k2, k3, k4, k5⟩ := A.2.2.2.2.2 hf P1 _ hE1 hz hr
    refine ⟨k1.imp (fun q => .inl ⟨q, id⟩) .inl, fun i' v q1 q2 => ?_, fun i' v q => k3 i' v q, fun b x1 v q1 q2 q3 => ⟨fun q q' => (k4 b x1 v q1 q2 q3).1 q ?_, (k4 b x1 v q1 q2 q3).2⟩, k5⟩
    · have q1 : En ((4 * j, i') :: P1) := by
        rcases q1 with q1 | q1
        · exact q1
        · have := hh q1
          omega
      by_cases ci : i' = i
      · subst ci
        rw [ha] at q2
        cases q2
        exact .inr ⟨List.mem_cons_self, fun q => absurd q h4, fun _ q => absurd h0 q, fun _ _ => .inr rfl⟩
      · rcases k2 i' v q1 q2 with u | ⟨u1, u2, u3, u4⟩
        · exact .inl ((hRm _).mpr ⟨u, fun q => ci (congrArg (fun w : TEv => w.2.2) q)⟩)
        · exact .inr ⟨List.mem_cons_of_mem _ u1, u2, fun q q' => ⟨.inl (u3 q q').1, .inl (u3 q q').2⟩, fun q q' => .inl (u4 q q')⟩
    · rcases q' with q' | q'
      · exact q'
      · have := hh q'
        omega
/-- the next round -/
theorem H_lp2 (B : SBd K V y e0 f W ν) (A : AB K V y q0 ar En cv vr none Aw WV WC R H fl) (hz : (.tag 7 (.tag j (.append fs (.append c (.append ns g)))), γ, r) ∈ scP y) (hr : r = hdR P1) (he : (P1, j, i) ∈ R) (hRn : R'.Nodup) (hRm : ∀ e, e ∈ R' ↔ e ∈ R ∧ e ≠ (P1, j, i)) (ha : cv ((4 * j, i) :: P1) (rtk c) = some a) (h4 : a.1 ≠ 4) (h0 : a.2.1 ≠ 0) :
    AB K V y q0 ar (fun P => En P ∨ (P = (4 * j + 1, 0) :: (4 * j, i) :: P1 ∨ P = (4 * j, i + 1) :: P1)) cv vr none (AwN y Aw (fun _ _ => False) WV WC cv vr (fun P => P = (4 * j + 1, 0) :: (4 * j, i) :: P1 ∨ P = (4 * j, i + 1) :: P1)) (WVN WV vr) (WCN WC (fun _ _ _ _ => False) cv) R' ((P1, j, i) :: H) fl := by
  have hE1 : En P1 := (A.2.1.2.2.2.1 P1 _ i (.inl he)).1
  have hqa := A.2.2.2.2.1 P1 _ hE1 hz hr
  have hnH := rh_no A.2.1.2.2.1 he
  obtain ⟨⟨p', e', wz⟩, hs, htr⟩ := (tl_P B.1) _ hz
  obtain ⟨-, b1, d1, f1, n1, n2, w1, w2, w3, w4⟩ := wz
  have hx := htr _ (mc _ (mr _ (ml _ (hd_in w2 _ _))))
  have hEr : En ((4 * j, i) :: P1) := (hqa.2.1 i (.inl he)).1
  have hPr := A.1.2.1 _ hEr
  have hP1 := A.1.2.1 _ hE1
  have m0 : ¬ En ((4 * j + 1, 0) :: (4 * j, i) :: P1) := fun q => hnH (hqa.2.2.1 i (.inr q)).1
  have m1 : ¬ En ((4 * j, i + 1) :: P1) := fun q => hnH (hqa.2.2.1 i (.inl q)).1
  have hh : ∀ {k k' : Nat} {D D' : TPth} {u u' : Nat}, (k, u) :: D = (k', u') :: D' → k = k' := fun h => congrArg Prod.fst (List.cons.inj h).1
  have h2 : ∀ {k k' : Nat} {D D' : TPth} {u u' : Nat}, (k, u) :: D = (k', u') :: D' → u = u' := fun h => congrArg Prod.snd (List.cons.inj h).1
  refine H_gen (z1 := (.tag 7 (.tag j (.append fs (.append c (.append ns g)))), γ, r)) (i := i) (NE := fun P => P = (4 * j + 1, 0) :: (4 * j, i) :: P1 ∨ P = (4 * j, i + 1) :: P1) (VN := fun _ _ _ => False) (NR := fun _ => False) (mv' := none) (fl' := fl) B A hz hr rfl rfl he (fun F b u => ⟨.inl, fun q => q.elim id False.elim⟩) (fun Q q => ?_) (fun _ _ _ q => q.elim) (fun P t u q => by cases q) hRn (fun e => ⟨fun q => .inl ((hRm e).mp q), fun q => q.elim (hRm e).mpr False.elim⟩) (fun _ _ _ q => q.elim) (fun q => hqa.1 q (rd_0 hqa i hEr)) (fun En2 Va2 De2 C c1 c2 => ⟨fun Q q => ?_, fun P t u q => (by cases q), fun _ q => q.elim⟩) id (fun hf => ?_)
  · rcases q with q | q
    · subst q
      refine ⟨m0, pk_nd hPr.1 hz (.inr ⟨.inl rfl, rfl⟩), z0_cn hPr.2 (.inr rfl), ⟨_, _, rfl, pk_ne hPr.1, hEr⟩, own_lp B.1 hz (k := 1) (by omega) (by omega) rfl P1, fun i' q => ?_, fun i' q => ?_⟩
      · rcases q with q | q
        · have := hh q
          omega
        · have : i' = i := (h2 (List.cons.inj q).2).symm
          subst this
          exact ⟨List.mem_cons_self, .inl hEr, a, ha, h4, h0⟩
      · have := hh q
        omega
    · subst q
      refine ⟨m1, pk_nd hP1.1 hz (.inl ⟨rfl, hr.symm⟩), z0_cn hP1.2 (.inl ((ifr_nd B.1 hz (k := 0) (by omega)).mpr (.inl ⟨rfl, rfl⟩))), ⟨_, _, rfl, pk_ne hP1.1, hE1⟩, own_nd B.1 hz (k := 0) (by omega) (.inr rfl) P1, fun i' q => ?_, fun i' q => ?_⟩
      · rcases q with q | q
        · have : i + 1 = i' + 1 := h2 q
          have : i' = i := by omega
          subst this
          exact ⟨List.mem_cons_self, .inl hEr, a, ha, h4, h0⟩
        · have := hh q
          omega
      · have := hh q
        omega
  · have := (C.2 i a (c1 _ hEr) (c2 _ _ _ ⟨_, hx, rfl, rfl, ha⟩)).2.2.1 h4 h0
    rcases q with q | q
    · subst q
      exact this.1
    · subst q
      exact this.2
  · obtain ⟨k1, k2, k3, k4, k5⟩ := A.2.2.2.2.2 hf P1 _ hE1 hz hr
    refine ⟨k1.imp (fun q => .inl ⟨q, id⟩) .inl, fun i' v q1 q2 => ?_, fun i' v q => k3 i' v q, fun b x1 v q1 q2 q3 => ⟨fun q q' => (k4 b x1 v q1 q2 q3).1 q ?_, (k4 b x1 v q1 q2 q3).2⟩, k5⟩
    · have q1 : En ((4 * j, i') :: P1) := (A.2.1.1 _ _ _ (.inl q2)).1
      by_cases ci : i' = i
      · subst ci
        rw [ha] at q2
        cases q2
        exact .inr ⟨List.mem_cons_self, fun q => absurd q h4, fun _ _ => ⟨.inr (.inl rfl), .inr (.inr rfl)⟩, fun _ q => absurd q h0⟩
      · rcases k2 i' v q1 q2 with u | ⟨u1, u2, u3, u4⟩
        · exact .inl ((hRm _).mpr ⟨u, fun q => ci (congrArg (fun w : TEv => w.2.2) q)⟩)
        · exact .inr ⟨List.mem_cons_of_mem _ u1, u2, fun q q' => ⟨.inl (u3 q q').1, .inl (u3 q q').2⟩, fun q q' => .inl (u4 q q')⟩
    · rcases q' with q' | q' | q'
      · exact q'
      · have := hh q'
        omega
      · have := h2 q'
        omega
/-- a table that cannot be made -/
theorem H_tb0 (B : SBd K V y e0 f W ν) (A : AB K V y q0 ar En cv vr none Aw WV WC R H fl) (hz : (.tag 11 (.tag j (.append x x')), γ, r) ∈ scP y) (hr : r = hdR P1) (he : (P1, j, 0) ∈ R) (hRn : R'.Nodup) (hRm : ∀ e, e ∈ R' ↔ e ∈ R ∧ e ≠ (P1, j, 0)) (ha : cv P1 (rtk x) = some a) {v : TVal} (hv : (a.1 = 4 ∧ v = a) ∨ (a.1 ≠ 4 ∧ bad20 a.2.1 ∧ v = mkE 3)) :
    AB K V y q0 ar En cv vr (some (P1, j, v)) (AwN y Aw (fun _ _ => False) WV WC cv vr (fun _ => False)) (WVN WV vr) (WCN WC (fun _ _ _ _ => False) cv) R' ((P1, j, 0) :: H) fl := by
  have hE1 : En P1 := (A.2.1.2.2.2.1 P1 _ 0 (.inl he)).1
  have hqa := A.2.2.2.2.1 P1 _ hE1 hz hr
  have hnH := rh_no A.2.1.2.2.1 he
  obtain ⟨⟨p', e', wz⟩, hs, htr⟩ := (tl_P B.1) _ hz
  obtain ⟨-, -, -, bb, w1, w2⟩ := wz
  have hx := htr _ (mc _ (ml _ (hd_in w1 _ _)))
  have hta := AB_tv B A hx (.inl ha)
  have nE : ∀ i, ¬ En ((4 * j, i) :: P1) := fun i q => hnH ((hqa.2.2.2.1 i (.inr (hqa.2.2.2.2.1 i q).1)).1)
  refine H_mv (z1 := (.tag 11 (.tag j (.append x x')), γ, r)) (i := 0) B A hz hr rfl rfl he hRn hRm hqa.1 (fun u q => hnH (hqa.2.2.1 u q)) ?_ List.mem_cons_self (fun En2 Va2 De2 C c1 c2 => ?_) (fun hf => ⟨fun u q => ?_, fun i q => absurd q (nE i)⟩)
  · rcases hv with ⟨h1, h2⟩ | ⟨h1, h2, h3⟩
    · rw [h2]
      exact ⟨hta.1, fun q => absurd h1 q⟩
    · rw [h3]
      exact ty_e (.inr (.inr rfl))
  · obtain ⟨-, k1, k2, -⟩ := C a (c2 _ _ _ ⟨_, hx, rfl, hr, ha⟩)
    rcases hv with ⟨h1, h2⟩ | ⟨h1, h2, h3⟩
    · rw [h2]
      exact k1 h1
    · rw [h3]
      exact k2 h1 h2
  · rw [ha] at q
    cases q
    rcases hv with ⟨h1, h2⟩ | ⟨h1, h2, h3⟩
    · exact .inr ⟨List.mem_cons_self, fun _ => .inr (by rw [h2]; rfl), fun q => absurd h1 q, fun q => absurd h1 q⟩
    · exact .inr ⟨List.mem_cons_self, fun q => absurd q h1, fun _ _ => .inr (by rw [h3]; rfl), fun _ q => absurd h2 q⟩
/-- a table is made -/
theorem H_tb1 (B : SBd K V y e0 f W ν) (A : AB K V y q0 ar En cv vr none Aw WV WC R H fl) (hz : (.tag 11 (.tag j (.append x x')), γ, r) ∈ scP y) (hr : r = hdR P1) (he : (P1, j, 0) ∈ R) (hRn : R'.Nodup) (hRm : ∀ e, e ∈ R' ↔ (e ∈ R ∧ e ≠ (P1, j, 0)) ∨ NR e) (hNR : ∀ e, NR e → ∃ k, k < i64N a.2.1 ∧ e = (P1, j, k + 1)) (hNf : ¬ fl' → ∀ k, k < i64N a.2.1 → NR (P1, j, k + 1)) (hfl : fl → fl') (ha : cv P1 (rtk x) = some a) (h4 : a.1 ≠ 4) (hb : ¬ bad20 a.2.1) :
    AB K V y q0 ar En cv vr (some (P1, j, (3, a.2.1, P1, j))) (AwN y Aw (fun _ _ => False) WV WC cv vr (fun _ => False)) (WVN WV vr) (WCN WC (fun _ _ _ _ => False) cv) R' ((P1, j, 0) :: H) fl' := by
  have hE1 : En P1 := (A.2.1.2.2.2.1 P1 _ 0 (.inl he)).1
  have hqa := A.2.2.2.2.1 P1 _ hE1 hz hr
  have hnH := rh_no A.2.1.2.2.1 he
  obtain ⟨⟨p', e', wz⟩, hs, htr⟩ := (tl_P B.1) _ hz
  obtain ⟨-, -, -, bb, w1, w2⟩ := wz
  have hx := htr _ (mc _ (ml _ (hd_in w1 _ _)))
  have nE : ∀ i, ¬ En ((4 * j, i) :: P1) := fun i q => hnH ((hqa.2.2.2.1 i (.inr (hqa.2.2.2.2.1 i q).1)).1)
  have e : (fun P => En P ∨ False) = En := funext (fun P => propext ⟨fun q => q.elim id False.elim, .inl⟩)
  have := H_gen (z1 := (.tag 11 (.tag j (.append x x')), γ, r)) (i := 0) (NE := fun _ => False) (VN := fun _ _ _ => False) (NR := NR) (mv' := some (P1, j, (3, a.2.1, P1, j))) (fl' := fl') (vr' := vr) B A hz hr rfl rfl he (fun F b u => ⟨.inl, fun q => q.elim id False.elim⟩) (fun _ q => q.elim) (fun _ _ _ q => q.elim) (fun P t u q => ?_) hRn hRm (fun P t k q => ?_) hqa.1 (fun En2 Va2 De2 C c1 c2 => ?_) hfl (fun hf => ⟨fun u q => ?_, fun i q => ?_⟩)
  · rw [e] at this
    exact this
  · cases q
    refine ⟨rfl, rfl, ?_, ⟨fun q => absurd q (by show ¬ 3 = 4; omega), fun _ => rfl⟩, List.mem_cons_self⟩
    cases hc : cv P1 j with
    | none => rfl
    | some u => exact absurd (hqa.2.2.1 u (.inl hc)) hnH
  · obtain ⟨k', q1, q2⟩ := hNR _ q
    cases q2
    refine ⟨rfl, rfl, fun q => hnH (hqa.2.2.2.1 k' q).1, fun q => absurd q (by omega), fun k q => ?_⟩
    have : k' = k := by omega
    subst this
    exact ⟨List.mem_cons_self, a, ha, h4, hb, q1⟩
  · have k1 := (C a (c2 _ _ _ ⟨_, hx, rfl, hr, ha⟩)).2.2.2 h4 hb
    refine ⟨fun _ q => q.elim, fun P t u q => ?_, fun e q => ?_⟩
    · cases q
      exact k1.1
    · obtain ⟨k', q1, q2⟩ := hNR _ q
      rw [q2]
      exact (k1.2 k' q1).1
  · rw [ha] at q
    cases q
    exact .inr ⟨List.mem_cons_self, fun q => absurd q h4, fun _ q => absurd q hb, fun _ _ => ⟨.inr rfl, fun k q => .inl ((hRm _).mpr (.inr (hNf hf k q)))⟩⟩
  · rcases q with q | q
    · exact absurd q (nE i)
    · exact q.elim
/-- a cell is entered -/
theorem H_cel (B : SBd K V y e0 f W ν) (A : AB K V y q0 ar En cv vr none Aw WV WC R H fl) (hz : (.tag 11 (.tag j (.append x x')), γ, r) ∈ scP y) (hr : r = hdR P1) {k : Nat} (he : (P1, j, k + 1) ∈ R) (hRn : R'.Nodup) (hRm : ∀ e, e ∈ R' ↔ e ∈ R ∧ e ≠ (P1, j, k + 1)) (ha : cv P1 j = some a)
    (hvr : ∀ F b v, vr' F b = some v ↔ vr F b = some v ∨ (F = (4 * j, k) :: P1 ∧ ((b = j + 3 ∧ v = mkN (Int64.ofNat k)) ∨ (b = j + 1 ∧ v = a)))) :
    AB K V y q0 ar (fun P => En P ∨ P = (4 * j, k) :: P1) cv vr' none (AwN y Aw (fun _ _ => False) WV WC cv vr' (fun P => P = (4 * j, k) :: P1)) (WVN WV vr') (WCN WC (fun _ _ _ _ => False) cv) R' ((P1, j, k + 1) :: H) fl := by
  have hE1 : En P1 := (A.2.1.2.2.2.1 P1 _ _ (.inl he)).1
  have hqa := A.2.2.2.2.1 P1 _ hE1 hz hr
  have hnH := rh_no A.2.1.2.2.1 he
  have hP1 := A.1.2.1 P1 hE1
  obtain ⟨⟨p', e', wz⟩, hs, htr⟩ := (tl_P B.1) _ hz
  obtain ⟨-, -, -, bb, w1, w2⟩ := wz
  have hx := htr _ (mc _ (ml _ (hd_in w1 _ _)))
  have n0 : ¬ En ((4 * j, k) :: P1) := fun q => hnH (hqa.2.2.2.2.1 k q).1
  obtain ⟨g0, s, g1, g2, g3, g4⟩ := hqa.2.2.2.1 k (.inl he)
  have h2 : ∀ {k k' : Nat} {D D' : TPth} {u u' : Nat}, (k, u) :: D = (k', u') :: D' → u = u' := fun h => congrArg Prod.snd (List.cons.inj h).1
  refine H_gen (z1 := (.tag 11 (.tag j (.append x x')), γ, r)) (i := k + 1) (NE := fun P => P = (4 * j, k) :: P1) (VN := fun F b v => F = (4 * j, k) :: P1 ∧ ((b = j + 3 ∧ v = mkN (Int64.ofNat k)) ∨ (b = j + 1 ∧ v = a))) (NR := fun _ => False) (mv' := none) (fl' := fl) B A hz hr rfl rfl he hvr (fun Q q => ?_) (fun F b v q => ?_) (fun P t u q => by cases q) hRn (fun e => ⟨fun q => .inl ((hRm e).mp q), fun q => q.elim (hRm e).mpr False.elim⟩) (fun _ _ _ q => q.elim) hqa.1 (fun En2 Va2 De2 C c1 c2 => ⟨fun Q q => ?_, fun P t u q => (by cases q), fun _ q => q.elim⟩) id (fun hf => ?_)
  · subst q
    refine ⟨n0, pk_nd hP1.1 hz ⟨rfl, hr.symm⟩, z0_cn hP1.2 (.inl ((ifr_nd B.1 hz (k := 0) (by omega)).mpr (.inr rfl))), ⟨_, _, rfl, pk_ne hP1.1, hE1⟩, own_nd B.1 hz (k := 0) (by omega) (.inr rfl) P1, fun i' q => ?_⟩
    have : k = i' := h2 q
    subst this
    exact ⟨List.mem_cons_self, a, ha⟩
  · obtain ⟨e1, e2⟩ := q
    subst e1
    refine ⟨?_, ⟨e2.imp (fun q => q.1) (fun q => q.1), k, rfl⟩, fun i' q => ?_⟩
    · cases hc : vr ((4 * j, k) :: P1) b with
      | none => rfl
      | some u =>
        rcases e2 with ⟨e2, -⟩ | ⟨e2, -⟩
        · rw [e2] at hc
          exact absurd (hqa.2.2.2.2.2.1 k u hc).1 n0
        · rw [e2] at hc
          exact absurd (hqa.2.2.2.2.2.2 k u hc).1 n0
    · have : k = i' := h2 q
      subst this
      refine ⟨.inr rfl, fun q => ?_, fun q => ?_⟩
      · rcases e2 with e2 | e2
        · exact e2.2
        · omega
      · rcases e2 with e2 | e2
        · omega
        · rw [e2.2]
          exact ha
  · subst q
    exact (((C s (c2 _ _ _ ⟨_, hx, rfl, hr, g1⟩)).2.2.2 g2 g3).2 k g4).2
  · obtain ⟨k1, k2⟩ := A.2.2.2.2.2 hf P1 _ hE1 hz hr
    have hvm : ∀ F b v, vr F b = some v → vr' F b = some v := fun F b v q => (hvr F b v).mpr (.inl q)
    refine ⟨fun u q => ?_, fun i' q => ?_⟩
    · rcases k1 u q with m | ⟨m1, m2, m3, m4⟩
      · exact .inl ((hRm _).mpr ⟨m, fun q => by have := congrArg (fun w : TEv => w.2.2) q; have : 0 = k + 1 := this; omega⟩)
      · refine .inr ⟨List.mem_cons_of_mem _ m1, m2, m3, fun q q' => ⟨(m4 q q').1, fun i' hi => ?_⟩⟩
        by_cases ci : i' = k
        · subst ci
          exact .inr ⟨List.mem_cons_self, .inr rfl⟩
        · rcases (m4 q q').2 i' hi with u | ⟨u1, u2⟩
          · exact .inl ((hRm _).mpr ⟨u, fun q => by have := congrArg (fun w : TEv => w.2.2) q; have : i' + 1 = k + 1 := this; omega⟩)
          · exact .inr ⟨List.mem_cons_of_mem _ u1, .inl u2⟩
    · rcases q with q | q
      · exact ⟨hvm _ _ _ (k2 i' q).1, fun v q' => hvm _ _ _ ((k2 i' q).2 v q')⟩
      · have : i' = k := h2 q
        subst this
        refine ⟨(hvr _ _ _).mpr (.inr ⟨rfl, .inl ⟨rfl, rfl⟩⟩), fun v q' => ?_⟩
        rw [ha] at q'
        cases q'
        exact (hvr _ _ _).mpr (.inr ⟨rfl, .inr ⟨rfl, rfl⟩⟩)
/-- a loop begins -/
theorem A_loop (B : SBd K V y e0 f W ν) (A : AB K V y q0 ar En cv vr none Aw WV WC R H fl) (hA : Aw P1 j) (hz : (.tag 7 (.tag j (.append fs (.append c (.append ns g)))), γ, r) ∈ scP y) (hr : r = hdR P1)
    (hvr : ∀ F b v, vr' F b = some v ↔ vr F b = some v ∨ (F = (4 * j, 0) :: P1 ∧ b ∈ tks fs ∧ nxX V ns b ≠ none ∧ ∃ x, rwX fs b = some x ∧ cv P1 (rtk x) = some v)) :
    AB K V y q0 ar (fun P => En P ∨ P = (4 * j, 0) :: P1) cv vr' none (AwN y Aw (fun P t => P = P1 ∧ t = j) WV WC cv vr' (fun P => P = (4 * j, 0) :: P1)) (WVN WV vr') (WCN WC (fun _ _ _ _ => False) cv) R H fl := by
  obtain ⟨a1, ⟨b1, b2, b3, b4, b5, b6, b7, b8, b9⟩, a3, a4, a5, a6⟩ := id A
  have hE1 : En P1 := (b5 P1 j (.inl hA)).1
  have hqa := a5 P1 _ hE1 hz hr
  have hs := ((tl_P B.1) _ hz).2.1
  have hP1 := a1.2.1 P1 hE1
  have n0 : ¬ En ((4 * j, 0) :: P1) := hqa.1 (.inl hA)
  have hcv : ∀ P t v, cv P t = some v ↔ Vm cv none P t v := fun P t v => ⟨.inl, fun q => by rcases q with q | q; exact q; cases q⟩
  have hh : ∀ {k k' : Nat} {D D' : TPth} {u u' : Nat}, (k, u) :: D = (k', u') :: D' → k = k' := fun h => congrArg Prod.fst (List.cons.inj h).1
  have h2 : ∀ {k k' : Nat} {D D' : TPth} {u u' : Nat}, (k, u) :: D = (k', u') :: D' → u = u' := fun h => congrArg Prod.snd (List.cons.inj h).1
  have hNn : ∀ P, P = (4 * j, 0) :: P1 → ¬ En P := fun P q => by rw [q]; exact n0
  have same : ∀ P z, z ∈ scP y → P = P1 ∧ otk z.1 = j → P = P1 ∧ z = (.tag 7 (.tag j (.append fs (.append c (.append ns g)))), γ, r) := fun P z q1 q2 => ⟨q2.1, (ou_P B.1).2 z q1 _ hz q2.2⟩
  refine AB_gen (NE := fun P => P = (4 * j, 0) :: P1) (Sl := fun P t => P = P1 ∧ t = j) (NW := fun _ _ _ _ => False) (VN := fun F b v => F = (4 * j, 0) :: P1 ∧ b ∈ tks fs ∧ nxX V ns b ≠ none ∧ ∃ x, rwX fs b = some x ∧ cv P1 (rtk x) = some v) (mv' := none) (fl' := fl) B A (fun P t => P = P1 ∧ t = j) hcv hvr (fun P t q => by rw [q.1]; exact hE1) (fun P q => ?_) (fun F b v q => ?_) (fun _ _ q => q) (fun _ _ _ _ q => q.elim) (fun P t v q => by cases q) b3 (fun P t k q => .inl q) (fun P t k q => .inl q) (fun e q => q) (fun P z P' t' v q => by cases q) (fun En2 Va2 De2 C c1 c2 c3 => ⟨fun P q => ?_, fun P t v q => (by cases q), c3⟩) id (fun P z q1 q2 q3 q4 => ?_) (fun hn P z q1 q2 q3 q4 => ?_)
  · subst q
    refine ⟨n0, pk_nd hP1.1 hz (.inl ⟨rfl, hr.symm⟩), z0_cn hP1.2 (.inr rfl), ⟨_, _, rfl, pk_ne hP1.1, hE1⟩, ?_⟩
    have ho : own y ((4 * j, 0) :: P1) = (P1, j) := own_nd B.1 hz (k := 0) (by omega) (.inr rfl) P1
    rw [ho]
    exact ⟨rfl, rfl⟩
  · obtain ⟨e1, e2, e3, x1, e4, e5⟩ := q
    subst e1
    refine ⟨?_, P1, _, hE1, hz, hr, ⟨e2, .inl ⟨e3, 0, rfl⟩⟩, rfl, rfl⟩
    cases hc : vr ((4 * j, 0) :: P1) b with
    | none => rfl
    | some u => exact absurd ((hqa.2.2.2.2.2.1 b u e2).1 e3 hc).1 n0
  · subst q
    exact (clo_nd a1 C c1 hE1 hz hr).1
  · obtain ⟨u1, u2⟩ := same P z q2 q4
    rw [u1, u2]
    refine NQ_act hs rfl hqa (fun _ _ _ q => q) (fun _ q => .inl q) (fun _ q => q) (fun v q => .inl q) (fun k q => .inl q) (fun Q q => ?_) (fun F b v _ q => ?_) (fun q => absurd q (aw_slp A.2.1 hNn hE1 hA ⟨rfl, rfl⟩ (fun _ _ q => q)))
    · rcases q with q | q
      · exact .inl q
      · subst q
        refine .inr ⟨fun i' q => ?_, fun i' q => ?_⟩
        · rcases q with q | q
          · have := h2 q
            omega
          · have := hh q
            omega
        · have := hh q
          omega
    · rcases (hvr F b v).mp q with q | ⟨e1, e2, e3, x1, e4, e5⟩
      · exact .inl q
      · subst e1
        refine .inr ⟨fun _ _ => ⟨.inr rfl, x1, e4, e5⟩, fun q => absurd q e3, fun i' _ q => ?_⟩
        have := h2 q
        omega
  · obtain ⟨u1, u2⟩ := same P z q2 q4
    rw [u1, u2]
    obtain ⟨k1, k2, k3, k4, k5⟩ := a6 hn P1 _ hE1 hz hr
    have hvm : ∀ F b v, vr F b = some v → vr' F b = some v := fun F b v q => (hvr F b v).mpr (.inl q)
    refine ⟨.inr (.inr rfl), fun i' v q1 q2 => ?_, fun i' v q => k3 i' v q, fun b x1 v q1 q2 q3 => ⟨fun q q' => (hvr _ _ _).mpr (.inr ⟨rfl, q1, q, x1, q2, q3⟩), fun q => hvm _ _ _ ((k4 b x1 v q1 q2 q3).2 q)⟩, fun i' b x1 v q1 q2 q3 => hvm _ _ _ (k5 i' b x1 v q1 q2 q3)⟩
    rcases k2 i' v (b1 _ _ _ (.inl q2)).1 q2 with u | ⟨u1, u2, u3, u4⟩
    · exact .inl u
    · exact .inr ⟨u1, u2, fun q q' => ⟨.inl (u3 q q').1, .inl (u3 q q').2⟩, fun q q' => .inl (u4 q q')⟩
end HP2
