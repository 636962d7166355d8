/-! an event happens; a loop begins -/
section HAP
variable {K : Nat → Nat} {V : Nat → Int64} {y : TR} {q0 : Nat} {ar : Nat → Int64} {En : TPth → Prop} {cv vr vr' : TPth → Nat → Option TVal} {mv mv' : Option (TPth × Nat × TVal)} {Aw : TPth → Nat → Prop} {WV WC : TPth → Nat → TPth → Nat → Prop} {R H R' : List TEv} {fl fl' : Prop} {e0 f : Nat} {W : Nat → Int32 × Int32 × Int32} {ν : Nat → Nat} {NE : TPth → Prop} {VN : TPth → Nat → TVal → Prop} {NR : TEv → Prop} {P1 : TPth} {z1 : TR × List Nat × Nat} {j r i : Nat} {γ : List Nat} {x x' x'' fs c ns g as : TR} {a : TVal}
theorem rh_no {e : TEv} (h : (R ++ H).Nodup) (q : e ∈ R) : ¬ e ∈ H := fun q' => (List.nodup_append.mp h).2.2 e q e q' rfl
theorem H_gen (B : SBd K V y e0 f W ν) (A : AB K V y q0 ar En cv vr none Aw WV WC R H fl) (hz1 : z1 ∈ scP y) (hr1 : z1.2.2 = hdR P1) (hb1 : rtk z1.1 = otk z1.1) (hk1 : acK z1.1 = true) (he : (P1, otk z1.1, i) ∈ R)
    (hvr : ∀ F b v, vr' F b = some v ↔ vr F b = some v ∨ VN F b v)
    (hN : ∀ Q, NE Q → ¬ En Q ∧ POk V y Q ∧ Z0 y Q ∧ (∃ c D, Q = c :: D ∧ D ≠ [] ∧ En D) ∧ own y Q = (P1, otk z1.1) ∧ JP V y (fun P => En P ∨ NE P) cv (fun e => e ∈ (P1, otk z1.1, i) :: H) P1 z1 Q)
    (hVN : ∀ F b v, VN F b v → vr F b = none ∧ Bnd V y P1 z1 F b ∧ JR V y (fun P => En P ∨ NE P) cv P1 z1 F b v)
    (hm : ∀ P t v, mv' = some (P, t, v) → P = P1 ∧ t = otk z1.1 ∧ cv P t = none ∧ tyO (tyV K V z1.1) v ∧ JV V y (fun P => En P ∨ NE P) cv (fun e => e ∈ (P1, otk z1.1, i) :: H) P1 z1 v)
    (hRn : R'.Nodup) (hRm : ∀ e, e ∈ R' ↔ (e ∈ R ∧ e ≠ (P1, otk z1.1, i)) ∨ NR e) (hNR : ∀ P t k, NR (P, t, k) → P = P1 ∧ t = otk z1.1 ∧ ¬ ((P, t, k) ∈ R ∨ (P, t, k) ∈ H) ∧ JE (fun P => En P ∨ NE P) cv (fun e => e ∈ (P1, otk z1.1, i) :: H) P1 z1 k)
    (hnA : ¬ AwW Aw WV WC P1 (otk z1.1))
    (hS : ∀ En2 Va2 De2, CloE K V y ar En2 Va2 De2 P1 z1 → (∀ P, En P → En2 P) → (∀ P t v, VaC y cv P t v → Va2 P t v) → (∀ P, NE P → En2 P) ∧ (∀ P t v, mv' = some (P, t, v) → Va2 P t v) ∧ ∀ e, NR e → De2 e)
    (hfl : fl → fl')
    (hp : ¬ fl' → ABp K V y (fun P => En P ∨ NE P) cv vr' mv' (AwN y Aw (fun _ _ => False) WV WC cv vr' NE) (WVN WV vr') (WCN WC (fun _ _ _ _ => False) cv) R' ((P1, otk z1.1, i) :: H) P1 z1) :
    AB K V y q0 ar (fun P => En P ∨ NE P) cv vr' mv' (AwN y Aw (fun _ _ => False) WV WC cv vr' NE) (WVN WV vr') (WCN WC (fun _ _ _ _ => False) cv) R' ((P1, otk z1.1, i) :: H) fl' := by
  obtain ⟨a1, ⟨b1, b2, b3, b4, b5, b6, b7, b8, b9⟩, a3, a4, a5, a6⟩ := id A
  have hE1 : En P1 := (b4 P1 _ i (.inl he)).1
  have hqa := a5 P1 z1 hE1 hz1 hr1
  have hs := ((tl_P B.1) z1 hz1).2.1
  have nz : NdA y P1 (otk z1.1) z1 := ⟨hz1, hr1, rfl, hb1⟩
  have hnH := rh_no b3 he
  have same : ∀ P z, z ∈ scP y → P = P1 ∧ otk z.1 = otk z1.1 → P = P1 ∧ z = z1 := fun P z q1 q2 => ⟨q2.1, (ou_P B.1).2 z q1 z1 hz1 q2.2⟩
  have hcv : ∀ P t v, cv P t = some v ↔ Vm cv none P t v := fun P t v => ⟨.inl, fun q => by rcases q with q | q; exact q; cases q⟩
  have hEv : ∀ P t k, (P, t, k) ∈ R' ∨ (P, t, k) ∈ (P1, otk z1.1, i) :: H → ((P, t, k) ∈ R ∨ (P, t, k) ∈ H) ∨ NR (P, t, k) := fun P t k q => by
    rcases q with q | q
    · rcases (hRm _).mp q with q | q
      · exact .inl (.inl q.1)
      · exact .inr q
    · rcases List.mem_cons.mp q with q | q
      · rw [q]
        exact .inl (.inl he)
      · exact .inl (.inr q)
  refine AB_gen (Sl := fun _ _ => False) (NW := fun _ _ _ _ => False) (VN := VN) (fl' := fl') B A (fun P t => P = P1 ∧ t = otk z1.1) hcv hvr (fun P t q => by rw [q.1]; exact hE1) (fun P q => ?_) (fun F b v q => ⟨(hVN F b v q).1, P1, z1, hE1, hz1, hr1, (hVN F b v q).2.1, rfl, rfl⟩) (fun _ _ q => q.elim) (fun _ _ _ _ q => q.elim) (fun P t v q => ?_) ?_ (fun P t k q => ?_) (fun P t k q => ?_) (fun e q => List.mem_cons_of_mem _ q) (fun P z P' t' v q => by cases q) (fun En2 Va2 De2 C c1 c2 c3 => ?_) hfl (fun P z q1 q2 q3 q4 => ?_) (fun hn P z q1 q2 q3 q4 => ?_)
  · obtain ⟨n1, n2, n3, n4, n5, -⟩ := hN P q
    exact ⟨n1, n2, n3, n4, by rw [n5], by rw [n5]⟩
  · obtain ⟨u1, u2, u3, u4, -⟩ := hm P t v q
    refine ⟨⟨u1, u2⟩, u3, z1, ?_, u4⟩
    rw [u1, u2]
    exact nz
  · obtain ⟨n1, n2, n3⟩ := List.nodup_append.mp b3
    refine List.nodup_append.mpr ⟨hRn, List.nodup_cons.mpr ⟨hnH, n2⟩, fun u q1 u' q2 e => ?_⟩
    subst e
    rcases (hRm u).mp q1 with q1 | q1
    · rcases List.mem_cons.mp q2 with q2 | q2
      · exact q1.2 q2
      · exact n3 u q1.1 u q2 rfl
    · obtain ⟨u1, u2, u3⟩ := u
      have h4 := (hNR u1 u2 u3 q1).2.2.1
      rcases List.mem_cons.mp q2 with q2 | q2
      · rw [q2] at h4
        exact h4 (.inl he)
      · exact h4 (.inr q2)
  · rcases hEv P t k q with q | q
    · exact .inl q
    · obtain ⟨u1, u2, -⟩ := hNR P t k q
      refine .inr ⟨⟨u1, u2⟩, z1, ?_⟩
      rw [u1, u2]
      exact nz
  · by_cases cc : (P, t, k) = (P1, otk z1.1, i)
    · cases cc
      exact .inr ⟨rfl, rfl⟩
    · exact .inl ((hRm _).mpr (.inl ⟨q, cc⟩))
  · obtain ⟨s1, s2, s3⟩ := hS En2 Va2 De2 (clo_nd a1 C c1 hE1 hz1 hr1) c1 c2
    refine ⟨s1, s2, fun e q => ?_⟩
    obtain ⟨u1, u2, u3⟩ := e
    rcases hEv u1 u2 u3 q with q | q
    · exact c3 _ q
    · exact s3 _ q
  · obtain ⟨u1, u2⟩ := same P z q2 q4
    rw [u1, u2]
    refine NQ_act hs hk1 hqa (fun _ _ _ q => q) (fun _ q => .inl q) (fun _ q => List.mem_cons_of_mem _ q) (fun v q => ?_) (fun k q => ?_) (fun Q q => ?_) (fun F b v _ q => ?_) (fun q => absurd (aw_old (fun P q => (hN P q).1) hE1 (fun _ _ q => q) q) hnA)
    · rcases q with q | q
      · exact .inl (.inl q)
      · exact .inr (hm _ _ _ q).2.2.2.2
    · rcases hEv _ _ k q with q | q
      · exact .inl q
      · exact .inr (hNR _ _ k q).2.2.2
    · rcases q with q | q
      · exact .inl q
      · exact .inr (hN Q q).2.2.2.2.2
    · rcases (hvr F b v).mp q with q | q
      · exact .inl q
      · exact .inr (hVN F b v q).2.2
  · obtain ⟨u1, u2⟩ := same P z q2 q4
    rw [u1, u2]
    exact hp hn
/-- what happens sends a value -/
theorem H_mv (B : SBd K V y e0 f W ν) (A : AB K V y q0 ar En cv vr none Aw WV WC R H fl) (hz1 : z1 ∈ scP y) (hr1 : z1.2.2 = hdR P1) (hb1 : rtk z1.1 = otk z1.1) (hk1 : acK z1.1 = true) (he : (P1, otk z1.1, i) ∈ R) (hRn : R'.Nodup) (hRm : ∀ e, e ∈ R' ↔ e ∈ R ∧ e ≠ (P1, otk z1.1, i))
    (hnA : ¬ AwW Aw WV WC P1 (otk z1.1)) {v : TVal} (hcn : ∀ u, ¬ Vm cv none P1 (otk z1.1) u) (hty : tyO (tyV K V z1.1) v) (hJ : JV V y En cv (fun e => e ∈ (P1, otk z1.1, i) :: H) P1 z1 v)
    (hS : ∀ En2 Va2 De2, CloE K V y ar En2 Va2 De2 P1 z1 → (∀ P, En P → En2 P) → (∀ P t v, VaC y cv P t v → Va2 P t v) → Va2 P1 (otk z1.1) v)
    (hp : ¬ fl → ABp K V y En cv vr (some (P1, otk z1.1, v)) (AwN y Aw (fun _ _ => False) WV WC cv vr (fun _ => False)) (WVN WV vr) (WCN WC (fun _ _ _ _ => False) cv) R' ((P1, otk z1.1, i) :: H) P1 z1) :
    AB K V y q0 ar En cv vr (some (P1, otk z1.1, v)) (AwN y Aw (fun _ _ => False) WV WC cv vr (fun _ => False)) (WVN WV vr) (WCN WC (fun _ _ _ _ => False) cv) R' ((P1, otk z1.1, i) :: H) fl := by
  have e : (fun P => En P ∨ False) = En := funext (fun P => propext ⟨fun q => q.elim id False.elim, .inl⟩)
  have := H_gen (NE := fun _ => False) (VN := fun _ _ _ => False) (NR := fun _ => False) (mv' := some (P1, otk z1.1, v)) (fl' := fl) (vr' := vr) B A hz1 hr1 hb1 hk1 he (fun F b u => ⟨.inl, fun q => q.elim id False.elim⟩) (fun _ q => q.elim) (fun _ _ _ q => q.elim) (fun P t u q => ?_) hRn (fun e => ⟨fun q => .inl ((hRm e).mp q), fun q => q.elim (hRm e).mpr False.elim⟩) (fun _ _ _ q => q.elim) hnA (fun En2 Va2 De2 C c1 c2 => ⟨fun _ q => q.elim, fun P t u q => ?_, fun _ q => q.elim⟩) id (fun hn => ?_)
  · rw [e] at this
    exact this
  · cases q
    refine ⟨rfl, rfl, ?_, hty, ?_⟩
    · cases hc : cv P1 (otk z1.1) with
      | none => rfl
      | some u => exact absurd (.inl hc) (hcn u)
    · rw [e]
      exact hJ
  · cases q
    exact hS En2 Va2 De2 C c1 c2
  · rw [e]
    exact hp hn
theorem H_sig (B : SBd K V y e0 f W ν) (A : AB K V y q0 ar En cv vr none Aw WV WC R H fl) (hz : (.tag 8 (.tag j x), γ, r) ∈ scP y) (hr : r = hdR P1) (he : (P1, j, 0) ∈ R) (hRn : R'.Nodup) (hRm : ∀ e, e ∈ R' ↔ e ∈ R ∧ e ≠ (P1, j, 0)) (ha : cv P1 (rtk x) = some a) :
    AB K V y q0 ar En cv vr (some (P1, j, sgV (K j) a)) (AwN y Aw (fun _ _ => False) WV WC cv vr (fun _ => False)) (WVN WV vr) (WCN WC (fun _ _ _ _ => False) cv) R' ((P1, j, 0) :: H) fl := by
  have hE1 : En P1 := (A.2.1.2.2.2.1 P1 _ 0 (.inl he)).1
  have hqa := A.2.2.2.2.1 P1 _ hE1 hz hr
  have hnH := rh_no A.2.1.2.2.1 he
  obtain ⟨⟨p', e', wz⟩, hs, htr⟩ := (tl_P B.1) _ hz
  obtain ⟨-, -, w1⟩ := wz
  have hx := htr _ (mc _ (hd_in w1 _ _))
  have hta := AB_tv B A hx (.inl ha)
  refine H_mv (z1 := (.tag 8 (.tag j x), γ, r)) (i := 0) B A hz hr rfl rfl he hRn hRm hqa.1 (fun u q => hnH (hqa.2.2 u q)) ?_ List.mem_cons_self (fun En2 Va2 De2 C c1 c2 => (C a (c2 _ _ _ ⟨_, hx, rfl, hr, ha⟩)).2) (fun hf => ?_)
  · show tyO (if K j = 45 then 1 else 2) (sgV (K j) a)
    unfold sgV
    by_cases c4 : a.1 = 4
    · rw [if_pos c4]
      exact ⟨hta.1, fun q => absurd c4 q⟩
    · rw [if_neg c4]
      by_cases c45 : K j = 45
      · rw [if_pos c45, if_pos c45]
        exact ty_n
      · rw [if_neg c45, if_neg c45]
        exact ty_t
  · intro v q
    rw [ha] at q
    cases q
    exact .inr ⟨List.mem_cons_self, .inr rfl⟩
theorem H_bin (B : SBd K V y e0 f W ν) (A : AB K V y q0 ar En cv vr none Aw WV WC R H fl) (hz : (.tag 9 (.tag j (.append x x')), γ, r) ∈ scP y) (hr : r = hdR P1) (he : (P1, j, 0) ∈ R) (hRn : R'.Nodup) (hRm : ∀ e, e ∈ R' ↔ e ∈ R ∧ e ≠ (P1, j, 0)) {a' : TVal} (ha : cv P1 (rtk x) = some a) (ha' : cv P1 (rtk x') = some a') :
    AB K V y q0 ar En cv vr (some (P1, j, biV (K j) a a')) (AwN y Aw (fun _ _ => False) WV WC cv vr (fun _ => False)) (WVN WV vr) (WCN WC (fun _ _ _ _ => False) cv) R' ((P1, j, 0) :: H) fl := by
  have hE1 : En P1 := (A.2.1.2.2.2.1 P1 _ 0 (.inl he)).1
  have hqa := A.2.2.2.2.1 P1 _ hE1 hz hr
  have hnH := rh_no A.2.1.2.2.1 he
  obtain ⟨⟨p', e', wz⟩, hs, htr⟩ := (tl_P B.1) _ hz
  obtain ⟨hKj, w1, w2⟩ := wz
  have hx := htr _ (mc _ (ml _ (hd_in w1 _ _)))
  have hx' := htr _ (mc _ (mr _ (hd_in w2 _ _)))
  have hta := AB_tv B A hx (.inl ha)
  have hta' := AB_tv B A hx' (.inl ha')
  refine H_mv (z1 := (.tag 9 (.tag j (.append x x')), γ, r)) (i := 0) B A hz hr rfl rfl he hRn hRm hqa.1 (fun u q => hnH (hqa.2.2 u q)) ?_ List.mem_cons_self (fun En2 Va2 De2 C c1 c2 => (C a a' (c2 _ _ _ ⟨_, hx, rfl, hr, ha⟩) (c2 _ _ _ ⟨_, hx', rfl, hr, ha'⟩)).2) (fun hf => ?_)
  · show tyO (if stg (K j) ≤ 3 then 2 else 1) (biV (K j) a a')
    unfold biV
    cases hee : erV a a' with
    | some v => exact ty_e (erV_3 hta hta' hee)
    | none => exact (opV_k hKj a.2.1 a'.2.1).2
  · intro v v' q q'
    rw [ha] at q
    rw [ha'] at q'
    cases q
    cases q'
    exact .inr ⟨List.mem_cons_self, .inr rfl⟩
/-- an element picks its cell -/
theorem H_pick (B : SBd K V y e0 f W ν) (A : AB K V y q0 ar En cv vr none Aw WV WC R H fl) (hz : (.tag 10 (.tag j (.append x x')), γ, r) ∈ scP y) (hr : r = hdR P1) (he : (P1, j, 0) ∈ R) (hRn : R'.Nodup) (hRm : ∀ e, e ∈ R' ↔ e ∈ R ∧ e ≠ (P1, j, 0)) {a' v : TVal} (ha : cv P1 (rtk x) = some a) (ha' : cv P1 (rtk x') = some a')
    (hv : (∃ e, erV a a' = some e ∧ v = mkE e) ∨ (erV a a' = none ∧ badI a'.2.1 a.2.1 ∧ v = mkE 2) ∨ (erV a a' = none ∧ ¬ badI a'.2.1 a.2.1 ∧ ∃ q q' γ' r', (.tag 11 (.tag a.2.2.2 (.append q q')), γ', r') ∈ scP y ∧ cv ((4 * a.2.2.2, i64N a'.2.1) :: a.2.2.1) (rtk q') = some v)) :
    AB K V y q0 ar En cv vr (some (P1, j, v)) (AwN y Aw (fun _ _ => False) WV WC cv vr (fun _ => False)) (WVN WV vr) (WCN WC (fun _ _ _ _ => False) cv) R' ((P1, j, 0) :: H) fl := by
  have hE1 : En P1 := (A.2.1.2.2.2.1 P1 _ 0 (.inl he)).1
  have hqa := A.2.2.2.2.1 P1 _ hE1 hz hr
  have hnH := rh_no A.2.1.2.2.1 he
  obtain ⟨⟨p', e', wz⟩, hs, htr⟩ := (tl_P B.1) _ hz
  obtain ⟨w1, bb, w2, -⟩ := wz
  have hx := htr _ (mc _ (ml _ (hd_in w1 _ _)))
  have hx' := htr _ (mc _ (mr _ (hd_in w2 _ _)))
  have hta := AB_tv B A hx (.inl ha)
  have hta' := AB_tv B A hx' (.inl ha')
  refine H_mv (z1 := (.tag 10 (.tag j (.append x x')), γ, r)) (i := 0) B A hz hr rfl rfl he hRn hRm (fun q => (hqa.1 q).1 (.inl he)) (fun u q => hnH (hqa.2.2 u q)) ?_ List.mem_cons_self (fun En2 Va2 De2 C c1 c2 => ?_) (fun hf => ?_)
  · show tyO 1 v
    rcases hv with ⟨e, h1, h2⟩ | ⟨h1, h2, h3⟩ | ⟨h1, h2, q, q', γ', r', h3, h4⟩
    · rw [h2]
      exact ty_e (erV_3 hta hta' h1)
    · rw [h3]
      exact ty_e (.inr (.inl rfl))
    · obtain ⟨⟨p2, e2, wz⟩, -, htr2⟩ := (tl_P B.1) _ h3
      obtain ⟨-, -, -, bb, w3, w4⟩ := wz
      have hgd : tvV (V (a.2.2.2 + 1)) = 3 ∧ tvV (V (a.2.2.2 + 3)) = 1 ∧ tyV K V q = 1 ∧ tyV K V q' = 1 := B.2.2.2.2.2.1 _ h3
      have := AB_tv B A (htr2 _ (mc _ (mr _ (hd_in w4 _ _)))) (.inl h4)
      have this : tyO (tyV K V q') v := this
      rw [hgd.2.2.2] at this
      exact this
  · obtain ⟨k1, k2, k3⟩ := C a a' (c2 _ _ _ ⟨_, hx, rfl, hr, ha⟩) (c2 _ _ _ ⟨_, hx', rfl, hr, ha'⟩)
    rcases hv with ⟨e, h1, h2⟩ | ⟨h1, h2, h3⟩ | ⟨h1, h2, q, q', γ', r', h3, h4⟩
    · rw [h2]
      exact (k1 e h1).2
    · rw [h3]
      exact (k2 h1 h2).2
    · obtain ⟨⟨p2, e2, wz⟩, -, htr2⟩ := (tl_P B.1) _ h3
      obtain ⟨-, -, -, bb, w3, w4⟩ := wz
      exact (k3 h1 h2 q q' γ' r' v h3 (c2 _ _ _ ⟨_, htr2 _ (mc _ (mr _ (hd_in w4 _ _))), rfl, rfl, h4⟩)).2
  · intro u u' q q'
    rw [ha] at q
    rw [ha'] at q'
    cases q
    cases q'
    refine .inr (.inr (.inl ⟨v, List.mem_cons_self, .inr rfl, fun e q => ?_, fun q q' => ?_, fun q q' => ?_⟩))
    · rcases hv with ⟨e', h1, h2⟩ | ⟨h1, h2, h3⟩ | ⟨h1, h2, h3⟩
      · rw [q] at h1
        cases h1
        exact h2
      · rw [q] at h1
        cases h1
      · rw [q] at h1
        cases h1
    · rcases hv with ⟨e', h1, h2⟩ | ⟨h1, h2, h3⟩ | ⟨h1, h2, h3⟩
      · rw [q] at h1
        cases h1
      · exact h3
      · exact absurd q' h2
    · rcases hv with ⟨e', h1, h2⟩ | ⟨h1, h2, h3⟩ | ⟨h1, h2, h3⟩
      · rw [q] at h1
        cases h1
      · exact absurd h2 q'
      · exact h3
/-- an if: an error -/
theorem H_if0 (B : SBd K V y e0 f W ν) (A : AB K V y q0 ar En cv vr none Aw WV WC R H fl) (hz : (.tag 6 (.tag j (.append x (.append x' x''))), γ, r) ∈ scP y) (hr : r = hdR P1) (he : (P1, j, 0) ∈ R) (hRn : R'.Nodup) (hRm : ∀ e, e ∈ R' ↔ e ∈ R ∧ e ≠ (P1, j, 0)) (ha : cv P1 (rtk x) = some a) (h4 : a.1 = 4) :
    AB K V y q0 ar En cv vr (some (P1, j, a)) (AwN y Aw (fun _ _ => False) WV WC cv vr (fun _ => False)) (WVN WV vr) (WCN WC (fun _ _ _ _ => False) cv) R' ((P1, j, 0) :: H) fl := by
  have hE1 : En P1 := (A.2.1.2.2.2.1 P1 _ 0 (.inl he)).1
  have hqa := A.2.2.2.2.1 P1 _ hE1 hz hr
  have hnH := rh_no A.2.1.2.2.1 he
  obtain ⟨⟨p', e', wz⟩, hs, htr⟩ := (tl_P B.1) _ hz
  obtain ⟨-, bb, cc, w1, w2, w3⟩ := wz
  have hx := htr _ (mc _ (ml _ (hd_in w1 _ _)))
  have hta := AB_tv B A hx (.inl ha)
  refine H_mv (z1 := (.tag 6 (.tag j (.append x (.append x' x''))), γ, r)) (i := 0) B A hz hr rfl rfl he hRn hRm hqa.1 (fun u q => hnH (hqa.2.2.2.2 u q).1) ⟨hta.1, fun q => absurd h4 q⟩ ⟨List.mem_cons_self, a, ha, .inl ⟨h4, rfl⟩⟩ (fun En2 Va2 De2 C c1 c2 => (C a (c2 _ _ _ ⟨_, hx, rfl, hr, ha⟩)).2.1 h4) (fun hf => ?_)
  refine ⟨fun v q => ?_, fun v q => ?_, fun v q => ?_⟩
  · rw [ha] at q
    cases q
    exact .inr ⟨List.mem_cons_self, fun _ => .inr rfl, fun q => absurd h4 q, fun q => absurd h4 q⟩
  · exact absurd (hqa.2.2.1 (A.2.1.1 _ _ _ (.inl q)).1).1 hnH
  · exact absurd (hqa.2.2.2.1 (A.2.1.1 _ _ _ (.inl q)).1).1 hnH
/-- an if: one part is entered -/
theorem H_if1 (B : SBd K V y e0 f W ν) (A : AB K V y q0 ar En cv vr none Aw WV WC R H fl) (hz : (.tag 6 (.tag j (.append x (.append x' x''))), γ, r) ∈ scP y) (hr : r = hdR P1) (he : (P1, j, 0) ∈ R) (hRn : R'.Nodup) (hRm : ∀ e, e ∈ R' ↔ e ∈ R ∧ e ≠ (P1, j, 0)) (ha : cv P1 (rtk x) = some a) (h4 : a.1 ≠ 4) {k : Nat} (hk : (a.2.1 = 1 ∧ k = 0) ∨ (a.2.1 ≠ 1 ∧ k = 1)) :
    AB K V y q0 ar (fun P => En P ∨ P = (4 * j + k, 0) :: P1) cv vr none (AwN y Aw (fun _ _ => False) WV WC cv vr (fun P => P = (4 * j + k, 0) :: P1)) (WVN WV vr) (WCN WC (fun _ _ _ _ => False) cv) R' ((P1, j, 0) :: H) fl := by
  have hE1 : En P1 := (A.2.1.2.2.2.1 P1 _ 0 (.inl he)).1
  have hqa := A.2.2.2.2.1 P1 _ hE1 hz hr
  have hnH := rh_no A.2.1.2.2.1 he
  obtain ⟨⟨p', e', wz⟩, hs, htr⟩ := (tl_P B.1) _ hz
  obtain ⟨-, bb, cc, w1, w2, w3⟩ := wz
  have hx := htr _ (mc _ (ml _ (hd_in w1 _ _)))
  have hP1 := A.1.2.1 P1 hE1
  have n0 : ¬ En ((4 * j, 0) :: P1) := fun q => hnH (hqa.2.2.1 q).1
  have n1 : ¬ En ((4 * j + 1, 0) :: P1) := fun q => hnH (hqa.2.2.2.1 q).1
  have hk2 : k < 2 := by omega
  refine H_gen (z1 := (.tag 6 (.tag j (.append x (.append x' x''))), γ, r)) (i := 0) (NE := fun P => P = (4 * j + k, 0) :: P1) (VN := fun _ _ _ => False) (NR := fun _ => False) (mv' := none) (fl' := fl) B A hz hr rfl rfl he (fun F b u => ⟨.inl, fun q => q.elim id False.elim⟩) (fun Q q => ?_) (fun _ _ _ q => q.elim) (fun P t u q => by cases q) hRn (fun e => ⟨fun q => .inl ((hRm e).mp q), fun q => q.elim (hRm e).mpr False.elim⟩) (fun _ _ _ q => q.elim) hqa.1 (fun En2 Va2 De2 C c1 c2 => ⟨fun Q q => ?_, fun P t u q => (by cases q), fun _ q => q.elim⟩) id (fun hn => ⟨fun v q => ?_, fun v q => ?_, fun v q => ?_⟩)
  · subst q
    refine ⟨?_, pk_nd hP1.1 hz ⟨?_, hr.symm⟩, z0_cn hP1.2 (.inr rfl), ⟨_, _, rfl, pk_ne hP1.1, hE1⟩, own_nd B.1 hz (by omega) (.inl rfl) P1, fun q => ?_, fun q => ?_⟩
    · rcases hk with ⟨-, rfl⟩ | ⟨-, rfl⟩
      · exact n0
      · exact n1
    · rcases hk with ⟨-, rfl⟩ | ⟨-, rfl⟩
      · exact .inl rfl
      · exact .inr rfl
    · have : 4 * j + k = 4 * j := congrArg Prod.fst (List.cons.inj q).1
      rcases hk with hk | hk
      · exact ⟨List.mem_cons_self, a, ha, h4, hk.1⟩
      · omega
    · have : 4 * j + k = 4 * j + 1 := congrArg Prod.fst (List.cons.inj q).1
      rcases hk with hk | hk
      · omega
      · exact ⟨List.mem_cons_self, a, ha, h4, hk.1⟩
  · subst q
    obtain ⟨-, -, k1, k2⟩ := C a (c2 _ _ _ ⟨_, hx, rfl, hr, ha⟩)
    rcases hk with ⟨hk, rfl⟩ | ⟨hk, rfl⟩
    · exact (k1 h4 hk).1
    · exact (k2 h4 hk).1
  · rw [ha] at q
    cases q
    refine .inr ⟨List.mem_cons_self, fun q => absurd q h4, fun _ q => ?_, fun _ q => ?_⟩
    · rcases hk with ⟨hk, rfl⟩ | ⟨hk, rfl⟩
      · exact .inr rfl
      · exact absurd q hk
    · rcases hk with ⟨hk, rfl⟩ | ⟨hk, rfl⟩
      · exact absurd hk q
      · exact .inr rfl
  · exact absurd (A.2.1.1 _ _ _ (.inl q)).1 n0
  · exact absurd (A.2.1.1 _ _ _ (.inl q)).1 n1
/-- a function is entered -/
theorem H_call (B : SBd K V y e0 f W ν) (A : AB K V y q0 ar En cv vr none Aw WV WC R H fl) (hz : (.tag 4 (.tag j as), γ, r) ∈ scP y) (hr : r = hdR P1) (he : (P1, j, 0) ∈ R) (hRn : R'.Nodup) (hRm : ∀ e, e ∈ R' ↔ e ∈ R ∧ e ≠ (P1, j, 0)) {ii p cnt : Nat} {xf : TR} (hi : idx V ((ftP y).map Prod.fst) j = some ii) (hf : (fuP y)[ii]? = some (p, cnt, xf))
    (hvr : ∀ F b v, vr' F b = some v ↔ vr F b = some v ∨ (F = (4 * p, j) :: P1 ∧ ∃ z xz, z < cnt ∧ agX as z = some xz ∧ b = p + 2 + 2 * z ∧ cv P1 (rtk xz) = some v)) :
    AB K V y q0 ar (fun P => En P ∨ P = (4 * p, j) :: P1) cv vr' none (AwN y Aw (fun _ _ => False) WV WC cv vr' (fun P => P = (4 * p, j) :: P1)) (WVN WV vr') (WCN WC (fun _ _ _ _ => False) cv) R' ((P1, j, 0) :: H) fl := by
  have hE1 : En P1 := (A.2.1.2.2.2.1 P1 _ 0 (.inl he)).1
  have hqa := A.2.2.2.2.1 P1 _ hE1 hz hr
  have hnH := rh_no A.2.1.2.2.1 he
  have hP1 := A.1.2.1 P1 hE1
  obtain ⟨q1, q2, q3⟩ := hqa.2 ii p cnt xf hi hf
  have n0 : ¬ En ((4 * p, j) :: P1) := fun q => hnH (q1 q)
  have hfm := List.mem_of_getElem? hf
  have sm : ∀ {i' p1 cnt1 : Nat} {x1 : TR}, idx V ((ftP y).map Prod.fst) j = some i' → (fuP y)[i']? = some (p1, cnt1, x1) → p1 = p ∧ cnt1 = cnt ∧ x1 = xf := fun u1 u2 => by
    rw [hi] at u1
    cases u1
    rw [hf] at u2
    cases u2
    exact ⟨rfl, rfl, rfl⟩
  refine H_gen (z1 := (.tag 4 (.tag j as), γ, r)) (i := 0) (NE := fun P => P = (4 * p, j) :: P1) (VN := fun F b v => F = (4 * p, j) :: P1 ∧ ∃ z xz, z < cnt ∧ agX as z = some xz ∧ b = p + 2 + 2 * z ∧ cv P1 (rtk xz) = some v) (NR := fun _ => False) (mv' := none) (fl' := fl) B A hz hr rfl rfl he hvr (fun Q q => ?_) (fun F b v q => ?_) (fun P t u q => by cases q) hRn (fun e => ⟨fun q => .inl ((hRm e).mp q), fun q => q.elim (hRm e).mpr False.elim⟩) (fun _ _ _ q => q.elim) (fun q => hqa.1 q (.inl he)) (fun En2 Va2 De2 C c1 c2 => ⟨fun Q q => ?_, fun P t u q => (by cases q), fun _ q => q.elim⟩) id (fun hn => ?_)
  · subst q
    exact ⟨n0, pk_call hP1.1 hz hr hi hf, z0_cn hP1.2 (.inl (ifr_fn B.1 hfm)), ⟨_, _, rfl, pk_ne hP1.1, hE1⟩, own_call B.1 hfm j P1, fun p' _ => List.mem_cons_self⟩
  · obtain ⟨e1, z, xz, e2, e3, e4, e5⟩ := q
    subst e1
    subst e4
    refine ⟨?_, ⟨ii, p, cnt, xf, z, hi, hf, e2, rfl, rfl⟩, fun i' p1 cnt1 x1 z' u1 u2 u3 u4 u5 => ?_⟩
    · cases hc : vr ((4 * p, j) :: P1) (p + 2 + 2 * z) with
      | none => rfl
      | some u => exact absurd (q3 z u e2 hc).1 n0
    · obtain ⟨s1, s2, s3⟩ := sm u1 u2
      subst s1
      have : z = z' := by omega
      subst this
      exact ⟨.inr rfl, xz, e3, e5⟩
  · subst q
    exact (C ii p cnt xf hi hf).2.1
  · intro i' p1 cnt1 x1 u1 u2
    obtain ⟨s1, s2, s3⟩ := sm u1 u2
    subst s1
    subst s2
    subst s3
    refine ⟨.inr (.inr ⟨List.mem_cons_self, .inr rfl⟩), fun v q => absurd (A.2.1.1 _ _ _ (.inl q)).1 n0, fun _ z xz v k1 k2 k3 => (hvr _ _ _).mpr (.inr ⟨rfl, z, xz, k1, k2, rfl, k3⟩)⟩
end HAP
