/-! a token that moves is put down: who takes it acts -/
section MOV
variable {K : Nat → Nat} {V : Nat → Int64} {y : TR} {q0 : Nat} {ar : Nat → Int64} {En : TPth → Prop} {cv vr cv' vr' : TPth → Nat → Option TVal} {mv mv' : Option (TPth × Nat × TVal)} {Aw : TPth → Nat → Prop} {WV WC : TPth → Nat → TPth → Nat → Prop} {R H R' : List TEv} {fl : Prop} {e0 f : Nat} {W : Nat → Int32 × Int32 × Int32} {ν : Nat → Nat} {VN : TPth → Nat → TVal → Prop} {NW : TPth → Nat → TPth → Nat → Prop} {P0 P1 : TPth} {t0 : Nat} {a : TVal} {z1 : TR × List Nat × Nat}
theorem AB_tv (B : SBd K V y e0 f W ν) (A : AB K V y q0 ar En cv vr mv Aw WV WC R H fl) {P : TPth} {z : TR × List Nat × Nat} {a' : TVal} (q1 : z ∈ scP y) (q3 : Vm cv mv P (rtk z.1) a') : tyO (tyV K V z.1) a' := by
  obtain ⟨-, z', ⟨u1, u2, u3, u4⟩, u5⟩ := A.2.1.1 P (rtk z.1) a' q3
  obtain ⟨x', v1, v2, v3, -, v4⟩ := rt_sc (V := V) B.1 (tsz z.1) z.1 z.2.1 z.2.2 (Nat.le_refl _) q1
  have := (ou_P B.1).2 _ u1 _ v1 (u3.trans v2.symm)
  have e : z'.1 = x' := congrArg Prod.fst this
  rw [e, v4] at u5
  exact u5
theorem mvc (hn : cv P0 t0 = none) (hcv : ∀ P t v, cv' P t = some v ↔ Vm cv (some (P0, t0, a)) P t v) : cv' P0 t0 = some a ∧ ∀ P t, ¬ (P = P0 ∧ t = t0) → cv' P t = cv P t := by
  refine ⟨(hcv _ _ _).mpr (.inr rfl), fun P t h => ?_⟩
  cases hc : cv' P t with
  | none =>
    cases hc' : cv P t with
    | none => rfl
    | some v => rw [(hcv P t v).mpr (.inl hc')] at hc; cases hc
  | some v =>
    rcases (hcv P t v).mp hc with q | q
    · exact q.symm
    · cases q
      exact absurd ⟨rfl, rfl⟩ h
theorem ja_old {AW : TPth → Nat → Prop} {Ev Hp : TEv → Prop} {P : TPth} {z : TR × List Nat × Nat} (hs : shp z.1) (hk : acK z.1 = true) (h : NQ V y En cv vr mv AW Ev Hp P z) (hcm : ∀ P t a, cv P t = some a → cv' P t = some a) (q : AW P (otk z.1)) : JA En cv' Ev P z := by
  obtain ⟨x, γ, r⟩ := z
  have hs : shp x := hs
  rcases hs with ⟨j, rfl⟩ | ⟨j, rfl⟩ | ⟨j, rfl⟩ | ⟨j, as, rfl⟩ | ⟨j, a, b, rfl⟩ | ⟨j, a, b, c, rfl⟩ | ⟨j, fs, c, ns, g, rfl⟩ | ⟨j, a, rfl⟩ | ⟨j, a, b, rfl⟩ | ⟨j, a, b, rfl⟩ | ⟨j, a, b, rfl⟩ | ⟨j, a, rfl⟩
  · cases hk
  · cases hk
  · cases hk
  · exact h.1 q
  · exact absurd q h.1
  · exact absurd q h.1
  · exact h.1 q
  · exact absurd q h.1
  · exact absurd q h.1
  · obtain ⟨u1, u, u', u2, u3⟩ := h.1 q
    exact ⟨u1, u, u', hcm _ _ _ u2, hcm _ _ _ u3⟩
  · exact absurd q h.1
  · cases hk
theorem AB_mov (B : SBd K V y e0 f W ν) (A : AB K V y q0 ar En cv vr (some (P0, t0, a)) Aw WV WC R H fl)
    (hcv : ∀ P t v, cv' P t = some v ↔ Vm cv (some (P0, t0, a)) P t v) (hvr : ∀ F b v, vr' F b = some v ↔ vr F b = some v ∨ VN F b v)
    (hE1 : En P1) (hz1 : z1 ∈ scP y) (hr1 : z1.2.2 = hdR P1) (hb1 : rtk z1.1 = otk z1.1) (hI1 : Inp V y P1 z1 P0 t0)
    (hVN : ∀ F b v, VN F b v → vr F b = none ∧ Bnd V y P1 z1 F b)
    (hNW : ∀ C t' P t, NW C t' P t → P = P1 ∧ t = otk z1.1 ∧ cv' C t' = none ∧ ¬ AwW Aw WV WC P t ∧ WCi y cv' C t' P t)
    (hm : ∀ P t v, mv' = some (P, t, v) → P = P1 ∧ t = otk z1.1 ∧ cv' P t = none ∧ tyO (tyV K V z1.1) v)
    (hRn : (R' ++ H).Nodup) (hR : ∀ P t i, (P, t, i) ∈ R' → (P, t, i) ∈ R ∨ (P = P1 ∧ t = otk z1.1)) (hR' : ∀ e, e ∈ R → e ∈ R')
    (hS : ∀ En2 Va2 De2, CloE K V y ar En2 Va2 De2 P1 z1 → (∀ P, En P → En2 P) → (∀ P t v, VaC y cv' P t v → Va2 P t v) → (∀ P t v, mv' = some (P, t, v) → Va2 P t v) ∧ ∀ e, e ∈ R' → e ∈ R ∨ De2 e)
    (hq : ABq V y En cv' vr' mv' (AwN y Aw (fun _ _ => False) WV WC cv' vr' (fun _ => False)) (WVN WV vr') (WCN WC NW cv') R' H P1 z1)
    (hp : ¬ fl → ABp K V y En cv' vr' mv' (AwN y Aw (fun _ _ => False) WV WC cv' vr' (fun _ => False)) (WVN WV vr') (WCN WC NW cv') R' H P1 z1) :
    AB K V y q0 ar En cv' vr' mv' (AwN y Aw (fun _ _ => False) WV WC cv' vr' (fun _ => False)) (WVN WV vr') (WCN WC NW cv') R' H fl := by
  have e : (fun P => En P ∨ False) = En := funext (fun P => propext ⟨fun q => q.elim id False.elim, .inl⟩)
  have nz : NdA y P1 (otk z1.1) z1 := ⟨hz1, hr1, rfl, hb1⟩
  have same : ∀ P z, z ∈ scP y → P = P1 ∧ otk z.1 = otk z1.1 → P = P1 ∧ z = z1 := fun P z q1 q2 => ⟨q2.1, (ou_P B.1).2 z q1 z1 hz1 q2.2⟩
  have := AB_gen (NE := fun _ => False) (Sl := fun _ _ => False) (NW := NW) (mv' := mv') (R' := R') (H' := H) (fl' := fl) B A (fun P t => P = P1 ∧ t = otk z1.1) hcv hvr (fun P t q => by rw [q.1]; exact hE1) (fun _ q => q.elim) (fun F b v q => ⟨(hVN F b v q).1, P1, z1, hE1, hz1, hr1, (hVN F b v q).2, rfl, rfl⟩) (fun _ _ q => q.elim) (fun C t' P t q => ?_) (fun P t v q => ?_) hRn (fun P t i q => ?_) (fun P t i q => .inl (hR' _ q)) (fun _ q => q) (fun P z P' t' v q q1 q2 q3 q4 => ?_) (fun En2 Va2 De2 C c1 c2 c3 => ?_) id (fun P z q1 q2 q3 q4 => ?_) (fun hn P z q1 q2 q3 q4 => ?_)
  · rw [e] at this
    exact this
  · obtain ⟨u1, u2, u3, u4, u5⟩ := hNW C t' P t q
    refine ⟨⟨u1, u2⟩, u3, ⟨z1, ?_⟩, u4, u5⟩
    rw [u1, u2]
    exact nz
  · obtain ⟨u1, u2, u3, u4⟩ := hm P t v q
    refine ⟨⟨u1, u2⟩, u3, z1, ?_, u4⟩
    rw [u1, u2]
    exact nz
  · rcases q with q | q
    · rcases hR P t i q with q | q
      · exact .inl (.inl q)
      · refine .inr ⟨q, z1, ?_⟩
        rw [q.1, q.2]
        exact nz
    · exact .inl (.inr q)
  · cases q
    exact Inp_uq B q2 q3 hz1 hr1 q4 hI1
  · obtain ⟨s1, s2⟩ := hS En2 Va2 De2 (clo_nd A.1 C c1 hE1 hz1 hr1) c1 c2
    refine ⟨fun _ q => q.elim, s1, fun e q => ?_⟩
    rcases q with q | q
    · rcases s2 e q with q | q
      · exact c3 e (.inl q)
      · exact q
    · exact c3 e (.inr q)
  · obtain ⟨u1, u2⟩ := same P z q2 q4
    rw [u1, u2, e]
    exact hq
  · obtain ⟨u1, u2⟩ := same P z q2 q4
    rw [u1, u2, e]
    exact hp hn
/-- it is passed on -/
theorem M_pass (B : SBd K V y e0 f W ν) (A : AB K V y q0 ar En cv vr (some (P0, t0, a)) Aw WV WC R H fl)
    (hcv : ∀ P t v, cv' P t = some v ↔ Vm cv (some (P0, t0, a)) P t v)
    (hE1 : En P1) (hz1 : z1 ∈ scP y) (hr1 : z1.2.2 = hdR P1) (hb1 : rtk z1.1 = otk z1.1) (hk1 : acK z1.1 = true) (hI1 : Inp V y P1 z1 P0 t0)
    (hnv : ∀ v, ¬ Vm cv (some (P0, t0, a)) P1 (otk z1.1) v) (hty : tyO (tyV K V z1.1) a)
    (hJ : JV V y En cv' (fun e => e ∈ H) P1 z1 a)
    (hS : ∀ En2 Va2 De2, CloE K V y ar En2 Va2 De2 P1 z1 → (∀ P, En P → En2 P) → (∀ P t v, VaC y cv' P t v → Va2 P t v) → Va2 P1 (otk z1.1) a)
    (hp : ¬ fl → ABp K V y En cv' vr (some (P1, otk z1.1, a)) (AwN y Aw (fun _ _ => False) WV WC cv' vr (fun _ => False)) (WVN WV vr) (WCN WC (fun _ _ _ _ => False) cv') R H P1 z1) :
    AB K V y q0 ar En cv' vr (some (P1, otk z1.1, a)) (AwN y Aw (fun _ _ => False) WV WC cv' vr (fun _ => False)) (WVN WV vr) (WCN WC (fun _ _ _ _ => False) cv') R H fl := by
  have hcm : ∀ P t v, cv P t = some v → cv' P t = some v := fun P t v q => (hcv P t v).mpr (.inl q)
  have hqa := A.2.2.2.2.1 P1 z1 hE1 hz1 hr1
  have hs := ((tl_P B.1) z1 hz1).2.1
  refine AB_mov (VN := fun _ _ _ => False) B A hcv (fun F b v => ⟨.inl, fun q => q.elim id False.elim⟩) hE1 hz1 hr1 hb1 hI1 (fun _ _ _ q => q.elim) (fun _ _ _ _ q => q.elim) (fun P t v q => ?_) A.2.1.2.2.1 (fun _ _ _ q => .inl q) (fun _ q => q) (fun En2 Va2 De2 C c1 c2 => ⟨fun P t v q => ?_, fun _ q => .inl q⟩) ?_ hp
  · cases q
    refine ⟨rfl, rfl, ?_, hty⟩
    cases hc : cv' P1 (otk z1.1) with
    | none => rfl
    | some v => exact absurd ((hcv _ _ _).mp hc) (hnv v)
  · cases q
    exact hS En2 Va2 De2 C c1 c2
  · refine NQ_act hs hk1 hqa hcm (fun _ q => q) (fun _ q => q) (fun v q => ?_) (fun _ q => .inl q) (fun _ q => .inl q) (fun _ _ _ _ q => .inl q) (fun q => ja_old hs hk1 hqa hcm (aw_old (fun _ q => q.elim) hE1 (fun _ _ q => q) q))
    rcases q with q | q
    · exact .inl ((hcv _ _ _).mp q)
    · cases q
      exact .inr hJ
/-- an event gets ready -/
theorem M_ev (B : SBd K V y e0 f W ν) (A : AB K V y q0 ar En cv vr (some (P0, t0, a)) Aw WV WC R H fl)
    (hcv : ∀ P t v, cv' P t = some v ↔ Vm cv (some (P0, t0, a)) P t v)
    (hE1 : En P1) (hz1 : z1 ∈ scP y) (hr1 : z1.2.2 = hdR P1) (hb1 : rtk z1.1 = otk z1.1) (hk1 : acK z1.1 = true) (hI1 : Inp V y P1 z1 P0 t0)
    {i : Nat} (hR : R' = R ++ [(P1, otk z1.1, i)] ∨ (fl ∧ R' = R)) (hne : ¬ ((P1, otk z1.1, i) ∈ R ∨ (P1, otk z1.1, i) ∈ H))
    (hJ : JE En cv' (fun e => e ∈ H) P1 z1 i) (hA : AwW Aw WV WC P1 (otk z1.1) → JA En cv' (fun e => e ∈ R' ∨ e ∈ H) P1 z1)
    (hS : ∀ En2 Va2 De2, CloE K V y ar En2 Va2 De2 P1 z1 → (∀ P, En P → En2 P) → (∀ P t v, VaC y cv' P t v → Va2 P t v) → De2 (P1, otk z1.1, i))
    (hp : ¬ fl → (∀ e, e ∈ R → e ∈ R') → (P1, otk z1.1, i) ∈ R' → ABp K V y En cv' vr none (AwN y Aw (fun _ _ => False) WV WC cv' vr (fun _ => False)) (WVN WV vr) (WCN WC (fun _ _ _ _ => False) cv') R' H P1 z1) :
    AB K V y q0 ar En cv' vr none (AwN y Aw (fun _ _ => False) WV WC cv' vr (fun _ => False)) (WVN WV vr) (WCN WC (fun _ _ _ _ => False) cv') R' H fl := by
  have hcm : ∀ P t v, cv P t = some v → cv' P t = some v := fun P t v q => (hcv P t v).mpr (.inl q)
  have hqa := A.2.2.2.2.1 P1 z1 hE1 hz1 hr1
  have hs := ((tl_P B.1) z1 hz1).2.1
  have b3 := A.2.1.2.2.1
  have hm1 : ∀ e, e ∈ R' → e ∈ R ∨ e = (P1, otk z1.1, i) := fun e q => by
    rcases hR with hR | hR
    · rw [hR] at q
      rcases List.mem_append.mp q with q | q
      · exact .inl q
      · exact .inr (List.mem_singleton.mp q)
    · rw [hR.2] at q
      exact .inl q
  have hm2 : ∀ e, e ∈ R → e ∈ R' := fun e q => by
    rcases hR with hR | hR
    · rw [hR]; exact List.mem_append_left _ q
    · rw [hR.2]; exact q
  have hnd : (R' ++ H).Nodup := by
    rcases hR with hR | hR
    · rw [hR, List.append_assoc]
      obtain ⟨n1, n2, n3⟩ := List.nodup_append.mp b3
      refine List.nodup_append.mpr ⟨n1, List.nodup_cons.mpr ⟨fun q => hne (.inr q), n2⟩, fun a q1 b q2 e => ?_⟩
      rcases List.mem_cons.mp q2 with q2 | q2
      · exact hne (.inl (by rw [← q2, ← e]; exact q1))
      · exact n3 a q1 b q2 e
    · rw [hR.2]; exact b3
  refine AB_mov (VN := fun _ _ _ => False) B A hcv (fun F b v => ⟨.inl, fun q => q.elim id False.elim⟩) hE1 hz1 hr1 hb1 hI1 (fun _ _ _ q => q.elim) (fun _ _ _ _ q => q.elim) (fun P t v q => by cases q) hnd (fun P t k q => ?_) hm2 (fun En2 Va2 De2 C c1 c2 => ⟨fun P t v q => (by cases q), fun e q => ?_⟩) ?_ (fun hn => ?_)
  · rcases hm1 _ q with q | q
    · exact .inl q
    · cases q
      exact .inr ⟨rfl, rfl⟩
  · rcases hm1 e q with q | q
    · exact .inl q
    · rw [q]
      exact .inr (hS En2 Va2 De2 C c1 c2)
  · refine NQ_act hs hk1 hqa hcm (fun _ q => q) (fun _ q => q) (fun v q => ?_) (fun k q => ?_) (fun _ q => .inl q) (fun _ _ _ _ q => .inl q) (fun q => hA (aw_old (fun _ q => q.elim) hE1 (fun _ _ q => q) q))
    · rcases q with q | q
      · exact .inl ((hcv _ _ _).mp q)
      · cases q
    · rcases q with q | q
      · rcases hm1 _ q with q | q
        · exact .inl (.inl q)
        · cases q
          exact .inr hJ
      · exact .inl (.inr q)
  · refine hp hn hm2 ?_
    rcases hR with hR | hR
    · rw [hR]; exact List.mem_append_right _ (List.mem_singleton.mpr rfl)
    · exact absurd hR.1 hn
/-- a variable gets its value -/
theorem M_var (B : SBd K V y e0 f W ν) (A : AB K V y q0 ar En cv vr (some (P0, t0, a)) Aw WV WC R H fl)
    (hcv : ∀ P t v, cv' P t = some v ↔ Vm cv (some (P0, t0, a)) P t v) {F0 : TPth} {b0 : Nat} (hvr : ∀ F b v, vr' F b = some v ↔ vr F b = some v ∨ (F = F0 ∧ b = b0 ∧ v = a))
    (hE1 : En P1) (hz1 : z1 ∈ scP y) (hr1 : z1.2.2 = hdR P1) (hb1 : rtk z1.1 = otk z1.1) (hk1 : acK z1.1 = true) (hI1 : Inp V y P1 z1 P0 t0)
    (hB : Bnd V y P1 z1 F0 b0) (hv0 : vr F0 b0 = none) (hJ : JR V y En cv' P1 z1 F0 b0 a)
    (hp : ¬ fl → (∀ F b v, vr F b = some v → vr' F b = some v) → vr' F0 b0 = some a → ABp K V y En cv' vr' none (AwN y Aw (fun _ _ => False) WV WC cv' vr' (fun _ => False)) (WVN WV vr') (WCN WC (fun _ _ _ _ => False) cv') R H P1 z1) :
    AB K V y q0 ar En cv' vr' none (AwN y Aw (fun _ _ => False) WV WC cv' vr' (fun _ => False)) (WVN WV vr') (WCN WC (fun _ _ _ _ => False) cv') R H fl := by
  have hcm : ∀ P t v, cv P t = some v → cv' P t = some v := fun P t v q => (hcv P t v).mpr (.inl q)
  have hqa := A.2.2.2.2.1 P1 z1 hE1 hz1 hr1
  have hs := ((tl_P B.1) z1 hz1).2.1
  refine AB_mov (VN := fun F b v => F = F0 ∧ b = b0 ∧ v = a) B A hcv hvr hE1 hz1 hr1 hb1 hI1 (fun F b v q => ?_) (fun _ _ _ _ q => q.elim) (fun P t v q => by cases q) A.2.1.2.2.1 (fun _ _ _ q => .inl q) (fun _ q => q) (fun En2 Va2 De2 C c1 c2 => ⟨fun P t v q => (by cases q), fun _ q => .inl q⟩) ?_ (fun hn => hp hn (fun F b v q => (hvr F b v).mpr (.inl q)) ((hvr _ _ _).mpr (.inr ⟨rfl, rfl, rfl⟩)))
  · rw [q.1, q.2.1]
    exact ⟨hv0, hB⟩
  · refine NQ_act hs hk1 hqa hcm (fun _ q => q) (fun _ q => q) (fun v q => ?_) (fun _ q => .inl q) (fun _ q => .inl q) (fun F b v _ q => ?_) (fun q => ja_old hs hk1 hqa hcm (aw_old (fun _ q => q.elim) hE1 (fun _ _ q => q) q))
    · rcases q with q | q
      · exact .inl ((hcv _ _ _).mp q)
      · cases q
    · rcases (hvr F b v).mp q with q | ⟨q1, q2, q3⟩
      · exact .inl q
      · rw [q1, q2, q3]
        exact .inr hJ
/-- it stays there -/
theorem M_nil (B : SBd K V y e0 f W ν) (A : AB K V y q0 ar En cv vr (some (P0, t0, a)) Aw WV WC R H fl)
    (hcv : ∀ P t v, cv' P t = some v ↔ Vm cv (some (P0, t0, a)) P t v)
    (hE1 : En P1) (hz1 : z1 ∈ scP y) (hr1 : z1.2.2 = hdR P1) (hb1 : rtk z1.1 = otk z1.1) (hk1 : acK z1.1 = true) (hI1 : Inp V y P1 z1 P0 t0)
    (hp : ¬ fl → ABp K V y En cv' vr none (AwN y Aw (fun _ _ => False) WV WC cv' vr (fun _ => False)) (WVN WV vr) (WCN WC (fun _ _ _ _ => False) cv') R H P1 z1) :
    AB K V y q0 ar En cv' vr none (AwN y Aw (fun _ _ => False) WV WC cv' vr (fun _ => False)) (WVN WV vr) (WCN WC (fun _ _ _ _ => False) cv') R H fl := by
  have hcm : ∀ P t v, cv P t = some v → cv' P t = some v := fun P t v q => (hcv P t v).mpr (.inl q)
  have hqa := A.2.2.2.2.1 P1 z1 hE1 hz1 hr1
  have hs := ((tl_P B.1) z1 hz1).2.1
  refine AB_mov (VN := fun _ _ _ => False) B A hcv (fun F b v => ⟨.inl, fun q => q.elim id False.elim⟩) hE1 hz1 hr1 hb1 hI1 (fun _ _ _ q => q.elim) (fun _ _ _ _ q => q.elim) (fun P t v q => by cases q) A.2.1.2.2.1 (fun _ _ _ q => .inl q) (fun _ q => q) (fun En2 Va2 De2 C c1 c2 => ⟨fun P t v q => (by cases q), fun _ q => .inl q⟩) ?_ hp
  refine NQ_act hs hk1 hqa hcm (fun _ q => q) (fun _ q => q) (fun v q => ?_) (fun _ q => .inl q) (fun _ q => .inl q) (fun _ _ _ _ q => .inl q) (fun q => ja_old hs hk1 hqa hcm (aw_old (fun _ q => q.elim) hE1 (fun _ _ q => q) q))
  rcases q with q | q
  · exact .inl ((hcv _ _ _).mp q)
  · cases q
/-- nobody takes it -/
theorem M_end (B : SBd K V y e0 f W ν) (A : AB K V y q0 ar En cv vr (some (P0, t0, a)) Aw WV WC R H fl)
    (hcv : ∀ P t v, cv' P t = some v ↔ Vm cv (some (P0, t0, a)) P t v) (hI : ∀ P z, En P → z ∈ scP y → z.2.2 = hdR P → ¬ Inp V y P z P0 t0) :
    AB K V y q0 ar En cv' vr none (AwN y Aw (fun _ _ => False) WV WC cv' vr (fun _ => False)) (WVN WV vr) (WCN WC (fun _ _ _ _ => False) cv') R H fl := by
  have e : (fun P => En P ∨ False) = En := funext (fun P => propext ⟨fun q => q.elim id False.elim, .inl⟩)
  have := AB_gen (NE := fun _ => False) (Sl := fun _ _ => False) (VN := fun _ _ _ => False) (NW := fun _ _ _ _ => False) (fl' := fl) (mv' := none) B A (fun P t => False) hcv (vr' := vr) (fun F b v => ⟨.inl, fun q => q.elim id False.elim⟩) (fun P t q => q.elim) (fun _ q => q.elim) (fun F b v q => q.elim) (fun _ _ q => q.elim) (fun C t' P t q => q.elim) (fun P t v q => by cases q) A.2.1.2.2.1 (fun P t i q => .inl q) (fun P t i q => .inl q) (fun _ q => q) (fun P z P' t' v q q1 q2 q3 q4 => by cases q; exact hI P z q1 q2 q3 q4) (fun En2 Va2 De2 C c1 c2 c3 => ⟨fun _ q => q.elim, fun P t v q => (by cases q), c3⟩) id (fun P z q1 q2 q3 q4 => q4.elim) (fun hn P z q1 q2 q3 q4 => q4.elim)
  rw [e] at this
  exact this
end MOV
