/-! a token that moves: to loops, operators, elements, calls -/
section IN2
variable {K : Nat → Nat} {V : Nat → Int64} {y : TR} {q0 : Nat} {ar : Nat → Int64} {En : TPth → Prop} {cv vr cv' vr' : TPth → Nat → Option TVal} {mv mv' : Option (TPth × Nat × TVal)} {Aw : TPth → Nat → Prop} {WV WC : TPth → Nat → TPth → Nat → Prop} {R H R' : List TEv} {fl : Prop} {e0 f : Nat} {W : Nat → Int32 × Int32 × Int32} {ν : Nat → Nat} {P0 P1 : TPth} {t0 : Nat} {a : TVal} {z1 : TR × List Nat × Nat} {j r : Nat} {γ : List Nat} {x x' fs c ns g as : TR}
theorem NP7 {Aw' Wv Wc Wv' Wc' : TPth → Nat → Prop} {Rd Hp Rd' : TEv → Prop} {P : TPth} (h : NP K V y En cv vr mv Aw Wv Wc Rd Hp P (.tag 7 (.tag j (.append fs (.append c (.append ns g)))), γ, r))
    (kA : Aw P j → Aw' P j) (kV : ∀ v, Vm cv mv P j v → Vm cv' mv' P j v) (kR : ∀ e, Rd e → Rd' e) (kv : ∀ F b v, vr F b = some v → vr' F b = some v)
    (c2 : ∀ i v, cv' ((4 * j, i) :: P) (rtk c) = some v → cv ((4 * j, i) :: P) (rtk c) = some v ∨ Rd' (P, j, i))
    (c3 : ∀ i v, cv' ((4 * j + 2, 0) :: (4 * j, i) :: P) (rtk g) = some v → cv ((4 * j + 2, 0) :: (4 * j, i) :: P) (rtk g) = some v ∨ Vm cv' mv' P j v)
    (c4 : ∀ b x v, b ∈ tks fs → rwX fs b = some x → cv' P (rtk x) = some v → cv P (rtk x) = some v ∨ ((nxX V ns b ≠ none → En ((4 * j, 0) :: P) → vr' ((4 * j, 0) :: P) b = some v) ∧ (nxX V ns b = none → vr' (fpt y P) b = some v)))
    (c5 : ∀ i b x v, b ∈ tks fs → nxX V ns b = some x → cv' ((4 * j + 1, 0) :: (4 * j, i) :: P) (rtk x) = some v → cv ((4 * j + 1, 0) :: (4 * j, i) :: P) (rtk x) = some v ∨ vr' ((4 * j, i + 1) :: P) b = some v) :
    NP K V y En cv' vr' mv' Aw' Wv' Wc' Rd' Hp P (.tag 7 (.tag j (.append fs (.append c (.append ns g)))), γ, r) := by
  obtain ⟨h1, h2, h3, h4, h5⟩ := h
  refine ⟨h1.imp kA id, fun i v q1 q2 => ?_, fun i v q => ?_, fun b x v q1 q2 q3 => ?_, fun i b x v q1 q2 q3 => ?_⟩
  · rcases c2 i v q2 with q2 | q2
    · rcases h2 i v q1 q2 with u | ⟨u1, u2, u3, u4⟩
      · exact .inl (kR _ u)
      · exact .inr ⟨u1, fun c => kV _ (u2 c), u3, u4⟩
    · exact .inl q2
  · rcases c3 i v q with q | q
    · exact kV _ (h3 i v q)
    · exact q
  · rcases c4 b x v q1 q2 q3 with q3 | q3
    · obtain ⟨u1, u2⟩ := h4 b x v q1 q2 q3
      exact ⟨fun q q' => kv _ _ _ (u1 q q'), fun q => kv _ _ _ (u2 q)⟩
    · exact q3
  · rcases c5 i b x v q1 q2 q3 with q3 | q3
    · exact kv _ _ _ (h5 i b x v q1 q2 q3)
    · exact q3
theorem mdn (hcv : ∀ P t v, cv' P t = some v ↔ Vm cv (some (P0, t0, a)) P t v) {P : TPth} {t : Nat} {v : TVal} (h : cv' P t = some v) : cv P t = some v ∨ (P = P0 ∧ t = t0 ∧ v = a) := by
  rcases (hcv P t v).mp h with q | q
  · exact .inl q
  · cases q
    exact .inr ⟨rfl, rfl, rfl⟩
/-- a first value that stays -/
theorem M_lf0 (B : SBd K V y e0 f W ν) (A : AB K V y q0 ar En cv vr (some (P0, t0, a)) Aw WV WC R H fl) (hcv : ∀ P t v, cv' P t = some v ↔ Vm cv (some (P0, t0, a)) P t v)
    (hz : (.tag 7 (.tag j (.append fs (.append c (.append ns g)))), γ, r) ∈ scP y) (hr : r = hdR P0) {b : Nat} (hb : b ∈ tks fs) (hx : rwX fs b = some x) (hnx : nxX V ns b = none) (ht : t0 = rtk x) (hvr : ∀ F b' v, vr' F b' = some v ↔ vr F b' = some v ∨ (F = fpt y P0 ∧ b' = b ∧ v = a)) :
    AB K V y q0 ar En cv' vr' none (AwN y Aw (fun _ _ => False) WV WC cv' vr' (fun _ => False)) (WVN WV vr') (WCN WC (fun _ _ _ _ => False) cv') R H fl := by
  have hn : cv P0 t0 = none := A.2.1.2.1 P0 t0 a rfl
  obtain ⟨ca, cn⟩ := mvc hn hcv
  have hE0 : En P0 := (A.2.1.1 P0 t0 a (.inr rfl)).1
  have hqa := A.2.2.2.2.1 P0 _ hE0 hz hr
  obtain ⟨⟨p', e', wz⟩, hs, htr⟩ := (tl_P B.1) _ hz
  obtain ⟨-, b1, d1, f1, n1, n2, w1, w2, w3, w4⟩ := wz
  have hLL := (B.2.2.2.2.1 _ _ _ _ _ _ _ hz).1
  subst ht
  refine M_var (z1 := (.tag 7 (.tag j (.append fs (.append c (.append ns g)))), γ, r)) B A hcv hvr hE0 hz hr rfl rfl (.inl ⟨b, x, hb, hx, rfl, rfl⟩) ⟨hb, .inr ⟨hnx, rfl⟩⟩ ?_ ⟨fun q => absurd hnx q, fun _ => ⟨x, hx, ca⟩, fun i q => absurd hnx q⟩ (fun hf hvm hv0 => ?_)
  · cases hc : vr (fpt y P0) b with
    | none => rfl
    | some v =>
      obtain ⟨x1, u1, u2⟩ := (hqa.2.2.2.2.2.1 b v hb).2 hnx hc
      rw [hx] at u1
      cases u1
      rw [hn] at u2
      cases u2
  · have hpa := A.2.2.2.2.2 hf P0 _ hE0 hz hr
    refine NP7 hpa (fun q => .inl ⟨q, id⟩) (fun v q => .inl ((hcv _ _ _).mpr q)) (fun _ q => q) hvm (fun i v q => ?_) (fun i v q => ?_) (fun b' x1 v q1 q2 q3 => ?_) (fun i b' x1 v q1 q2 q3 => ?_)
    · rcases mdn hcv q with q | q
      · exact .inl q
      · exact absurd q.1 cs_ne
    · rcases mdn hcv q with q | q
      · exact .inl q
      · exact absurd q.1 cs_ne2
    · rcases mdn hcv q3 with q | ⟨-, q, e3⟩
      · exact .inl q
      · have := rw_inj q fs hLL _ _ (.inr w1) q2 hx
        subst this
        rw [e3]
        exact .inr ⟨fun h => absurd hnx h, fun _ => hv0⟩
    · rcases mdn hcv q3 with q | q
      · exact .inl q
      · exact absurd q.1 cs_ne2
/-- a first value of the first round, which is entered, or is not -/
theorem M_lf1 (B : SBd K V y e0 f W ν) (A : AB K V y q0 ar En cv vr (some (P0, t0, a)) Aw WV WC R H fl) (hcv : ∀ P t v, cv' P t = some v ↔ Vm cv (some (P0, t0, a)) P t v)
    (hz : (.tag 7 (.tag j (.append fs (.append c (.append ns g)))), γ, r) ∈ scP y) (hr : r = hdR P0) {b : Nat} (hb : b ∈ tks fs) (hx : rwX fs b = some x) (hnx : nxX V ns b ≠ none) (ht : t0 = rtk x) (hEn : En ((4 * j, 0) :: P0)) (hvr : ∀ F b' v, vr' F b' = some v ↔ vr F b' = some v ∨ (F = (4 * j, 0) :: P0 ∧ b' = b ∧ v = a)) :
    AB K V y q0 ar En cv' vr' none (AwN y Aw (fun _ _ => False) WV WC cv' vr' (fun _ => False)) (WVN WV vr') (WCN WC (fun _ _ _ _ => False) cv') R H fl := by
  have hn : cv P0 t0 = none := A.2.1.2.1 P0 t0 a rfl
  obtain ⟨ca, cn⟩ := mvc hn hcv
  have hE0 : En P0 := (A.2.1.1 P0 t0 a (.inr rfl)).1
  have hqa := A.2.2.2.2.1 P0 _ hE0 hz hr
  obtain ⟨⟨p', e', wz⟩, hs, htr⟩ := (tl_P B.1) _ hz
  obtain ⟨-, b1, d1, f1, n1, n2, w1, w2, w3, w4⟩ := wz
  have hLL := (B.2.2.2.2.1 _ _ _ _ _ _ _ hz).1
  subst ht
  refine M_var (z1 := (.tag 7 (.tag j (.append fs (.append c (.append ns g)))), γ, r)) B A hcv hvr hE0 hz hr rfl rfl (.inl ⟨b, x, hb, hx, rfl, rfl⟩) ⟨hb, .inl ⟨hnx, 0, rfl⟩⟩ ?_ ⟨fun _ _ => ⟨hEn, x, hx, ca⟩, fun q => absurd q hnx, fun i _ q => ?_⟩ (fun hf hvm hv0 => ?_)
  · cases hc : vr ((4 * j, 0) :: P0) b with
    | none => rfl
    | some v =>
      obtain ⟨-, x1, u1, u2⟩ := (hqa.2.2.2.2.2.1 b v hb).1 hnx hc
      rw [hx] at u1
      cases u1
      rw [hn] at u2
      cases u2
  · have q := (List.cons.inj q).1
    cases q
  · have hpa := A.2.2.2.2.2 hf P0 _ hE0 hz hr
    refine NP7 hpa (fun q => .inl ⟨q, id⟩) (fun v q => .inl ((hcv _ _ _).mpr q)) (fun _ q => q) hvm (fun i v q => ?_) (fun i v q => ?_) (fun b' x1 v q1 q2 q3 => ?_) (fun i b' x1 v q1 q2 q3 => ?_)
    · rcases mdn hcv q with q | q
      · exact .inl q
      · exact absurd q.1 cs_ne
    · rcases mdn hcv q with q | q
      · exact .inl q
      · exact absurd q.1 cs_ne2
    · rcases mdn hcv q3 with q | ⟨-, q, e3⟩
      · exact .inl q
      · have := rw_inj q fs hLL _ _ (.inr w1) q2 hx
        subst this
        rw [e3]
        exact .inr ⟨fun _ _ => hv0, fun h => absurd h hnx⟩
    · rcases mdn hcv q3 with q | q
      · exact .inl q
      · exact absurd q.1 cs_ne2
theorem M_lf2 (B : SBd K V y e0 f W ν) (A : AB K V y q0 ar En cv vr (some (P0, t0, a)) Aw WV WC R H fl) (hcv : ∀ P t v, cv' P t = some v ↔ Vm cv (some (P0, t0, a)) P t v)
    (hz : (.tag 7 (.tag j (.append fs (.append c (.append ns g)))), γ, r) ∈ scP y) (hr : r = hdR P0) {b : Nat} (hb : b ∈ tks fs) (hx : rwX fs b = some x) (hnx : nxX V ns b ≠ none) (ht : t0 = rtk x) (hEn : ¬ En ((4 * j, 0) :: P0)) :
    AB K V y q0 ar En cv' vr none (AwN y Aw (fun _ _ => False) WV WC cv' vr (fun _ => False)) (WVN WV vr) (WCN WC (fun _ _ _ _ => False) cv') R H fl := by
  have hE0 : En P0 := (A.2.1.1 P0 t0 a (.inr rfl)).1
  obtain ⟨⟨p', e', wz⟩, hs, htr⟩ := (tl_P B.1) _ hz
  obtain ⟨-, b1, d1, f1, n1, n2, w1, w2, w3, w4⟩ := wz
  have hLL := (B.2.2.2.2.1 _ _ _ _ _ _ _ hz).1
  subst ht
  refine M_nil (z1 := (.tag 7 (.tag j (.append fs (.append c (.append ns g)))), γ, r)) B A hcv hE0 hz hr rfl rfl (.inl ⟨b, x, hb, hx, rfl, rfl⟩) (fun hf => ?_)
  have hpa := A.2.2.2.2.2 hf P0 _ hE0 hz hr
  refine NP7 hpa (fun q => .inl ⟨q, id⟩) (fun v q => .inl ((hcv _ _ _).mpr q)) (fun _ q => q) (fun _ _ _ q => q) (fun i v q => ?_) (fun i v q => ?_) (fun b' x1 v q1 q2 q3 => ?_) (fun i b' x1 v q1 q2 q3 => ?_)
  · rcases mdn hcv q with q | q
    · exact .inl q
    · exact absurd q.1 cs_ne
  · rcases mdn hcv q with q | q
    · exact .inl q
    · exact absurd q.1 cs_ne2
  · rcases mdn hcv q3 with q | ⟨-, q, e3⟩
    · exact .inl q
    · have := rw_inj q fs hLL _ _ (.inr w1) q2 hx
      subst this
      exact .inr ⟨fun _ h => absurd h hEn, fun h => absurd h hnx⟩
  · rcases mdn hcv q3 with q | q
    · exact .inl q
    · exact absurd q.1 cs_ne2
/-- the condition of a round -/
theorem M_lc (B : SBd K V y e0 f W ν) {i : Nat} (hP : P0 = (4 * j, i) :: P1) (A : AB K V y q0 ar En cv vr (some (P0, t0, a)) Aw WV WC R H fl) (hcv : ∀ P t v, cv' P t = some v ↔ Vm cv (some (P0, t0, a)) P t v)
    (hz : (.tag 7 (.tag j (.append fs (.append c (.append ns g)))), γ, r) ∈ scP y) (ht : t0 = rtk c) (hR : R' = R ++ [(P1, j, i)] ∨ (fl ∧ R' = R)) :
    AB K V y q0 ar En cv' vr none (AwN y Aw (fun _ _ => False) WV WC cv' vr (fun _ => False)) (WVN WV vr) (WCN WC (fun _ _ _ _ => False) cv') R' H fl := by
  have hn : cv P0 t0 = none := A.2.1.2.1 P0 t0 a rfl
  obtain ⟨ca, cn⟩ := mvc hn hcv
  have hE0 : En P0 := (A.2.1.1 P0 t0 a (.inr rfl)).1
  rw [hP] at hE0
  obtain ⟨hE1, hpr⟩ := par_En B.1 A.1 hz (k := 0) (by omega) hE0
  have hr : r = hdR P1 := by
    rcases hpr with q | q
    · exact q.2.symm
    · exact absurd q.1 (by show ¬ (4 * j + 0 = 4 * j + 1 ∨ 4 * j + 0 = 4 * j + 2); omega)
  have hqa := A.2.2.2.2.1 P1 _ hE1 hz hr
  obtain ⟨⟨p', e', wz⟩, hs, htr⟩ := (tl_P B.1) _ hz
  obtain ⟨-, b1, d1, f1, n1, n2, w1, w2, w3, w4⟩ := wz
  have hx := htr _ (mc _ (mr _ (ml _ (hd_in w2 _ _))))
  subst hP
  subst ht
  refine M_ev (z1 := (.tag 7 (.tag j (.append fs (.append c (.append ns g)))), γ, r)) (i := i) B A hcv hE1 hz hr rfl rfl (.inr (.inl ⟨i, rfl, rfl⟩)) hR (fun q => ?_) ⟨hE0, a, ca⟩ hqa.1 (fun En2 Va2 De2 C c1 c2 => (C.2 i a (c1 _ hE0) (c2 _ _ _ ⟨_, hx, rfl, rfl, ca⟩)).1) (fun hf hR1 hR2 => ?_)
  · obtain ⟨-, v, hv⟩ := hqa.2.1 i q
    rw [hn] at hv
    cases hv
  · have hpa := A.2.2.2.2.2 hf P1 _ hE1 hz hr
    have hh : ∀ {k k' : Nat} {D D' : TPth} {u u' : Nat}, (k, u) :: D = (k', u') :: D' → k = k' := fun h => congrArg Prod.fst (List.cons.inj h).1
    refine NP7 hpa (fun q => .inl ⟨q, id⟩) (fun v q => .inl ((hcv _ _ _).mpr q)) hR1 (fun _ _ _ q => q) (fun i' v q => ?_) (fun i' v q => ?_) (fun b' x1 v q1 q2 q3 => ?_) (fun i' b' x1 v q1 q2 q3 => ?_)
    · rcases mdn hcv q with q | ⟨q, -⟩
      · exact .inl q
      · have := congrArg Prod.snd (List.cons.inj q).1
        have : i' = i := this
        subst this
        exact .inr hR2
    · rcases mdn hcv q with q | ⟨q, -⟩
      · exact .inl q
      · have := hh q
        omega
    · rcases mdn hcv q3 with q | ⟨q, -⟩
      · exact .inl q
      · exact absurd q.symm cs_ne
    · rcases mdn hcv q3 with q | ⟨q, -⟩
      · exact .inl q
      · have := hh q
        omega
/-- a value behind next -/
theorem M_ln (B : SBd K V y e0 f W ν) {i : Nat} (hP : P0 = (4 * j + 1, 0) :: (4 * j, i) :: P1) (A : AB K V y q0 ar En cv vr (some (P0, t0, a)) Aw WV WC R H fl) (hcv : ∀ P t v, cv' P t = some v ↔ Vm cv (some (P0, t0, a)) P t v)
    (hz : (.tag 7 (.tag j (.append fs (.append c (.append ns g)))), γ, r) ∈ scP y) {b : Nat} (hb : b ∈ tks fs) (hx : nxX V ns b = some x) (ht : t0 = rtk x) (hvr : ∀ F b' v, vr' F b' = some v ↔ vr F b' = some v ∨ (F = (4 * j, i + 1) :: P1 ∧ b' = b ∧ v = a)) :
    AB K V y q0 ar En cv' vr' none (AwN y Aw (fun _ _ => False) WV WC cv' vr' (fun _ => False)) (WVN WV vr') (WCN WC (fun _ _ _ _ => False) cv') R H fl := by
  have hn : cv P0 t0 = none := A.2.1.2.1 P0 t0 a rfl
  obtain ⟨ca, cn⟩ := mvc hn hcv
  have hE0 : En P0 := (A.2.1.1 P0 t0 a (.inr rfl)).1
  rw [hP] at hE0
  obtain ⟨hEr, -⟩ := par_En B.1 A.1 hz (k := 1) (by omega) hE0
  obtain ⟨hE1, hpr⟩ := par_En B.1 A.1 hz (k := 0) (by omega) hEr
  have hr : r = hdR P1 := by
    rcases hpr with q | q
    · exact q.2.symm
    · exact absurd q.1 (by show ¬ (4 * j + 0 = 4 * j + 1 ∨ 4 * j + 0 = 4 * j + 2); omega)
  have hqa := A.2.2.2.2.1 P1 _ hE1 hz hr
  obtain ⟨⟨p', e', wz⟩, hs, htr⟩ := (tl_P B.1) _ hz
  obtain ⟨-, b1, d1, f1, n1, n2, w1, w2, w3, w4⟩ := wz
  have hLL := B.2.2.2.2.1 _ _ _ _ _ _ _ hz
  have hgd : tyV K V c = 2 ∧ RwT K V fs ∧ DsF V fs [] ∧ RwT K V ns ∧ NsF V (tks fs) ns [] := B.2.2.2.2.2.1 _ hz
  have hnx : nxX V ns b ≠ none := by rw [hx]; exact Option.some_ne_none _
  have hh : ∀ {k k' : Nat} {D D' : TPth} {u u' : Nat}, (k, u) :: D = (k', u') :: D' → k = k' := fun h => congrArg Prod.fst (List.cons.inj h).1
  subst hP
  subst ht
  refine M_var (z1 := (.tag 7 (.tag j (.append fs (.append c (.append ns g)))), γ, r)) B A hcv hvr hE1 hz hr rfl rfl (.inr (.inr (.inl ⟨i, b, x, hb, hx, rfl, rfl⟩))) ⟨hb, .inl ⟨hnx, i + 1, rfl⟩⟩ ?_ ⟨fun _ q => ?_, fun q => absurd q hnx, fun i' _ q => ?_⟩ (fun hf hvm hv0 => ?_)
  · cases hc : vr ((4 * j, i + 1) :: P1) b with
    | none => rfl
    | some v =>
      obtain ⟨x1, u1, u2⟩ := hqa.2.2.2.2.2.2 i b v hb hnx hc
      rw [hx] at u1
      cases u1
      rw [hn] at u2
      cases u2
  · have := congrArg Prod.snd (List.cons.inj q).1
    cases this
  · have := congrArg Prod.snd (List.cons.inj q).1
    have : i + 1 = i' + 1 := this
    have : i = i' := by omega
    subst this
    exact ⟨x, hx, ca⟩
  · have hpa := A.2.2.2.2.2 hf P1 _ hE1 hz hr
    refine NP7 hpa (fun q => .inl ⟨q, id⟩) (fun v q => .inl ((hcv _ _ _).mpr q)) (fun _ q => q) hvm (fun i' v q => ?_) (fun i' v q => ?_) (fun b' x1 v q1 q2 q3 => ?_) (fun i' b' x1 v q1 q2 q3 => ?_)
    · rcases mdn hcv q with q | ⟨q, -⟩
      · exact .inl q
      · have := hh q
        omega
    · rcases mdn hcv q with q | ⟨q, -⟩
      · exact .inl q
      · have := hh q
        omega
    · rcases mdn hcv q3 with q | ⟨q, -⟩
      · exact .inl q
      · exact absurd q.symm cs_ne2
    · rcases mdn hcv q3 with q | ⟨q, qt, e3⟩
      · exact .inl q
      · have e1 := congrArg Prod.snd (List.cons.inj (List.cons.inj q).2).1
        have e1 : i' = i := e1
        subst e1
        have := ds_in hLL.1 hgd.2.2.1 q1 hb (nx_inj (V := V) qt ns hLL.2 _ _ (.inr w3) q2 hx)
        subst this
        rw [e3]
        exact .inr hv0
/-- rounds lie before rounds -/
theorem rd_dn {AW : TPth → Nat → Prop} {Ev Hp : TEv → Prop} (h : NQ V y En cv vr mv AW Ev Hp P1 (.tag 7 (.tag j (.append fs (.append c (.append ns g)))), γ, r)) {i : Nat} : ∀ k, En ((4 * j, i + 1 + k) :: P1) → ∃ v, cv ((4 * j, i) :: P1) (rtk c) = some v ∧ v.1 ≠ 4 ∧ v.2.1 ≠ 0 := by
  intro k
  induction k with
  | zero =>
    intro q
    obtain ⟨-, -, v, u1, u2⟩ := h.2.2.1 i (.inl q)
    exact ⟨v, u1, u2⟩
  | succ k ih =>
    intro q
    exact ih (h.2.2.1 (i + 1 + k) (.inl q)).2.1
theorem M_lg (B : SBd K V y e0 f W ν) {i : Nat} (hP : P0 = (4 * j + 2, 0) :: (4 * j, i) :: P1) (A : AB K V y q0 ar En cv vr (some (P0, t0, a)) Aw WV WC R H fl) (hcv : ∀ P t v, cv' P t = some v ↔ Vm cv (some (P0, t0, a)) P t v)
    (hz : (.tag 7 (.tag j (.append fs (.append c (.append ns g)))), γ, r) ∈ scP y) (ht : t0 = rtk g) :
    AB K V y q0 ar En cv' vr (some (P1, j, a)) (AwN y Aw (fun _ _ => False) WV WC cv' vr (fun _ => False)) (WVN WV vr) (WCN WC (fun _ _ _ _ => False) cv') R H fl := by
  have hn : cv P0 t0 = none := A.2.1.2.1 P0 t0 a rfl
  obtain ⟨ca, cn⟩ := mvc hn hcv
  have hE0 : En P0 := (A.2.1.1 P0 t0 a (.inr rfl)).1
  rw [hP] at hE0
  obtain ⟨hEr, -⟩ := par_En B.1 A.1 hz (k := 2) (by omega) hE0
  obtain ⟨hE1, hpr⟩ := par_En B.1 A.1 hz (k := 0) (by omega) hEr
  have hr : r = hdR P1 := by
    rcases hpr with q | q
    · exact q.2.symm
    · exact absurd q.1 (by show ¬ (4 * j + 0 = 4 * j + 1 ∨ 4 * j + 0 = 4 * j + 2); omega)
  have hqa := A.2.2.2.2.1 P1 _ hE1 hz hr
  obtain ⟨⟨p', e', wz⟩, hs, htr⟩ := (tl_P B.1) _ hz
  obtain ⟨-, b1, d1, f1, n1, n2, w1, w2, w3, w4⟩ := wz
  have hxc := htr _ (mc _ (mr _ (ml _ (hd_in w2 _ _))))
  have hxg := htr _ (mc _ (mr _ (mr _ (mr _ (hd_in w4 _ _)))))
  have hcm : ∀ P t v, cv P t = some v → cv' P t = some v := fun P t v q => (hcv P t v).mpr (.inl q)
  have hh : ∀ {k k' : Nat} {D D' : TPth} {u u' : Nat}, (k, u) :: D = (k', u') :: D' → k = k' := fun h => congrArg Prod.fst (List.cons.inj h).1
  obtain ⟨k1, k0, v1, k2, k3, k4⟩ := hqa.2.2.2.1 i hE0
  have hty := AB_tv B A hxg (.inr (by rw [ht]))
  subst hP
  subst ht
  refine M_pass (z1 := (.tag 7 (.tag j (.append fs (.append c (.append ns g)))), γ, r)) B A hcv hE1 hz hr rfl rfl (.inr (.inr (.inr ⟨i, rfl, rfl⟩))) (fun v q => ?_) hty ⟨i, v1, k0, k1, hcm _ _ _ k2, .inr ca⟩ (fun En2 Va2 De2 C c1 c2 => ((C.2 i v1 (c1 _ k0) (c2 _ _ _ ⟨_, hxc, rfl, rfl, hcm _ _ _ k2⟩)).2.2.2 k3 k4).2 a (c2 _ _ _ ⟨_, hxg, rfl, rfl, ca⟩)) (fun hf => ?_)
  · obtain ⟨i', v0, u1, u2, u3, u4⟩ := hqa.2.2.2.2.1 v q
    rcases Nat.lt_trichotomy i' i with cc | cc | cc
    · obtain ⟨v2, m1, m2, m3⟩ := rd_dn hqa (i := i') (i - i' - 1) (by rw [show i' + 1 + (i - i' - 1) = i by omega]; exact k0)
      rw [u3] at m1
      cases m1
      rcases u4 with u4 | u4
      · exact m2 u4.1
      · obtain ⟨-, -, v3, s1, s2, s3⟩ := hqa.2.2.2.1 i' (A.2.1.1 _ _ _ (.inl u4)).1
        rw [u3] at s1
        cases s1
        exact m3 s3
    · subst cc
      rw [k2] at u3
      cases u3
      rcases u4 with u4 | u4
      · exact k3 u4.1
      · rw [hn] at u4
        cases u4
    · obtain ⟨v2, m1, m2, m3⟩ := rd_dn hqa (i := i) (i' - i - 1) (by rw [show i + 1 + (i' - i - 1) = i' by omega]; exact u1)
      rw [k2] at m1
      cases m1
      exact m3 k4
  · have hpa := A.2.2.2.2.2 hf P1 _ hE1 hz hr
    refine NP7 hpa (fun q => .inl ⟨q, id⟩) (fun v q => .inl ((hcv _ _ _).mpr q)) (fun _ q => q) (fun _ _ _ q => q) (fun i' v q => ?_) (fun i' v q => ?_) (fun b' x1 v q1 q2 q3 => ?_) (fun i' b' x1 v q1 q2 q3 => ?_)
    · rcases mdn hcv q with q | ⟨q, -⟩
      · exact .inl q
      · have := hh q
        omega
    · rcases mdn hcv q with q | ⟨-, -, e3⟩
      · exact .inl q
      · rw [e3]
        exact .inr (.inr rfl)
    · rcases mdn hcv q3 with q | ⟨q, -⟩
      · exact .inl q
      · exact absurd q.symm cs_ne2
    · rcases mdn hcv q3 with q | ⟨q, -⟩
      · exact .inl q
      · have := hh q
        omega
/-- an operand -/
theorem M_bin (B : SBd K V y e0 f W ν) (A : AB K V y q0 ar En cv vr (some (P0, t0, a)) Aw WV WC R H fl) (hcv : ∀ P t v, cv' P t = some v ↔ Vm cv (some (P0, t0, a)) P t v)
    (hz : (.tag 9 (.tag j (.append x x')), γ, r) ∈ scP y) (hr : r = hdR P0) (ht : t0 = rtk x ∨ t0 = rtk x') {v v' : TVal} (h1 : cv' P0 (rtk x) = some v) (h2 : cv' P0 (rtk x') = some v') (hR : R' = R ++ [(P0, j, 0)] ∨ (fl ∧ R' = R)) :
    AB K V y q0 ar En cv' vr none (AwN y Aw (fun _ _ => False) WV WC cv' vr (fun _ => False)) (WVN WV vr) (WCN WC (fun _ _ _ _ => False) cv') R' H fl := by
  have hn : cv P0 t0 = none := A.2.1.2.1 P0 t0 a rfl
  have hE0 : En P0 := (A.2.1.1 P0 t0 a (.inr rfl)).1
  have hqa := A.2.2.2.2.1 P0 _ hE0 hz hr
  obtain ⟨⟨p', e', wz⟩, hs, htr⟩ := (tl_P B.1) _ hz
  obtain ⟨-, w1, w2⟩ := wz
  have hx := htr _ (mc _ (ml _ (hd_in w1 _ _)))
  have hx' := htr _ (mc _ (mr _ (hd_in w2 _ _)))
  have hno : ∀ {u u' : TVal}, cv P0 (rtk x) = some u → cv P0 (rtk x') = some u' → False := fun q q' => by
    rcases ht with ht | ht
    · rw [← ht, hn] at q
      cases q
    · rw [← ht, hn] at q'
      cases q'
  refine M_ev (z1 := (.tag 9 (.tag j (.append x x')), γ, r)) (i := 0) B A hcv hE0 hz hr rfl rfl ⟨rfl, ht⟩ hR (fun q => ?_) (fun _ => ⟨v, v', h1, h2⟩) (fun q => absurd q hqa.1) (fun En2 Va2 De2 C c1 c2 => (C v v' (c2 _ _ _ ⟨_, hx, rfl, hr, h1⟩) (c2 _ _ _ ⟨_, hx', rfl, hr, h2⟩)).1) (fun hf hR1 hR2 => ?_)
  · obtain ⟨u, u', q1, q2⟩ := hqa.2.1 q
    exact hno q1 q2
  · exact fun u u' q q' => .inl hR2
theorem M_bin0 (B : SBd K V y e0 f W ν) (A : AB K V y q0 ar En cv vr (some (P0, t0, a)) Aw WV WC R H fl) (hcv : ∀ P t v, cv' P t = some v ↔ Vm cv (some (P0, t0, a)) P t v)
    (hz : (.tag 9 (.tag j (.append x x')), γ, r) ∈ scP y) (hr : r = hdR P0) (ht : t0 = rtk x ∨ t0 = rtk x') (h : cv' P0 (rtk x) = none ∨ cv' P0 (rtk x') = none) :
    AB K V y q0 ar En cv' vr none (AwN y Aw (fun _ _ => False) WV WC cv' vr (fun _ => False)) (WVN WV vr) (WCN WC (fun _ _ _ _ => False) cv') R H fl := by
  have hE0 : En P0 := (A.2.1.1 P0 t0 a (.inr rfl)).1
  refine M_nil (z1 := (.tag 9 (.tag j (.append x x')), γ, r)) B A hcv hE0 hz hr rfl rfl ⟨rfl, ht⟩ (fun hf => ?_)
  intro u u' q q'
  rcases h with h | h
  · rw [h] at q
    cases q
  · rw [h] at q'
    cases q'
theorem M_el0 (B : SBd K V y e0 f W ν) (A : AB K V y q0 ar En cv vr (some (P0, t0, a)) Aw WV WC R H fl) (hcv : ∀ P t v, cv' P t = some v ↔ Vm cv (some (P0, t0, a)) P t v)
    (hz : (.tag 10 (.tag j (.append x x')), γ, r) ∈ scP y) (hr : r = hdR P0) (ht : t0 = rtk x ∨ t0 = rtk x') (h : cv' P0 (rtk x) = none ∨ cv' P0 (rtk x') = none) :
    AB K V y q0 ar En cv' vr none (AwN y Aw (fun _ _ => False) WV WC cv' vr (fun _ => False)) (WVN WV vr) (WCN WC (fun _ _ _ _ => False) cv') R H fl := by
  have hE0 : En P0 := (A.2.1.1 P0 t0 a (.inr rfl)).1
  refine M_nil (z1 := (.tag 10 (.tag j (.append x x')), γ, r)) B A hcv hE0 hz hr rfl rfl ⟨rfl, ht⟩ (fun hf => ?_)
  intro u u' q q'
  rcases h with h | h
  · rw [h] at q
    cases q
  · rw [h] at q'
    cases q'
theorem M_el1 (B : SBd K V y e0 f W ν) (A : AB K V y q0 ar En cv vr (some (P0, t0, a)) Aw WV WC R H fl) (hcv : ∀ P t v, cv' P t = some v ↔ Vm cv (some (P0, t0, a)) P t v)
    (hz : (.tag 10 (.tag j (.append x x')), γ, r) ∈ scP y) (hr : r = hdR P0) (ht : t0 = rtk x ∨ t0 = rtk x') {v v' : TVal} (h1 : cv' P0 (rtk x) = some v) (h2 : cv' P0 (rtk x') = some v')
    (hc : (∃ e, erV v v' = some e) ∨ (erV v v' = none ∧ badI v'.2.1 v.2.1) ∨ (erV v v' = none ∧ ¬ badI v'.2.1 v.2.1 ∧ ∃ q q' γ' r' u, (.tag 11 (.tag v.2.2.2 (.append q q')), γ', r') ∈ scP y ∧ cv' ((4 * v.2.2.2, i64N v'.2.1) :: v.2.2.1) (rtk q') = some u)) (hR : R' = R ++ [(P0, j, 0)] ∨ (fl ∧ R' = R)) :
    AB K V y q0 ar En cv' vr none (AwN y Aw (fun _ _ => False) WV WC cv' vr (fun _ => False)) (WVN WV vr) (WCN WC (fun _ _ _ _ => False) cv') R' H fl := by
  have hn : cv P0 t0 = none := A.2.1.2.1 P0 t0 a rfl
  have hE0 : En P0 := (A.2.1.1 P0 t0 a (.inr rfl)).1
  have hqa := A.2.2.2.2.1 P0 _ hE0 hz hr
  obtain ⟨⟨p', e', wz⟩, hs, htr⟩ := (tl_P B.1) _ hz
  obtain ⟨w1, bb, w2, -⟩ := wz
  have hx := htr _ (mc _ (ml _ (hd_in w1 _ _)))
  have hx' := htr _ (mc _ (mr _ (hd_in w2 _ _)))
  have hno : ∀ {u u' : TVal}, cv P0 (rtk x) = some u → cv P0 (rtk x') = some u' → False := fun q q' => by
    rcases ht with ht | ht
    · rw [← ht, hn] at q
      cases q
    · rw [← ht, hn] at q'
      cases q'
  refine M_ev (z1 := (.tag 10 (.tag j (.append x x')), γ, r)) (i := 0) B A hcv hE0 hz hr rfl rfl ⟨rfl, ht⟩ hR (fun q => ?_) (fun _ => ⟨v, v', h1, h2⟩) (fun q => ?_) (fun En2 Va2 De2 C c1 c2 => ?_) (fun hf hR1 hR2 => ?_)
  · obtain ⟨u, u', q1, q2⟩ := hqa.2.1 q
    exact hno q1 q2
  · obtain ⟨-, u, u', q1, q2⟩ := hqa.1 q
    exact (hno q1 q2).elim
  · obtain ⟨k1, k2, k3⟩ := C v v' (c2 _ _ _ ⟨_, hx, rfl, hr, h1⟩) (c2 _ _ _ ⟨_, hx', rfl, hr, h2⟩)
    rcases hc with ⟨e, hc⟩ | ⟨hc, hc'⟩ | ⟨hc, hc', q, q', γ', r', u, hc1, hc2⟩
    · exact (k1 e hc).1
    · exact (k2 hc hc').1
    · obtain ⟨⟨p2, e2, wz⟩, -, htr2⟩ := (tl_P B.1) _ hc1
      obtain ⟨-, -, -, bb, w3, w4⟩ := wz
      exact (k3 hc hc' q q' γ' r' u hc1 (c2 _ _ _ ⟨_, htr2 _ (mc _ (mr _ (hd_in w4 _ _))), rfl, rfl, hc2⟩)).1
  · exact fun u u' q q' => .inl hR2
/-- an element waits for its cell -/
theorem M_el2 (B : SBd K V y e0 f W ν) (A : AB K V y q0 ar En cv vr (some (P0, t0, a)) Aw WV WC R H fl) (hcv : ∀ P t v, cv' P t = some v ↔ Vm cv (some (P0, t0, a)) P t v)
    (hz : (.tag 10 (.tag j (.append x x')), γ, r) ∈ scP y) (hr : r = hdR P0) (ht : t0 = rtk x ∨ t0 = rtk x') {v v' : TVal} (h1 : cv' P0 (rtk x) = some v) (h2 : cv' P0 (rtk x') = some v') {u u' : TR} {γ' : List Nat} {r' : Nat}
    (he : erV v v' = none) (hb : ¬ badI v'.2.1 v.2.1) (hu : (.tag 11 (.tag v.2.2.2 (.append u u')), γ', r') ∈ scP y) (hu2 : cv' ((4 * v.2.2.2, i64N v'.2.1) :: v.2.2.1) (rtk u') = none) :
    AB K V y q0 ar En cv' vr none (AwN y Aw (fun _ _ => False) WV WC cv' vr (fun _ => False)) (WVN WV vr) (WCN WC (fun C t' P t => C = (4 * v.2.2.2, i64N v'.2.1) :: v.2.2.1 ∧ t' = rtk u' ∧ P = P0 ∧ t = j) cv') R H fl := by
  have hn : cv P0 t0 = none := A.2.1.2.1 P0 t0 a rfl
  have hE0 : En P0 := (A.2.1.1 P0 t0 a (.inr rfl)).1
  have hqa := A.2.2.2.2.1 P0 _ hE0 hz hr
  have hs := ((tl_P B.1) _ hz).2.1
  have hcm : ∀ P t v, cv P t = some v → cv' P t = some v := fun P t v q => (hcv P t v).mpr (.inl q)
  have hno : ∀ {u u' : TVal}, cv P0 (rtk x) = some u → cv P0 (rtk x') = some u' → False := fun q q' => by
    rcases ht with ht | ht
    · rw [← ht, hn] at q
      cases q
    · rw [← ht, hn] at q'
      cases q'
  have hnA : ¬ AwW Aw WV WC P0 j := fun q => by
    obtain ⟨-, u, u', q1, q2⟩ := hqa.1 q
    exact hno q1 q2
  have hnE : ¬ ((P0, j, 0) ∈ R ∨ (P0, j, 0) ∈ H) := fun q => by
    obtain ⟨u, u', q1, q2⟩ := hqa.2.1 q
    exact hno q1 q2
  refine AB_mov (z1 := (.tag 10 (.tag j (.append x x')), γ, r)) (P1 := P0) (VN := fun _ _ _ => False) B A hcv (fun F b v => ⟨.inl, fun q => q.elim id False.elim⟩) hE0 hz hr rfl ⟨rfl, ht⟩ (fun _ _ _ q => q.elim) (fun C t' P t q => ?_) (fun P t v q => by cases q) A.2.1.2.2.1 (fun _ _ _ q => .inl q) (fun _ q => q) (fun En2 Va2 De2 C c1 c2 => ⟨fun P t v q => (by cases q), fun _ q => .inl q⟩) ?_ (fun hf => ?_)
  · obtain ⟨q1, q2, q3, q4⟩ := q
    subst q1
    subst q2
    subst q3
    subst q4
    exact ⟨rfl, rfl, hu2, hnA, x, x', γ, r, v, v', u, u', γ', r', hz, h1, h2, hu, rfl, rfl, he, hb⟩
  · refine NQ_act hs rfl hqa hcm (fun _ q => q) (fun _ q => q) (fun v q => ?_) (fun _ q => .inl q) (fun _ q => .inl q) (fun _ _ _ _ q => .inl q) (fun q => ⟨hnE, v, v', h1, h2⟩)
    rcases q with q | q
    · exact .inl ((hcv _ _ _).mp q)
    · cases q
  · intro s s' q q'
    rw [h1] at q
    rw [h2] at q'
    cases q
    cases q'
    refine .inr (.inr (.inr ⟨⟨_, _, .inr ⟨rfl, rfl, rfl, rfl⟩⟩, he, hb, fun k k' γ1 r1 q => ?_⟩))
    have := (ou_P B.1).2 _ q _ hu rfl
    cases this
    exact hu2
/-- an argument; its function is entered, or is not -/
theorem M_ag1 (B : SBd K V y e0 f W ν) (A : AB K V y q0 ar En cv vr (some (P0, t0, a)) Aw WV WC R H fl) (hcv : ∀ P t v, cv' P t = some v ↔ Vm cv (some (P0, t0, a)) P t v)
    (hz : (.tag 4 (.tag j as), γ, r) ∈ scP y) (hr : r = hdR P0) {z i p cnt : Nat} {xf : TR} (hx : agX as z = some x) (ht : t0 = rtk x) (hi : idx V ((ftP y).map Prod.fst) j = some i) (hf : (fuP y)[i]? = some (p, cnt, xf)) (hzc : z < cnt) (hEn : En ((4 * p, j) :: P0)) (hvr : ∀ F b' v, vr' F b' = some v ↔ vr F b' = some v ∨ (F = (4 * p, j) :: P0 ∧ b' = p + 2 + 2 * z ∧ v = a)) :
    AB K V y q0 ar En cv' vr' none (AwN y Aw (fun _ _ => False) WV WC cv' vr' (fun _ => False)) (WVN WV vr') (WCN WC (fun _ _ _ _ => False) cv') R H fl := by
  have hn : cv P0 t0 = none := A.2.1.2.1 P0 t0 a rfl
  obtain ⟨ca, cn⟩ := mvc hn hcv
  have hE0 : En P0 := (A.2.1.1 P0 t0 a (.inr rfl)).1
  have hqa := A.2.2.2.2.1 P0 _ hE0 hz hr
  obtain ⟨⟨p', e', wz⟩, hs, htr⟩ := (tl_P B.1) _ hz
  have hLL := B.2.2.2.2.2.2 _ _ _ _ hz
  have hwa : as = .nil ∨ ∃ b, Wt K as (p' + 2) b 101 := by
    rcases wz.2.2 with q | ⟨b, -, q, -⟩
    · exact .inl q.1
    · exact .inr ⟨b, q⟩
  subst ht
  refine M_var (z1 := (.tag 4 (.tag j as), γ, r)) B A hcv hvr hE0 hz hr rfl rfl (.inl ⟨z, x, hx, rfl, rfl⟩) ⟨i, p, cnt, xf, z, hi, hf, hzc, rfl, rfl⟩ ?_ (fun i' p1 cnt1 x1 z1 u1 u2 u3 u4 u5 => ?_) (fun hfl hvm hv0 => ?_)
  · cases hc : vr ((4 * p, j) :: P0) (p + 2 + 2 * z) with
    | none => rfl
    | some v =>
      obtain ⟨-, x1, u1, u2⟩ := (hqa.2 i p cnt xf hi hf).2.2 z v hzc hc
      rw [hx] at u1
      cases u1
      rw [hn] at u2
      cases u2
  · rw [hi] at u1
    cases u1
    rw [hf] at u2
    cases u2
    have : z = z1 := by omega
    subst this
    exact ⟨hEn, x, hx, ca⟩
  · have hpa := A.2.2.2.2.2 hfl P0 _ hE0 hz hr
    intro i' p1 cnt1 x1 u1 u2
    obtain ⟨k1, k2, k3⟩ := hpa i' p1 cnt1 x1 u1 u2
    refine ⟨?_, fun v q => ?_, fun q z' xz v q1 q2 q3 => ?_⟩
    · rcases k1 with k1 | k1
      · exact .inl (.inl ⟨k1, id⟩)
      · exact .inr k1
    · rw [cn _ _ (fun h => cs_ne h.1)] at q
      exact .inl ((hcv _ _ _).mpr (k2 v q))
    · rcases mdn hcv q3 with q4 | ⟨-, qt, e3⟩
      · exact hvm _ _ _ (k3 q z' xz v q1 q2 q4)
      · rw [hi] at u1
        cases u1
        rw [hf] at u2
        cases u2
        have : z' = z := by
          rcases hwa with hwa | ⟨bw, hwa⟩
          · exact ag_inj (K := K) qt as hLL 0 0 z' z (.inl hwa) q2 hx
          · exact ag_inj (K := K) qt as hLL _ _ z' z (.inr hwa) q2 hx
        subst this
        rw [e3]
        exact hv0
theorem M_ag0 (B : SBd K V y e0 f W ν) (A : AB K V y q0 ar En cv vr (some (P0, t0, a)) Aw WV WC R H fl) (hcv : ∀ P t v, cv' P t = some v ↔ Vm cv (some (P0, t0, a)) P t v)
    (hz : (.tag 4 (.tag j as), γ, r) ∈ scP y) (hr : r = hdR P0) {z i p cnt : Nat} {xf : TR} (hx : agX as z = some x) (ht : t0 = rtk x) (hi : idx V ((ftP y).map Prod.fst) j = some i) (hf : (fuP y)[i]? = some (p, cnt, xf)) (hEn : ¬ En ((4 * p, j) :: P0)) :
    AB K V y q0 ar En cv' vr none (AwN y Aw (fun _ _ => False) WV WC cv' vr (fun _ => False)) (WVN WV vr) (WCN WC (fun _ _ _ _ => False) cv') R H fl := by
  have hn : cv P0 t0 = none := A.2.1.2.1 P0 t0 a rfl
  obtain ⟨ca, cn⟩ := mvc hn hcv
  have hE0 : En P0 := (A.2.1.1 P0 t0 a (.inr rfl)).1
  subst ht
  refine M_nil (z1 := (.tag 4 (.tag j as), γ, r)) B A hcv hE0 hz hr rfl rfl (.inl ⟨z, x, hx, rfl, rfl⟩) (fun hfl => ?_)
  have hpa := A.2.2.2.2.2 hfl P0 _ hE0 hz hr
  intro i' p1 cnt1 x1 u1 u2
  obtain ⟨k1, k2, k3⟩ := hpa i' p1 cnt1 x1 u1 u2
  refine ⟨?_, fun v q => ?_, fun q z' xz v q1 q2 q3 => ?_⟩
  · rcases k1 with k1 | k1
    · exact .inl (.inl ⟨k1, id⟩)
    · exact .inr k1
  · rw [cn _ _ (fun h => cs_ne h.1)] at q
    exact .inl ((hcv _ _ _).mpr (k2 v q))
  · rw [hi] at u1
    cases u1
    rw [hf] at u2
    cases u2
    exact absurd q hEn
/-- a function's value goes to its caller -/
theorem M_ret (B : SBd K V y e0 f W ν) {p : Nat} (hP : P0 = (4 * p, j) :: P1) (A : AB K V y q0 ar En cv vr (some (P0, t0, a)) Aw WV WC R H fl) (hcv : ∀ P t v, cv' P t = some v ↔ Vm cv (some (P0, t0, a)) P t v) (hF : ∀ q cnt x, (q, cnt, x) ∈ fuP y → tyV K V x = tvV (V q))
    (hz : (.tag 4 (.tag j as), γ, r) ∈ scP y) (hr : r = hdR P1) (hE1 : En P1) {i cnt : Nat} {xf : TR} (ht : t0 = rtk xf) (hi : idx V ((ftP y).map Prod.fst) j = some i) (hf : (fuP y)[i]? = some (p, cnt, xf)) :
    AB K V y q0 ar En cv' vr (some (P1, j, a)) (AwN y Aw (fun _ _ => False) WV WC cv' vr (fun _ => False)) (WVN WV vr) (WCN WC (fun _ _ _ _ => False) cv') R H fl := by
  have hn : cv P0 t0 = none := A.2.1.2.1 P0 t0 a rfl
  obtain ⟨ca, cn⟩ := mvc hn hcv
  have hqa := A.2.2.2.2.1 P1 _ hE1 hz hr
  obtain ⟨⟨b1, e1, wx⟩, hsc, -⟩ := fu_sc B.1 p cnt xf (List.mem_of_getElem? hf)
  have hxf := hsc _ (hd_in wx _ _)
  have hty := AB_tv B A hxf (.inr (by rw [ht]))
  have hty : tyO (tvV (V j)) a := by
    obtain ⟨l, g1, -, -⟩ := B.2.2.2.2.2.1 _ hz
    obtain ⟨i', q', cnt', x'', v1, v2, -, v4⟩ := pm_fu B.1 j l g1
    rw [hi] at v1
    cases v1
    rw [hf] at v2
    cases v2
    have := hF p cnt xf (List.mem_of_getElem? hf)
    have hty : tyO (tyV K V xf) a := hty
    rw [this, v4] at hty
    exact hty
  subst hP
  subst ht
  have sm : ∀ {i' p1 cnt1 : Nat} {x1 : TR}, idx V ((ftP y).map Prod.fst) j = some i' → (fuP y)[i']? = some (p1, cnt1, x1) → p1 = p ∧ cnt1 = cnt ∧ x1 = xf := fun u1 u2 => by
    rw [hi] at u1
    cases u1
    rw [hf] at u2
    cases u2
    exact ⟨rfl, rfl, rfl⟩
  refine M_pass (z1 := (.tag 4 (.tag j as), γ, r)) B A hcv hE1 hz hr rfl rfl (.inr ⟨i, p, cnt, xf, hi, hf, rfl, rfl⟩) (fun v q => ?_) hty (fun i' p1 cnt1 x1 u1 u2 => ?_) (fun En2 Va2 De2 C c1 c2 => (C i p cnt xf hi hf).2.2 a (c2 _ _ _ ⟨_, hxf, rfl, rfl, ca⟩)) (fun hfl => ?_)
  · have := (hqa.2 i p cnt xf hi hf).2.1 v q
    rw [hn] at this
    cases this
  · obtain ⟨q1, q2, q3⟩ := sm u1 u2
    rw [q1, q3]
    exact ca
  · have hpa := A.2.2.2.2.2 hfl P1 _ hE1 hz hr
    intro i' p1 cnt1 x1 u1 u2
    obtain ⟨k1, k2, k3⟩ := hpa i' p1 cnt1 x1 u1 u2
    refine ⟨?_, fun v q => ?_, fun q z' xz v q1 q2 q3 => ?_⟩
    · rcases k1 with k1 | k1
      · exact .inl (.inl ⟨k1, id⟩)
      · exact .inr k1
    · rcases mdn hcv q with q | ⟨-, -, e3⟩
      · exact .inl ((hcv _ _ _).mpr (k2 v q))
      · rw [e3]
        exact .inr rfl
    · rcases mdn hcv q3 with q4 | ⟨q4, -⟩
      · exact k3 q z' xz v q1 q2 q4
      · exact absurd q4.symm cs_ne
/-- the value of a cell -/
theorem M_cel (B : SBd K V y e0 f W ν) (A : AB K V y q0 ar En cv vr (some (P0, t0, a)) Aw WV WC R H fl) (hcv : ∀ P t v, cv' P t = some v ↔ Vm cv (some (P0, t0, a)) P t v)
    (hz : (.tag 11 (.tag j (.append x x')), γ, r) ∈ scP y) (ht : t0 = rtk x') :
    AB K V y q0 ar En cv' vr none (AwN y Aw (fun _ _ => False) WV WC cv' vr (fun _ => False)) (WVN WV vr) (WCN WC (fun _ _ _ _ => False) cv') R H fl := by
  obtain ⟨⟨p', e', wz⟩, hs, htr⟩ := (tl_P B.1) _ hz
  obtain ⟨hj, -, -, bb, w1, w2⟩ := wz
  have g1 := Wt_rt w1
  have g2 := Wt_rt w2
  obtain ⟨p1, p2, p3⟩ := pr_PW B.1
  have hc : Chd (.tag 11 (.tag j (.append x x')), γ, r) 8 x' (4 * j) := .inr ⟨rfl, rfl, rfl⟩
  refine M_end B A hcv (fun P z q1 q2 q3 q4 => ?_)
  rcases Inp_own B q2 q3 q4 with ⟨k, x1, r1, c1, c2, -⟩ | ⟨q, cnt, x1, c1, c2, -⟩
  · have e1 := p3 z _ k 8 x1 x' r1 (4 * j) q2 hz c1 hc (c2.trans ht)
    have := (ou_P B.1).2 z q2 _ hz e1
    subst this
    have q5 : t0 = rtk x := q4.2
    omega
  · exact (p2 _ 8 x' (4 * j) hz hc).2 ⟨q, cnt, x1, c1, c2.trans ht⟩
/-- the result -/
theorem M_res (B : SBd K V y e0 f W ν) (A : AB K V y q0 ar En cv vr (some (P0, t0, a)) Aw WV WC R H fl) (hcv : ∀ P t v, cv' P t = some v ↔ Vm cv (some (P0, t0, a)) P t v)
    {q cnt k : Nat} {xf : TR} (hf : (q, cnt, xf) ∈ fuP y) (hP : P0 = [(4 * q, k)]) (ht : t0 = rtk xf) :
    AB K V y q0 ar En cv' vr none (AwN y Aw (fun _ _ => False) WV WC cv' vr (fun _ => False)) (WVN WV vr) (WCN WC (fun _ _ _ _ => False) cv') R H fl := by
  obtain ⟨p1, p2, p3⟩ := pr_PW B.1
  refine M_end B A hcv (fun P z q1 q2 q3 q4 => ?_)
  rcases Inp_own B q2 q3 q4 with ⟨k, x1, r1, c1, c2, -⟩ | ⟨q', cnt', x1, c1, c2, c3⟩
  · exact (p2 z k x1 r1 q2 c1).2 ⟨q, cnt, xf, hf, (c2.trans ht).symm⟩
  · rw [hP, own_call B.1 hf k []] at c3
    have : [] = P := congrArg Prod.fst c3
    rw [← this] at q1
    exact (A.1.2.1 _ q1).1
end IN2
