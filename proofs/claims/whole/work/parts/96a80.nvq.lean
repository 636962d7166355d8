/-! the class's variables have what their places have, 2 -/
section NVQ
variable {K : Nat → Nat} {V : Nat → Int64} {y : TR} {ar : Nat → Int64} {En : TPth → Prop} {cv vr : TPth → Nat → Option TVal} {mv : Option (TPth × Nat × TVal)} {Aw Wv Wc : TPth → Nat → Prop} {Rd Hp : TEv → Prop} {e0 : Nat} {W : Nat → Int32 × Int32 × Int32} {ν : Nat → Nat}
theorem En_up (hT : ∀ c Q, En (c :: Q) → Q ≠ [] → En Q) {r : Nat} : ∀ P, En P → upP r P ≠ [] → En (upP r P) := by
  intro P
  induction P with
  | nil => intro _ h; exact absurd rfl h
  | cons c Q ih =>
    intro h hu
    by_cases h1 : c.1 = r
    · rw [show upP r (c :: Q) = c :: Q from if_pos h1]
      exact h
    · rw [show upP r (c :: Q) = upP r Q from if_neg h1] at hu ⊢
      refine ih (hT c Q h (fun q => ?_)) hu
      rw [q] at hu
      exact absurd rfl hu
theorem LnP_0 {j : Nat} {fs ns : TR} {b : Nat} {Q : TPth} (h : nxX V ns b = none) : ∀ i, LnP V j fs ns b Q i = (rwX fs b).map (fun x => (Q, otk x)) := by
  intro i
  induction i with
  | zero => rfl
  | succ i ih =>
    show (match nxX V ns b with | some x => some ((4 * j + 1, 0) :: (4 * j, i) :: Q, otk x) | none => LnP V j fs ns b Q i) = _
    rw [h]
    exact ih
theorem NP_vr {f : Nat} (w : PW K y 0 e0) (hf : f + tln y < 2 ^ 31) (hW : FA (WPs W ν) y f) (hν : ∀ z, z ∈ scP y → ν (otk z.1) < 2 ^ 31 ∧ ∀ z', z' ∈ scP y → ν (otk z.1) = ν (otk z'.1) → otk z.1 = otk z'.1) (hL : ∀ j fs c ns g γ r, (.tag 7 (.tag j (.append fs (.append c (.append ns g)))), γ, r) ∈ scP y → LL fs ∧ LL ns) (hG : ∀ z, z ∈ scP y → GdN K V (ftP y) z) (hAs : ∀ j as γ r, (.tag 4 (.tag j as), γ, r) ∈ scP y → LL as)
    (hPO : ∀ P, En P → POk V y P) (hT : ∀ c Q, En (c :: Q) → Q ≠ [] → En Q) (hcv : ∀ P t a, cv P t = some a → En P) (hroot : ∀ p cnt x z, (p, cnt, x) ∈ fuP y → z < cnt → En [(4 * p, 0)] → vr [(4 * p, 0)] (p + 2 + 2 * z) = some (mkN (ar z)))
    (hN : ∀ P z, En P → z ∈ scP y → z.2.2 = hdR P → NP K V y En cv vr mv Aw Wv Wc Rd Hp P z) :
    ∀ P z b o a F, En P → z ∈ scP y → z.2.2 = hdR P → b ∈ z.2.1 → VrP V y ar P b o → AtP (VaC y cv) o a → VF V y P b F → vr F b = some a := by
  intro P zz b o a F hE hzz hzr hb h hat h'
  have hn := wn_P w f hW
  have hp := wp_P w f hW
  have hou := ou_P w
  have hPk := hPO P hE
  have hVS : VrS y P b := by
    cases hP : P with
    | nil => rw [hP] at hPk; exact absurd hPk id
    | cons c Q =>
      rw [hP] at hzr hPk
      have hzr : zz.2.2 = c.1 := hzr
      have := vr_P (V := V) w hzz c.2 Q (by rw [hzr]; exact hPk) b hb
      rw [hzr] at this
      exact this
  have k1 : ∀ {p cnt : Nat} {x : TR} {z : Nat}, (p, cnt, x) ∈ fuP y → z < cnt → b = p + 2 + 2 * z → (W b).1 = 1 := fun {p cnt x z} q1 q2 q3 => by
    obtain ⟨c, -, -, -, c4⟩ := hp p cnt x q1
    rw [q3, c4 z q2]
  have k2 : ∀ {j : Nat} {x x' : TR} {γ : List Nat} {r : Nat}, (.tag 5 (.tag j (.append x x')), γ, r) ∈ scP y → b = j + 1 → (W b).1 = 2 := fun {j x x' γ r} q1 q2 => by
    have : W (j + 1) = (2, nI (ν j), 0) := hn _ q1
    rw [q2, this]
  have k3 : ∀ {j : Nat} {fs c ns g : TR} {γ : List Nat} {r : Nat}, (.tag 7 (.tag j (.append fs (.append c (.append ns g)))), γ, r) ∈ scP y → b ∈ tks fs → (W b).1 = 3 ∧ (W b).2.1 = nI (ν j) := fun {j fs c ns g γ r} q1 q2 => by
    have : WbL W (nI (ν j)) fs 0 := hn _ q1
    obtain ⟨k, hk⟩ := WbL_at fs (hL _ _ _ _ _ _ _ q1).1 0 this b q2
    rw [hk]
    exact ⟨rfl, rfl⟩
  have k4 : ∀ {j : Nat} {x x' : TR} {γ : List Nat} {r : Nat}, (.tag 11 (.tag j (.append x x')), γ, r) ∈ scP y → b = j + 3 → (W b).1 = 4 := fun {j x x' γ r} q1 q2 => by
    have : W (j + 1) = (5, nI (ν j), 0) ∧ W (j + 3) = (4, nI (ν j), 0) := hn _ q1
    rw [q2, this.2]
  have k5 : ∀ {j : Nat} {x x' : TR} {γ : List Nat} {r : Nat}, (.tag 11 (.tag j (.append x x')), γ, r) ∈ scP y → b = j + 1 → (W b).1 = 5 := fun {j x x' γ r} q1 q2 => by
    have : W (j + 1) = (5, nI (ν j), 0) ∧ W (j + 3) = (4, nI (ν j), 0) := hn _ q1
    rw [q2, this.1]
  have no : ∀ {i i' : Int32} {Q : Prop}, (W b).1 = i → (W b).1 = i' → i ≠ i' → Q := fun h1 h2 h3 => absurd (h1.symm.trans h2) h3
  have k7 : ∀ {j j' : Nat} {fs c ns g fs' c' ns' g' : TR} {γ γ' : List Nat} {r r' : Nat}, (.tag 7 (.tag j (.append fs (.append c (.append ns g)))), γ, r) ∈ scP y → b ∈ tks fs → (.tag 7 (.tag j' (.append fs' (.append c' (.append ns' g')))), γ', r') ∈ scP y → b ∈ tks fs' → j = j' := fun {j j' fs c ns g fs' c' ns' g' γ γ' r r'} q1 q2 q3 q4 => by
    have e1 : nI (ν j) = nI (ν j') := (k3 q1 q2).2.symm.trans (k3 q3 q4).2
    obtain ⟨n1, n2⟩ := hν _ q1
    obtain ⟨n3, -⟩ := hν _ q3
    exact n2 _ q3 ((nI_eq n1 n3).mp e1)
  rcases h with ⟨p, cnt, x, z, q1, q2, q3, q4⟩ | ⟨j, x, x', γ, r, q1, q2, q3⟩ | ⟨j, fs, c, ns, g, γ, r, i, Q, pl, q1, q2, q3, q4, q5⟩ | ⟨j, x, x', γ, r, i, Q, q1, q2, q3, q4⟩ | ⟨j, x, x', γ, r, q1, q2, q3⟩
  · rcases h' with ⟨p', cnt', x', z', r1, r2, r3, r4⟩ | ⟨j', x1, x2, γ', r', r1, r2, r3⟩ | ⟨j', fs', c', ns', g', γ', r', r1, r2, r3⟩ | ⟨j', x1, x2, γ', r', r1, r2, r3⟩
    · obtain ⟨c, c1, c2, c3, c4⟩ := hp p cnt x q1
      obtain ⟨c', d1, d2, d3, d4⟩ := hp p' cnt' x' r1
      have e1 : nI c = nI c' := by
        have a1 := c4 z q2
        have a2 := d4 z' r2
        rw [← q3] at a1
        rw [← r3] at a2
        exact congrArg (fun t => t.2.1) (a1.symm.trans a2)
      have e2 : c = c' := (nI_eq (by omega) (by omega)).mp e1
      rw [← e2, c3] at d3
      have hpp : p = p' := congrArg (fun u => u.1) (Option.some.inj d3)
      rw [← hpp] at r4
      rcases q4 with ⟨u1, u2⟩ | ⟨j, Q, as, γ, r, xz, u1, u2, u3, u4, u5⟩
      · rw [u2] at hat
        have hat : a = mkN (ar z) := hat
        have hEu := En_up hT P hE (r := 4 * p) (by rw [u1]; exact List.cons_ne_nil _ _)
        rw [u1] at hEu r4
        rw [r4, hat, q3]
        exact hroot p cnt x z q1 q2 hEu
      · have hEu := En_up hT P hE (r := 4 * p) (by rw [u1]; exact List.cons_ne_nil _ _)
        rw [u1] at hEu r4
        have hEQ := hT _ _ hEu u2
        have hPu := hPO _ hEu
        cases Q with
        | nil => exact absurd rfl u2
        | cons c' Q =>
          rcases hPu.1 with ⟨as', γ', ic, qc, cntc, xc, e1, e2, e3, e4⟩ | ⟨zz, e1, e2⟩
          · have e4 : 4 * p = 4 * qc := e4
            have hpq : p = qc := by omega
            subst hpq
            have hcx := fu_uq w p _ _ q1 (List.mem_of_getElem? e3)
            have hcc : cnt = cntc := congrArg Prod.fst hcx
            subst hcc
            have hsame := hou.2 _ u3 _ e1 rfl
            have hrr : r = c'.1 := congrArg (fun u => u.2.2) hsame
            obtain ⟨l, g1, g2, g3⟩ := hG _ u3
            obtain ⟨i', q', cnt', x'', v1, v2, v3, v4⟩ := pm_fu w j l g1
            have hii : ic = i' := Option.some.inj (e2.symm.trans v1)
            rw [← hii, e3] at v2
            have hqq : p = q' := congrArg (fun u => u.1) (Option.some.inj v2)
            have hcq : cnt = cnt' := congrArg (fun u => u.2.1) (Option.some.inj v2)
            have hlz : l[z]? = some (q' + 2 + 2 * z) := by rw [v3]; exact pms_at cnt' (q' + 2) z (by omega)
            obtain ⟨⟨p1, e1', wz⟩, -, htr⟩ := (tl_P w) _ u3
            have hw : ∃ p e, as = .nil ∨ Wt K as p e 101 := by
              obtain ⟨-, -, wz⟩ := wz
              rcases wz with wz | ⟨b, -, wz, -⟩
              · exact ⟨0, 0, .inl wz.1⟩
              · exact ⟨_, _, .inr wz⟩
            obtain ⟨p2, e2', hw⟩ := hw
            obtain ⟨m1, -⟩ := ag_in as (hAs _ _ _ _ u3) p2 e2' l z _ xz hw g3 hlz u4
            have hzx : (xz, γ, r) ∈ scP y := htr _ (mc _ (m1 γ r))
            rw [u5] at hat
            have hat : VaC y cv (c' :: Q) (otk xz) a := hat
            have hca := (VaC_at w (z := (xz, γ, r)) hzx (P := c' :: Q) hrr).mp hat
            have := (hN _ _ hEQ u3 hrr ic p cnt xc e2 e3).2.2 hEu z xz a q2 u4 hca
            rw [r4, q3]
            exact this
          · have := par_ot ((tl_P w) zz e1).2.1 e2
            have this : 4 * p / 4 = otk zz.1 := this
            exact absurd (by rw [← this]; show 4 * p / 4 = p; omega) ((ft_fu w).2.2 p (fu_ft w q1) zz e1)
    · exact no (k1 q1 q2 q3) (k2 r1 r2) (by decide)
    · exact no (k1 q1 q2 q3) (k3 r1 r2).1 (by decide)
    · rcases r2 with r2 | r2
      · exact no (k1 q1 q2 q3) (k4 r1 r2) (by decide)
      · exact no (k1 q1 q2 q3) (k5 r1 r2) (by decide)
  · rcases h' with ⟨p', cnt', x', z', r1, r2, r3, r4⟩ | ⟨j', x1, x2, γ', r', r1, r2, r3⟩ | ⟨j', fs', c', ns', g', γ', r', r1, r2, r3⟩ | ⟨j', x1, x2, γ', r', r1, r2, r3⟩
    · exact no (k2 q1 q2) (k1 r1 r2 r3) (by decide)
    · have ej : j = j' := by omega
      have hs := hou.2 _ q1 _ r1 ej
      cases hs
      rw [q3] at hat
      obtain ⟨z', v1, v2, v3, v4⟩ : VaC y cv (upP r P) (otk x) a := hat
      obtain ⟨⟨p1, e1, wz⟩, -, htr⟩ := (tl_P w) _ q1
      obtain ⟨-, -, bb, w1, w2⟩ := wz
      have hzx : (x, γ, r) ∈ scP y := htr _ (mc _ (ml _ (hd_in w1 _ _)))
      have := hou.2 _ v1 _ hzx v2
      subst this
      have hEu := hcv _ _ _ v4
      have := (hN _ _ hEu q1 v3).1 a v4
      rw [r3, q2]
      exact this
    · exact no (k2 q1 q2) (k3 r1 r2).1 (by decide)
    · rcases r2 with r2 | r2
      · exact no (k2 q1 q2) (k4 r1 r2) (by decide)
      · exact no (k2 q1 q2) (k5 r1 r2) (by decide)
  · rcases h' with ⟨p', cnt', x', z', r1, r2, r3, r4⟩ | ⟨j', x1, x2, γ', r', r1, r2, r3⟩ | ⟨j', fs', c', ns', g', γ', r', r1, r2, r3⟩ | ⟨j', x1, x2, γ', r', r1, r2, r3⟩
    · exact no (k3 q1 q2).1 (k1 r1 r2 r3) (by decide)
    · exact no (k3 q1 q2).1 (k2 r1 r2) (by decide)
    · have ej := k7 q1 q2 r1 r2
      have hs := hou.2 _ q1 _ r1 ej
      cases hs
      have hEu := En_up hT P hE (r := 4 * j) (by rw [q3]; exact List.cons_ne_nil _ _)
      rw [q3] at hEu
      have hPu := hPO _ hEu
      obtain ⟨c', Q', p1, p2, p3, p4⟩ := P_par (V := V) w q1 (k := 0) (i := i) (by omega) hPu
      have hcr : c'.1 = r := by
        rcases p2 with p2 | p2
        · exact p2.2
        · exact absurd p2.1 (by show ¬ (4 * j + 0 = 4 * j + 1 ∨ 4 * j + 0 = 4 * j + 2); omega)
      have hrQ : r = hdR Q := by rw [p1]; exact hcr.symm
      have hEQ : En Q := hT _ _ hEu (by rw [p1]; exact List.cons_ne_nil _ _)
      obtain ⟨⟨p5, e5, wz⟩, -, htr⟩ := (tl_P w) _ q1
      obtain ⟨-, b1, d1, g1, n1, n2, w1, w2, w3, w4⟩ := wz
      obtain ⟨t1, t2, t3, t4, t5⟩ := hG _ q1
      obtain ⟨N1, N2, N3, N4, N5⟩ := hN _ _ hEQ q1 hrQ
      rw [q5] at hat
      have hfirst : LnP V j fs ns b Q i = (rwX fs b).map (fun x => (Q, otk x)) → ∃ x, rwX fs b = some x ∧ cv Q (rtk x) = some a := fun hq => by
        rw [hq] at q4
        cases hx : rwX fs b with
        | none => rw [hx] at q4; cases q4
        | some x =>
          rw [hx] at q4
          have q4 : some (Q, otk x) = some pl := q4
          cases q4
          obtain ⟨m1, -⟩ := rwX_in fs (hL _ _ _ _ _ _ _ q1).1 _ _ (.inr w1) t2 x hx
          have hzx : (x, γ, r) ∈ scP y := htr _ (mc _ (ml _ (m1 γ r)))
          exact ⟨x, rfl, (VaC_at w (z := (x, γ, r)) hzx (P := Q) hrQ).mp hat⟩
      rcases r3 with ⟨r3, r4⟩ | ⟨r3, r4⟩
      · rw [r4, q3]
        cases i with
        | zero =>
          obtain ⟨x, hx1, hx2⟩ := hfirst rfl
          exact (N4 b x a q2 hx1 hx2).1 r3 hEu
        | succ i =>
          obtain ⟨x, hx⟩ := Option.ne_none_iff_exists'.mp r3
          have q4 : (match nxX V ns b with | some x => some ((4 * j + 1, 0) :: (4 * j, i) :: Q, otk x) | none => LnP V j fs ns b Q i) = some pl := q4
          rw [hx] at q4
          cases q4
          obtain ⟨m1, -⟩ := nxX_in ns (hL _ _ _ _ _ _ _ q1).2 _ _ (.inr w3) t4 x hx
          have hzx : (x, bnd fs γ, 4 * j + 1) ∈ scP y := htr _ (mc _ (mr _ (mr _ (ml _ (m1 _ _)))))
          exact N5 i b x a q2 hx ((VaC_at w (z := (x, bnd fs γ, 4 * j + 1)) hzx (P := (4 * j + 1, 0) :: (4 * j, i) :: Q) rfl).mp hat)
      · obtain ⟨x, hx1, hx2⟩ := hfirst (LnP_0 r3 i)
        have huf : upF y (4 * j) P ≠ [] := by
          rcases hVS with ⟨p9, cnt9, x9, z9, s1, s2, s3, -⟩ | ⟨j9, x9, x9', γ9, r9, s1, s2, -⟩ | ⟨j9, fs9, c9, ns9, g9, γ9, r9, s1, s2, s3⟩ | ⟨j9, x9, x9', γ9, r9, s1, s2, -⟩ | ⟨j9, x9, x9', γ9, r9, s1, s2, -⟩
          · exact no (k3 q1 q2).1 (k1 s1 s2 s3) (by decide)
          · exact no (k3 q1 q2).1 (k2 s1 s2) (by decide)
          · rw [k7 q1 q2 s1 s2]
            exact s3
          · exact no (k3 q1 q2).1 (k4 s1 s2) (by decide)
          · exact no (k3 q1 q2).1 (k5 s1 s2) (by decide)
        have hu2 := (upF_up P huf).1
        rw [q3] at hu2
        obtain ⟨v1, -, -⟩ := up_tl (V := V) w q1 (.inl rfl) (i := i) (Q := Q) P hPk hu2.symm
        have v1 : upF y r P = Q := v1
        have hne : upF y r P ≠ [] := by rw [v1, p1]; exact List.cons_ne_nil _ _
        have hup : upP r P = Q := (upF_up P hne).1.trans v1
        rw [r4, hup]
        exact (N4 b x a q2 hx1 hx2).2 r3
    · rcases r2 with r2 | r2
      · exact no (k3 q1 q2).1 (k4 r1 r2) (by decide)
      · exact no (k3 q1 q2).1 (k5 r1 r2) (by decide)
  · rcases h' with ⟨p', cnt', x', z', r1, r2, r3, r4⟩ | ⟨j', x1, x2, γ', r', r1, r2, r3⟩ | ⟨j', fs', c', ns', g', γ', r', r1, r2, r3⟩ | ⟨j', x1, x2, γ', r', r1, r2, r3⟩
    · exact no (k4 q1 q2) (k1 r1 r2 r3) (by decide)
    · exact no (k4 q1 q2) (k2 r1 r2) (by decide)
    · exact no (k4 q1 q2) (k3 r1 r2).1 (by decide)
    · rcases r2 with r2 | r2
      · have ej : j = j' := by omega
        rw [← ej, q3] at r3
        have hEu := En_up hT P hE (r := 4 * j) (by rw [q3]; exact List.cons_ne_nil _ _)
        rw [q3] at hEu
        obtain ⟨c', Q', p1, p2, p3, p4⟩ := P_par (V := V) w q1 (k := 0) (i := i) (by omega) (hPO _ hEu)
        have hEQ : En Q := hT _ _ hEu (by rw [p1]; exact List.cons_ne_nil _ _)
        have hrQ : r = hdR Q := by rw [p1]; exact p2.2.symm
        rw [q4] at hat
        have hat : a = mkN (Int64.ofNat i) := hat
        rw [r3, hat, q2]
        exact ((hN _ _ hEQ q1 hrQ).2 i hEu).1
      · exact no (k4 q1 q2) (k5 r1 r2) (by decide)
  · rcases h' with ⟨p', cnt', x', z', r1, r2, r3, r4⟩ | ⟨j', x1, x2, γ', r', r1, r2, r3⟩ | ⟨j', fs', c', ns', g', γ', r', r1, r2, r3⟩ | ⟨j', x1, x2, γ', r', r1, r2, r3⟩
    · exact no (k5 q1 q2) (k1 r1 r2 r3) (by decide)
    · exact no (k5 q1 q2) (k2 r1 r2) (by decide)
    · exact no (k5 q1 q2) (k3 r1 r2).1 (by decide)
    · rcases r2 with r2 | r2
      · exact no (k5 q1 q2) (k4 r1 r2) (by decide)
      · have ej : j = j' := by omega
        rw [← ej] at r3
        have huf : upF y (4 * j) P ≠ [] := by
          rcases hVS with ⟨p9, cnt9, x9, z9, s1, s2, s3, -⟩ | ⟨j9, x9, x9', γ9, r9, s1, s2, -⟩ | ⟨j9, fs9, c9, ns9, g9, γ9, r9, s1, s2, s3⟩ | ⟨j9, x9, x9', γ9, r9, s1, s2, -⟩ | ⟨j9, x9, x9', γ9, r9, s1, s2, -, s4⟩
          · exact no (k5 q1 q2) (k1 s1 s2 s3) (by decide)
          · exact no (k5 q1 q2) (k2 s1 s2) (by decide)
          · exact no (k5 q1 q2) (k3 s1 s2).1 (by decide)
          · exact no (k5 q1 q2) (k4 s1 s2) (by decide)
          · rw [show j = j9 by omega]
            exact s4
        obtain ⟨u1, i, Q, u2⟩ := upF_up P huf
        rw [u2] at u1
        obtain ⟨v1, v2, -⟩ := up_tl (V := V) w q1 (.inr rfl) (i := i) (Q := Q) P hPk u2
        have v1 : upF y r P = Q := v1
        have v2 : hdR Q = r := v2
        have hEu := En_up hT P hE (r := 4 * j) (by rw [u1]; exact List.cons_ne_nil _ _)
        rw [u1] at hEu r3
        obtain ⟨c', Q', p1, p2, p3, p4⟩ := P_par (V := V) w q1 (k := 0) (i := i) (by omega) (hPO _ hEu)
        have hne : upF y r P ≠ [] := by rw [v1, p1]; exact List.cons_ne_nil _ _
        have hup : upP r P = Q := (upF_up P hne).1.trans v1
        have hEQ : En Q := hT _ _ hEu (by rw [p1]; exact List.cons_ne_nil _ _)
        rw [q3, hup] at hat
        have hat : VaC y cv Q j a := hat
        have hca := (VaC_at w (z := (.tag 11 (.tag j (.append x x')), γ, r)) q1 (P := Q) v2.symm).mp hat
        rw [r3, q2]
        exact ((hN _ _ hEQ q1 v2.symm).2 i hEu).2 a hca
end NVQ
