/-! what a variable has, its place has -/
section NQV
variable {K : Nat → Nat} {V : Nat → Int64} {y : TR} {ar : Nat → Int64} {En : TPth → Prop} {cv vr : TPth → Nat → Option TVal} {mv : Option (TPth × Nat × TVal)} {AW : TPth → Nat → Prop} {Ev Hp : TEv → Prop} {e0 : Nat} {W : Nat → Int32 × Int32 × Int32} {ν : Nat → Nat}
set_option maxHeartbeats 4000000 in
theorem NQ_vr {f : Nat} (w : PW K y 0 e0) (hf : f + tln y < 2 ^ 31) (hW : FA (WPs W ν) y f) (hν : ∀ z, z ∈ scP y → ν (otk z.1) < 2 ^ 31 ∧ ∀ z', z' ∈ scP y → ν (otk z.1) = ν (otk z'.1) → otk z.1 = otk z'.1) (hL : ∀ j fs c ns g γ r, (.tag 7 (.tag j (.append fs (.append c (.append ns g)))), γ, r) ∈ scP y → LL fs ∧ LL ns) (hG : ∀ z, z ∈ scP y → GdN K V (ftP y) z) (hAs : ∀ j as γ r, (.tag 4 (.tag j as), γ, r) ∈ scP y → LL as)
    (hPO : ∀ P, En P → POk V y P) (hT : ∀ c Q, En (c :: Q) → Q ≠ [] → En Q) (hty : ∀ P z a, z ∈ scP y → z.2.2 = hdR P → cv P (rtk z.1) = some a → tyO (tyV K V z.1) a) (hroot : ∀ p cnt x z a, (p, cnt, x) ∈ fuP y → z < cnt → En [(4 * p, 0)] → vr [(4 * p, 0)] (p + 2 + 2 * z) = some a → a = mkN (ar z) ∧ tvV (V (p + 2 + 2 * z)) = 1)
    (hN : ∀ P z, En P → z ∈ scP y → z.2.2 = hdR P → NQ V y En cv vr mv AW Ev Hp P z) :
    ∀ P z b a F, En P → z ∈ scP y → z.2.2 = hdR P → b ∈ z.2.1 → VF V y P b F → vr F b = some a → tyO (tvV (V b)) a ∧ ∃ o, VrP V y ar P b o ∧ AtP (VaC y cv) o a := by
  intro P zz b a F hE hzz hzr hb h' hv
  have hn := wn_P w f hW
  have hp := wp_P w f hW
  have hou := ou_P w
  have hPk := hPO P hE
  have hVS : VrS y P b := by
    cases hP : P with
    | nil => rw [hP] at hPk; exact absurd hPk id
    | cons c Q =>
      rw [hP] at hzr hPk
      have hzr : zz.2.2 = c.1 := hzr
      have := vr_P (V := V) w hzz c.2 Q (by rw [hzr]; exact hPk) b hb
      rw [hzr] at this
      exact this
  have k1 : ∀ {p cnt : Nat} {x : TR} {z : Nat}, (p, cnt, x) ∈ fuP y → z < cnt → b = p + 2 + 2 * z → (W b).1 = 1 := fun {p cnt x z} q1 q2 q3 => by
    obtain ⟨c, -, -, -, c4⟩ := hp p cnt x q1
    rw [q3, c4 z q2]
  have k2 : ∀ {j : Nat} {x x' : TR} {γ : List Nat} {r : Nat}, (.tag 5 (.tag j (.append x x')), γ, r) ∈ scP y → b = j + 1 → (W b).1 = 2 := fun {j x x' γ r} q1 q2 => by
    have : W (j + 1) = (2, nI (ν j), 0) := hn _ q1
    rw [q2, this]
  have k3 : ∀ {j : Nat} {fs c ns g : TR} {γ : List Nat} {r : Nat}, (.tag 7 (.tag j (.append fs (.append c (.append ns g)))), γ, r) ∈ scP y → b ∈ tks fs → (W b).1 = 3 ∧ (W b).2.1 = nI (ν j) := fun {j fs c ns g γ r} q1 q2 => by
    have : WbL W (nI (ν j)) fs 0 := hn _ q1
    obtain ⟨k, hk⟩ := WbL_at fs (hL _ _ _ _ _ _ _ q1).1 0 this b q2
    rw [hk]
    exact ⟨rfl, rfl⟩
  have k4 : ∀ {j : Nat} {x x' : TR} {γ : List Nat} {r : Nat}, (.tag 11 (.tag j (.append x x')), γ, r) ∈ scP y → b = j + 3 → (W b).1 = 4 := fun {j x x' γ r} q1 q2 => by
    have : W (j + 1) = (5, nI (ν j), 0) ∧ W (j + 3) = (4, nI (ν j), 0) := hn _ q1
    rw [q2, this.2]
  have k5 : ∀ {j : Nat} {x x' : TR} {γ : List Nat} {r : Nat}, (.tag 11 (.tag j (.append x x')), γ, r) ∈ scP y → b = j + 1 → (W b).1 = 5 := fun {j x x' γ r} q1 q2 => by
    have : W (j + 1) = (5, nI (ν j), 0) ∧ W (j + 3) = (4, nI (ν j), 0) := hn _ q1
    rw [q2, this.1]
  have no : ∀ {i i' : Int32} {Q : Prop}, (W b).1 = i → (W b).1 = i' → i ≠ i' → Q := fun h1 h2 h3 => absurd (h1.symm.trans h2) h3
  have k7 : ∀ {j j' : Nat} {fs c ns g fs' c' ns' g' : TR} {γ γ' : List Nat} {r r' : Nat}, (.tag 7 (.tag j (.append fs (.append c (.append ns g)))), γ, r) ∈ scP y → b ∈ tks fs → (.tag 7 (.tag j' (.append fs' (.append c' (.append ns' g')))), γ', r') ∈ scP y → b ∈ tks fs' → j = j' := fun {j j' fs c ns g fs' c' ns' g' γ γ' r r'} q1 q2 q3 q4 => by
    have e1 : nI (ν j) = nI (ν j') := (k3 q1 q2).2.symm.trans (k3 q3 q4).2
    obtain ⟨n1, n2⟩ := hν _ q1
    obtain ⟨n3, -⟩ := hν _ q3
    exact n2 _ q3 ((nI_eq n1 n3).mp e1)
  have va : ∀ {P1 : TPth} {x : TR} {γ : List Nat} {r : Nat}, (x, γ, r) ∈ scP y → r = hdR P1 → cv P1 (rtk x) = some a → AtP (VaC y cv) (.inl (P1, otk x)) a ∧ tyO (tyV K V x) a := fun {P1 x γ r} q1 q2 q3 => ⟨⟨(x, γ, r), q1, rfl, q2, q3⟩, hty P1 (x, γ, r) a q1 q2 q3⟩
  have k45 : ∀ {j : Nat} {x x' : TR} {γ : List Nat} {r : Nat}, (.tag 11 (.tag j (.append x x')), γ, r) ∈ scP y → b = j + 3 ∨ b = j + 1 → (W b).1 = 4 ∨ (W b).1 = 5 := fun {j x x' γ r} q1 q2 => q2.imp (k4 q1) (k5 q1)
  have no2 : ∀ {i : Int32} {Q : Prop}, (W b).1 = i → (W b).1 = 4 ∨ (W b).1 = 5 → i ≠ 4 → i ≠ 5 → Q := fun h1 h2 h3 h4 => by
    rcases h2 with h2 | h2
    · exact absurd (h1.symm.trans h2) h3
    · exact absurd (h1.symm.trans h2) h4
  rcases h' with ⟨p, cnt, x, z, q1, q2, q3, q4⟩ | ⟨j, x, x', γ, r, q1, q2, q3⟩ | ⟨j, fs, c, ns, g, γ, r, q1, q2, q3⟩ | ⟨j, x, x', γ, r, q1, q2, q3⟩
  · have huf : upF y (4 * p) P ≠ [] := by
      rcases hVS with ⟨p9, cnt9, x9, z9, s1, s2, s3, s4⟩ | ⟨j9, x9, x9', γ9, r9, s1, s2, s3⟩ | ⟨j9, fs9, c9, ns9, g9, γ9, r9, s1, s2, s3⟩ | ⟨j9, x9, x9', γ9, r9, s1, s2, s3⟩ | ⟨j9, x9, x9', γ9, r9, s1, s2, s3, s4⟩
      · obtain ⟨c, c1, c2, c3, c4⟩ := hp p cnt x q1
        obtain ⟨c', d1, d2, d3, d4⟩ := hp p9 cnt9 x9 s1
        have e1 : nI c = nI c' := by
          have a1 := c4 z q2
          have a2 := d4 z9 s2
          rw [← q3] at a1
          rw [← s3] at a2
          exact congrArg (fun t => t.2.1) (a1.symm.trans a2)
        have e2 : c = c' := (nI_eq (by omega) (by omega)).mp e1
        rw [← e2, c3] at d3
        have hpp : p = p9 := congrArg (fun u => u.1) (Option.some.inj d3)
        rw [hpp]
        exact s4
      · exact no (k1 q1 q2 q3) (k2 s1 s2) (by decide)
      · exact no (k1 q1 q2 q3) (k3 s1 s2).1 (by decide)
      · exact no (k1 q1 q2 q3) (k4 s1 s2) (by decide)
      · exact no (k1 q1 q2 q3) (k5 s1 s2) (by decide)
    obtain ⟨u1, i, Q, u2⟩ := upF_up P huf
    rw [u2] at u1
    have hEu := En_up hT P hE (r := 4 * p) (by rw [u1]; exact List.cons_ne_nil _ _)
    have hPu := hPO _ hEu
    rw [u1] at hEu hPu
    rw [q4, u1, q3] at hv
    cases Q with
    | nil =>
      obtain ⟨q', cnt', x', e1, e2⟩ := hPu
      have hi : i = 0 := congrArg Prod.snd e2
      subst hi
      obtain ⟨v1, v2⟩ := hroot p cnt x z a q1 q2 hEu hv
      rw [q3, v1, v2]
      exact ⟨ty_n, _, .inl ⟨p, cnt, x, z, q1, q2, rfl, .inl ⟨u1, rfl⟩⟩, rfl⟩
    | cons c' Q =>
      have hEQ := hT _ _ hEu (List.cons_ne_nil _ _)
      rcases hPu.1 with ⟨as, γ, ic, qc, cntc, xc, e1, e2, e3, e4⟩ | ⟨zz, e1, e2⟩
      · have e4 : 4 * p = 4 * qc := e4
        have hpq : p = qc := by omega
        subst hpq
        have hcx := fu_uq w p _ _ q1 (List.mem_of_getElem? e3)
        have hcc : cnt = cntc := congrArg Prod.fst hcx
        subst hcc
        have e1 : (.tag 4 (.tag i as), γ, c'.1) ∈ scP y := e1
        obtain ⟨-, xz, u4, u5⟩ := ((hN _ _ hEQ e1 rfl).2 ic p cnt xc e2 e3).2.2 z a q2 hv
        obtain ⟨l, g1, g2, g3⟩ := hG _ e1
        obtain ⟨i', q', cnt', x'', v1, v2, v3, v4⟩ := pm_fu w i l g1
        have hii : ic = i' := Option.some.inj (e2.symm.trans v1)
        rw [← hii, e3] at v2
        have hqq : p = q' := congrArg (fun u => u.1) (Option.some.inj v2)
        have hcq : cnt = cnt' := congrArg (fun u => u.2.1) (Option.some.inj v2)
        have hlz : l[z]? = some (q' + 2 + 2 * z) := by rw [v3]; exact pms_at cnt' (q' + 2) z (by omega)
        obtain ⟨⟨p1, e1', wz⟩, -, htr⟩ := (tl_P w) _ e1
        have hw : ∃ p e, as = .nil ∨ Wt K as p e 101 := by
          obtain ⟨-, -, wz⟩ := wz
          rcases wz with wz | ⟨b, -, wz, -⟩
          · exact ⟨0, 0, .inl wz.1⟩
          · exact ⟨_, _, .inr wz⟩
        obtain ⟨p2, e2', hw⟩ := hw
        obtain ⟨m1, m2⟩ := ag_in as (hAs _ _ _ _ e1) p2 e2' l z _ xz hw g3 hlz u4
        have hzx : (xz, γ, c'.1) ∈ scP y := htr _ (mc _ (m1 γ _))
        obtain ⟨t1, t2⟩ := va hzx (P1 := c' :: Q) rfl u5
        rw [m2, ← hqq, ← q3] at t2
        exact ⟨t2, _, .inl ⟨p, cnt, x, z, q1, q2, q3, .inr ⟨i, c' :: Q, as, γ, c'.1, xz, u1, List.cons_ne_nil _ _, e1, u4, rfl⟩⟩, t1⟩
      · have := par_ot ((tl_P w) zz e1).2.1 e2
        have this : 4 * p / 4 = otk zz.1 := this
        exact absurd (by rw [← this]; show 4 * p / 4 = p; omega) ((ft_fu w).2.2 p (fu_ft w q1) zz e1)
  · have huf : upF y r P ≠ [] := by
      rcases hVS with ⟨p9, cnt9, x9, z9, s1, s2, s3, s4⟩ | ⟨j9, x9, x9', γ9, r9, s1, s2, s3⟩ | ⟨j9, fs9, c9, ns9, g9, γ9, r9, s1, s2, s3⟩ | ⟨j9, x9, x9', γ9, r9, s1, s2, s3⟩ | ⟨j9, x9, x9', γ9, r9, s1, s2, s3, s4⟩
      · exact no (k2 q1 q2) (k1 s1 s2 s3) (by decide)
      · have := hou.2 _ q1 _ s1 (show j = j9 by omega)
        have hr : r = r9 := congrArg (fun u => u.2.2) this
        rw [hr]
        exact s3
      · exact no (k2 q1 q2) (k3 s1 s2).1 (by decide)
      · exact no (k2 q1 q2) (k4 s1 s2) (by decide)
      · exact no (k2 q1 q2) (k5 s1 s2) (by decide)
    obtain ⟨u1, i, Q, u2⟩ := upF_up P huf
    rw [u2] at u1
    have hEu := En_up hT P hE (r := r) (by rw [u1]; exact List.cons_ne_nil _ _)
    have hr : r = hdR (upP r P) := by rw [u1]; rfl
    rw [q3, q2] at hv
    have hc := (hN _ _ hEu q1 hr).2.1 a hv
    obtain ⟨⟨p1, e1, wz⟩, -, htr⟩ := (tl_P w) _ q1
    obtain ⟨-, -, bb, w1, w2⟩ := wz
    have hzx : (x, γ, r) ∈ scP y := htr _ (mc _ (ml _ (hd_in w1 _ _)))
    obtain ⟨t1, t2⟩ := va hzx hr hc
    have g1 : tyV K V x = tvV (V (j + 1)) := hG _ q1
    rw [g1, ← q2] at t2
    exact ⟨t2, _, .inr (.inl ⟨j, x, x', γ, r, q1, q2, rfl⟩), t1⟩
  · have huf : upF y (4 * j) P ≠ [] := by
      rcases hVS with ⟨p9, cnt9, x9, z9, s1, s2, s3, s4⟩ | ⟨j9, x9, x9', γ9, r9, s1, s2, s3⟩ | ⟨j9, fs9, c9, ns9, g9, γ9, r9, s1, s2, s3⟩ | ⟨j9, x9, x9', γ9, r9, s1, s2, s3⟩ | ⟨j9, x9, x9', γ9, r9, s1, s2, s3, s4⟩
      · exact no (k3 q1 q2).1 (k1 s1 s2 s3) (by decide)
      · exact no (k3 q1 q2).1 (k2 s1 s2) (by decide)
      · rw [k7 q1 q2 s1 s2]
        exact s3
      · exact no (k3 q1 q2).1 (k4 s1 s2) (by decide)
      · exact no (k3 q1 q2).1 (k5 s1 s2) (by decide)
    obtain ⟨u1, i, Q, u2⟩ := upF_up P huf
    rw [u2] at u1
    have hEu := En_up hT P hE (r := 4 * j) (by rw [u1]; exact List.cons_ne_nil _ _)
    rw [u1] at hEu
    have hPu := hPO _ hEu
    obtain ⟨c', Q', p1, p2, p3, p4⟩ := P_par (V := V) w q1 (k := 0) (i := i) (by omega) hPu
    have hcr : c'.1 = r := by
      rcases p2 with p2 | p2
      · exact p2.2
      · exact absurd p2.1 (by show ¬ (4 * j + 0 = 4 * j + 1 ∨ 4 * j + 0 = 4 * j + 2); omega)
    have hrQ : r = hdR Q := by rw [p1]; exact hcr.symm
    have hEQ : En Q := hT _ _ hEu (by rw [p1]; exact List.cons_ne_nil _ _)
    obtain ⟨⟨p5, e5, wz⟩, -, htr⟩ := (tl_P w) _ q1
    obtain ⟨-, b1, d1, g1, n1, n2, w1, w2, w3, w4⟩ := wz
    obtain ⟨t1, t2, t3, t4, t5⟩ := hG _ q1
    obtain ⟨-, -, -, -, -, N4, N5⟩ := hN _ _ hEQ q1 hrQ
    have first : ∀ x, rwX fs b = some x → cv Q (rtk x) = some a → AtP (VaC y cv) (.inl (Q, otk x)) a ∧ tyO (tvV (V b)) a := fun x hx hc => by
      obtain ⟨m1, m2⟩ := rwX_in fs (hL _ _ _ _ _ _ _ q1).1 _ _ (.inr w1) t2 x hx
      have hzx : (x, γ, r) ∈ scP y := htr _ (mc _ (ml _ (m1 γ r)))
      have := va hzx hrQ hc
      rw [m2] at this
      exact this
    rcases q3 with ⟨q3, q4⟩ | ⟨q3, q4⟩
    · rw [q4, u1] at hv
      cases i with
      | zero =>
        obtain ⟨-, x, hx, hc⟩ := (N4 b a q2).1 q3 hv
        obtain ⟨v1, v2⟩ := first x hx hc
        exact ⟨v2, _, .inr (.inr (.inl ⟨j, fs, c, ns, g, γ, r, 0, Q, (Q, otk x), q1, q2, u1, by show (rwX fs b).map (fun x => (Q, otk x)) = _; rw [hx]; rfl, rfl⟩)), v1⟩
      | succ i =>
        obtain ⟨x, hx, hc⟩ := N5 i b a q2 q3 hv
        obtain ⟨m1, m2⟩ := nxX_in ns (hL _ _ _ _ _ _ _ q1).2 _ _ (.inr w3) t4 x hx
        have hzx : (x, bnd fs γ, 4 * j + 1) ∈ scP y := htr _ (mc _ (mr _ (mr _ (ml _ (m1 _ _)))))
        obtain ⟨v1, v2⟩ := va hzx (P1 := (4 * j + 1, 0) :: (4 * j, i) :: Q) rfl hc
        rw [m2] at v2
        refine ⟨v2, _, .inr (.inr (.inl ⟨j, fs, c, ns, g, γ, r, i + 1, Q, ((4 * j + 1, 0) :: (4 * j, i) :: Q, otk x), q1, q2, u1, ?_, rfl⟩)), v1⟩
        show (match nxX V ns b with | some x => some ((4 * j + 1, 0) :: (4 * j, i) :: Q, otk x) | none => LnP V j fs ns b Q i) = _
        rw [hx]
    · obtain ⟨v1, -, -⟩ := up_tl (V := V) w q1 (.inl rfl) (i := i) (Q := Q) P hPk u2
      have v1 : upF y r P = Q := v1
      have hne : upF y r P ≠ [] := by rw [v1, p1]; exact List.cons_ne_nil _ _
      have hup : upP r P = Q := (upF_up P hne).1.trans v1
      rw [q4, hup] at hv
      obtain ⟨x, hx, hc⟩ := (N4 b a q2).2 q3 hv
      obtain ⟨v3, v2⟩ := first x hx hc
      refine ⟨v2, _, .inr (.inr (.inl ⟨j, fs, c, ns, g, γ, r, i, Q, (Q, otk x), q1, q2, u1, ?_, rfl⟩)), v3⟩
      rw [LnP_0 q3 i, hx]
      rfl
  · have huf : upF y (4 * j) P ≠ [] := by
      rcases hVS with ⟨p9, cnt9, x9, z9, s1, s2, s3, s4⟩ | ⟨j9, x9, x9', γ9, r9, s1, s2, s3⟩ | ⟨j9, fs9, c9, ns9, g9, γ9, r9, s1, s2, s3⟩ | ⟨j9, x9, x9', γ9, r9, s1, s2, s3⟩ | ⟨j9, x9, x9', γ9, r9, s1, s2, s3, s4⟩
      · exact no2 (k1 s1 s2 s3) (k45 q1 q2) (by decide) (by decide)
      · exact no2 (k2 s1 s2) (k45 q1 q2) (by decide) (by decide)
      · exact no2 (k3 s1 s2).1 (k45 q1 q2) (by decide) (by decide)
      · rcases q2 with q2 | q2
        · rw [show j = j9 by omega]
          exact s3
        · exact no (k5 q1 q2) (k4 s1 s2) (by decide)
      · rcases q2 with q2 | q2
        · exact no (k4 q1 q2) (k5 s1 s2) (by decide)
        · rw [show j = j9 by omega]
          exact s4
    obtain ⟨u1, i, Q, u2⟩ := upF_up P huf
    rw [u2] at u1
    obtain ⟨v1, v2, -⟩ := up_tl (V := V) w q1 (.inr rfl) (i := i) (Q := Q) P hPk u2
    have v1 : upF y r P = Q := v1
    have v2 : hdR Q = r := v2
    have hEu := En_up hT P hE (r := 4 * j) (by rw [u1]; exact List.cons_ne_nil _ _)
    rw [u1] at hEu
    obtain ⟨c', Q', p1, p2, p3, p4⟩ := P_par (V := V) w q1 (k := 0) (i := i) (by omega) (hPO _ hEu)
    have hne : upF y r P ≠ [] := by rw [v1, p1]; exact List.cons_ne_nil _ _
    have hup : upP r P = Q := (upF_up P hne).1.trans v1
    have hEQ : En Q := hT _ _ hEu (by rw [p1]; exact List.cons_ne_nil _ _)
    obtain ⟨-, -, -, -, -, N5, N6⟩ := hN _ _ hEQ q1 v2.symm
    obtain ⟨g1, g2, -⟩ := hG _ q1
    rcases q2 with q2 | q2
    · rw [q3, u1, q2] at hv
      obtain ⟨-, ha⟩ := N5 i a hv
      rw [q2, g2, ha]
      exact ⟨ty_n, _, .inr (.inr (.inr (.inl ⟨j, x, x', γ, r, i, Q, q1, rfl, u1, rfl⟩))), rfl⟩
    · rw [q3, u1, q2] at hv
      obtain ⟨-, ha⟩ := N6 i a hv
      obtain ⟨t1, t2⟩ := va (P1 := Q) q1 v2.symm ha
      rw [q2, g1]
      refine ⟨t2, _, .inr (.inr (.inr (.inr ⟨j, x, x', γ, r, q1, rfl, rfl⟩))), ?_⟩
      rw [hup]
      exact t1
end NQV
