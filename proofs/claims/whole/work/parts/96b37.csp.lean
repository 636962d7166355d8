/-! room: each frame has a cause -/
/-- the event that led to a path -/
def csP (y : TR) : TPth → Option TEv
  | [] => none
  | c :: Q => if c.1 / 4 ∈ (ftP y).map Prod.fst then (if Q.isEmpty = true then none else some (Q, c.2, 0)) else if c.1 / 4 ∈ lpP y then (if c.1 % 4 = 0 then (if c.2 = 0 then csP y Q else some (Q, c.1 / 4, c.2 - 1)) else some (Q.tail, c.1 / 4, (Q.headD (0, 0)).2)) else if c.1 / 4 ∈ tbP y then some (Q, c.1 / 4, c.2 + 1) else some (Q, c.1 / 4, 0)
section CSP
variable {K pl : Nat → Nat} {V : Nat → Int64} {y : TR} {e : Nat} {N M L : Nat → Nat} {n ρ τ : Nat} {G : im_S} {q0 : Nat} {ar : Nat → Int64} {En : TPth → Prop} {cv vr : TPth → Nat → Option TVal} {mv : Option (TPth × Nat × TVal)} {Aw : TPth → Nat → Prop} {WV WC : TPth → Nat → TPth → Nat → Prop} {R H : List TEv} {fl : Prop} {c : Nat × Nat} {Q : TPth}
theorem lp_tbK {x : TR} (hs : shp x) (h : lpK x = true) : tbK x = false := by
  rcases hs with ⟨j, rfl⟩ | ⟨j, rfl⟩ | ⟨j, rfl⟩ | ⟨j, as, rfl⟩ | ⟨j, a, b, rfl⟩ | ⟨j, a, b, c, rfl⟩ | ⟨j, fs, c, ns, g, rfl⟩ | ⟨j, a, rfl⟩ | ⟨j, a, b, rfl⟩ | ⟨j, a, b, rfl⟩ | ⟨j, a, b, rfl⟩ | ⟨j, a, rfl⟩ <;> first | rfl | cases h
theorem cs_f (h : c.1 / 4 ∈ (ftP y).map Prod.fst) (hQ : Q ≠ []) : csP y (c :: Q) = some (Q, c.2, 0) := by
  cases Q with
  | nil => exact absurd rfl hQ
  | cons d D =>
    rw [csP, if_pos h]
    rfl
theorem cs_r (h : c.1 / 4 ∈ (ftP y).map Prod.fst) : csP y [c] = none := by
  rw [csP, if_pos h]
  rfl
theorem cs_0 (hf : ¬ c.1 / 4 ∈ (ftP y).map Prod.fst) (hl : c.1 / 4 ∈ lpP y) (h4 : c.1 % 4 = 0) (h0 : c.2 = 0) : csP y (c :: Q) = csP y Q := by
  rw [csP, if_neg hf, if_pos hl, if_pos h4, if_pos h0]
theorem cs_i (hf : ¬ c.1 / 4 ∈ (ftP y).map Prod.fst) (hl : c.1 / 4 ∈ lpP y) (h4 : c.1 % 4 = 0) (h0 : c.2 ≠ 0) : csP y (c :: Q) = some (Q, c.1 / 4, c.2 - 1) := by
  rw [csP, if_neg hf, if_pos hl, if_pos h4, if_neg h0]
theorem cs_n (hf : ¬ c.1 / 4 ∈ (ftP y).map Prod.fst) (hl : c.1 / 4 ∈ lpP y) (h4 : c.1 % 4 ≠ 0) : csP y (c :: Q) = some (Q.tail, c.1 / 4, (Q.headD (0, 0)).2) := by
  rw [csP, if_neg hf, if_pos hl, if_neg h4]
theorem cs_t (hf : ¬ c.1 / 4 ∈ (ftP y).map Prod.fst) (hl : ¬ c.1 / 4 ∈ lpP y) (ht : c.1 / 4 ∈ tbP y) : csP y (c :: Q) = some (Q, c.1 / 4, c.2 + 1) := by
  rw [csP, if_neg hf, if_neg hl, if_pos ht]
theorem cs_b (hf : ¬ c.1 / 4 ∈ (ftP y).map Prod.fst) (hl : ¬ c.1 / 4 ∈ lpP y) (ht : ¬ c.1 / 4 ∈ tbP y) : csP y (c :: Q) = some (Q, c.1 / 4, 0) := by
  rw [csP, if_neg hf, if_neg hl, if_neg ht]
/-- the last step of a path -/
theorem pk_cs (w : PW K y 0 e) (h : POk V y (c :: Q)) :
    (c.1 / 4 ∈ (ftP y).map Prod.fst ∧ c.1 % 4 = 0 ∧ ((Q = [] ∧ c.2 = 0) ∨ (Q ≠ [] ∧ POk V y Q ∧ CalR V y c (hdR Q)))) ∨
    (¬ c.1 / 4 ∈ (ftP y).map Prod.fst ∧ Q ≠ [] ∧ POk V y Q ∧ ∃ z, z ∈ scP y ∧ otk z.1 = c.1 / 4 ∧ ParN c.1 (hdR Q) z ∧
      ((lpK z.1 = true ∧ c.1 / 4 ∈ lpP y ∧ ((c.1 % 4 = 0 ∧ hdR Q = z.2.2) ∨ ((c.1 = 4 * (c.1 / 4) + 1 ∨ c.1 = 4 * (c.1 / 4) + 2) ∧ hdR Q = 4 * (c.1 / 4)))) ∨
       (¬ c.1 / 4 ∈ lpP y ∧ c.1 / 4 ∈ tbP y ∧ c.1 % 4 = 0 ∧ tbK z.1 = true ∧ hdR Q = z.2.2) ∨
       (¬ c.1 / 4 ∈ lpP y ∧ ¬ c.1 / 4 ∈ tbP y ∧ (c.1 = 4 * (c.1 / 4) ∨ c.1 = 4 * (c.1 / 4) + 1) ∧ hdR Q = z.2.2 ∧ ∃ a b d, z.1 = .tag 6 (.tag (c.1 / 4) (.append a (.append b d)))))) := by
  obtain ⟨c1, c2⟩ := c
  cases Q with
  | nil =>
    obtain ⟨q, cnt, x, h1, h2⟩ := h
    have e1 : c1 = 4 * q := congrArg Prod.fst h2
    have e2 : c2 = 0 := congrArg Prod.snd h2
    refine .inl ⟨?_, by show c1 % 4 = 0; omega, .inl ⟨rfl, e2⟩⟩
    show c1 / 4 ∈ _
    rw [show c1 / 4 = q by omega]
    exact fu_ft w h1
  | cons d Q =>
    obtain ⟨h1, h2⟩ := h
    rcases h1 with h1 | ⟨z, hz, hp⟩
    · obtain ⟨as, γ, i, q, cnt, x, u1, u2, u3, u4⟩ := id h1
      have u4 : c1 = 4 * q := u4
      refine .inl ⟨?_, by show c1 % 4 = 0; omega, .inr ⟨List.cons_ne_nil _ _, h2, h1⟩⟩
      show c1 / 4 ∈ _
      rw [show c1 / 4 = q by omega]
      exact fu_ft w (List.mem_of_getElem? u3)
    · have hs := ((tl_P w) z hz).2.1
      have hnf : ¬ otk z.1 ∈ (ftP y).map Prod.fst := fun q => (ft_fu w).2.2 _ q z hz rfl
      have hp0 := hp
      obtain ⟨x, γ, r⟩ := z
      have hs : shp x := hs
      have fin : ∀ {j : Nat}, otk x = j → c1 / 4 = j → (¬ c1 / 4 ∈ (ftP y).map Prod.fst) ∧ otk x = c1 / 4 := fun {j} q1 q2 => ⟨by rw [q2, ← q1]; exact hnf, by rw [q1, q2]⟩
      rcases hs with ⟨j, rfl⟩ | ⟨j, rfl⟩ | ⟨j, rfl⟩ | ⟨j, as, rfl⟩ | ⟨j, a, b, rfl⟩ | ⟨j, a, b, c, rfl⟩ | ⟨j, fs, c, ns, g, rfl⟩ | ⟨j, a, rfl⟩ | ⟨j, a, b, rfl⟩ | ⟨j, a, b, rfl⟩ | ⟨j, a, b, rfl⟩ | ⟨j, a, rfl⟩
      · exact hp.elim
      · exact hp.elim
      · exact hp.elim
      · exact hp.elim
      · exact hp.elim
      · obtain ⟨p1, p2⟩ := hp
        have p1 : c1 = 4 * j ∨ c1 = 4 * j + 1 := p1
        have e1 : c1 / 4 = j := by omega
        obtain ⟨f1, f2⟩ := fin (j := j) rfl e1
        have n1 : ¬ c1 / 4 ∈ lpP y := by rw [e1]; exact lp_no w hz rfl
        have n2 : ¬ c1 / 4 ∈ tbP y := by rw [e1]; exact tb_no w hz rfl
        exact .inr ⟨f1, List.cons_ne_nil _ _, h2, _, hz, f2, hp0, .inr (.inr ⟨n1, n2, by show c1 = 4 * (c1 / 4) ∨ c1 = 4 * (c1 / 4) + 1; omega, p2, a, b, c, by rw [show c1 / 4 = j from e1]⟩)⟩
      · have e1 : c1 / 4 = j := by
          rcases hp with ⟨p1, -⟩ | ⟨p1, -⟩
          · have p1 : c1 = 4 * j := p1
            omega
          · have p1 : c1 = 4 * j + 1 ∨ c1 = 4 * j + 2 := p1
            omega
        obtain ⟨f1, f2⟩ := fin (j := j) rfl e1
        refine .inr ⟨f1, List.cons_ne_nil _ _, h2, _, hz, f2, hp0, .inl ⟨rfl, by show c1 / 4 ∈ lpP y; rw [e1]; exact lp_in hz rfl, ?_⟩⟩
        rcases hp with ⟨p1, p2⟩ | ⟨p1, p2⟩
        · have p1 : c1 = 4 * j := p1
          exact .inl ⟨by show c1 % 4 = 0; omega, p2⟩
        · have p1 : c1 = 4 * j + 1 ∨ c1 = 4 * j + 2 := p1
          refine .inr ⟨by show c1 = 4 * (c1 / 4) + 1 ∨ c1 = 4 * (c1 / 4) + 2; omega, ?_⟩
          show hdR (d :: Q) = 4 * (c1 / 4)
          rw [e1]
          exact p2
      · exact hp.elim
      · exact hp.elim
      · exact hp.elim
      · obtain ⟨p1, p2⟩ := hp
        have p1 : c1 = 4 * j := p1
        have e1 : c1 / 4 = j := by omega
        obtain ⟨f1, f2⟩ := fin (j := j) rfl e1
        have n1 : ¬ c1 / 4 ∈ lpP y := by rw [e1]; exact lp_no w hz rfl
        have n2 : c1 / 4 ∈ tbP y := by rw [e1]; exact tb_in hz rfl
        exact .inr ⟨f1, List.cons_ne_nil _ _, h2, _, hz, f2, hp0, .inr (.inl ⟨n1, n2, by show c1 % 4 = 0; omega, rfl, p2⟩)⟩
      · exact hp.elim
theorem cs_gt (w : PW K y 0 e) : ∀ P, POk V y P → ∀ D j i, csP y P = some (D, j, i) → (∃ as γ r, (.tag 4 (.tag j as), γ, r) ∈ scP y) ∨ j ≤ hdR P / 4 := by
  intro P
  induction P with
  | nil => intro h; exact absurd h id
  | cons c Q ih =>
    intro h D j i hc
    rcases pk_cs w h with ⟨f1, f2, f3⟩ | ⟨f1, f2, f3, z, hz, f4, f5, f6⟩
    · rcases f3 with ⟨g1, -⟩ | ⟨g1, -, g2⟩
      · rw [g1, cs_r f1] at hc
        cases hc
      · rw [cs_f f1 g1] at hc
        cases hc
        obtain ⟨as, γ, i, q, cnt, x, u1, -⟩ := g2
        exact .inl ⟨as, γ, _, u1⟩
    · have hj : ∀ {D' : TPth} {k : Nat}, some (D', c.1 / 4, k) = some (D, j, i) → j ≤ hdR (c :: Q) / 4 := fun q => by
        have := congrArg (fun u : TEv => u.2.1) (Option.some.inj q)
        have this : c.1 / 4 = j := this
        show j ≤ c.1 / 4
        omega
      rcases f6 with ⟨-, g2, g3⟩ | ⟨g1, g2, -⟩ | ⟨g1, g2, -⟩
      · rcases g3 with ⟨g3, g4⟩ | ⟨g3, g4⟩
        · by_cases h0 : c.2 = 0
          · rw [cs_0 f1 g2 g3 h0] at hc
            rcases ih f3 D j i hc with q | q
            · exact .inl q
            · have := par_le w hz f5
              exact .inr (by show j ≤ c.1 / 4; omega)
          · rw [cs_i f1 g2 g3 h0] at hc
            exact .inr (hj hc)
        · rw [cs_n f1 g2 (by omega)] at hc
          exact .inr (hj hc)
      · rw [cs_t f1 g1 g2] at hc
        exact .inr (hj hc)
      · rw [cs_b f1 g1 g2] at hc
        exact .inr (hj hc)
theorem cs_no (w : PW K y 0 e) {P : TPth} (h : POk V y P) {z : TR × List Nat × Nat} (hz : z ∈ scP y) (hl : lpK z.1 = true) (hr : hdR P = z.2.2) {D : TPth} {i : Nat} : csP y P ≠ some (D, otk z.1, i) := fun q => by
  rcases cs_gt w P h _ _ _ q with ⟨as, γ, r, u⟩ | u
  · have := (ou_P w).2 _ u z hz rfl
    rw [← this] at hl
    cases hl
  · have := rg_lt w z hz
    omega
/-- a path by its cause and its region -/
theorem cs_inj (w : PW K y 0 e) : ∀ P P', POk V y P → POk V y P' → Z0 y P → Z0 y P' → csP y P = csP y P' → hdR P = hdR P' → P = P' := by
  intro P
  induction P with
  | nil => intro P' h; exact absurd h id
  | cons c Q ih =>
    intro P' h h' hz0 hz0' hc hr
    cases P' with
    | nil => exact absurd h' id
    | cons c' Q' =>
      have hr : c.1 = c'.1 := hr
      have pr : c.2 = c'.2 → Q = Q' → c :: Q = c' :: Q' := fun q1 q2 => by
        obtain ⟨a, b⟩ := c
        obtain ⟨a', b'⟩ := c'
        have hr : a = a' := hr
        have q1 : b = b' := q1
        rw [hr, q1, q2]
      have zt : Z0 y Q := fun d hd q => hz0 d (List.mem_cons_of_mem _ hd) q
      have zt' : Z0 y Q' := fun d hd q => hz0' d (List.mem_cons_of_mem _ hd) q
      have z2 : ¬ ifr y c.1 → c.2 = c'.2 := fun q => by
        rw [hz0 c List.mem_cons_self q, hz0' c' List.mem_cons_self (by rw [← hr]; exact q)]
      rcases pk_cs w h with ⟨f1, f2, f3⟩ | ⟨f1, f2, f3, z, hz, f4, f5, f6⟩
      · have f1' : c'.1 / 4 ∈ (ftP y).map Prod.fst := by rw [← hr]; exact f1
        rcases pk_cs w h' with ⟨-, -, f3'⟩ | ⟨k1, -⟩
        · rcases f3 with ⟨g1, g2⟩ | ⟨g1, -, g2⟩
          · rcases f3' with ⟨g1', g2'⟩ | ⟨g1', -, g2'⟩
            · exact pr (by rw [g2, g2']) (by rw [g1, g1'])
            · rw [g1, cs_r f1, cs_f f1' g1'] at hc
              cases hc
          · rcases f3' with ⟨g1', g2'⟩ | ⟨g1', -, g2'⟩
            · rw [g1', cs_r f1', cs_f f1 g1] at hc
              cases hc
            · rw [cs_f f1' g1', cs_f f1 g1] at hc
              have hc := Option.some.inj hc
              exact pr (congrArg (fun u : TEv => u.2.1) hc) (congrArg Prod.fst hc)
        · exact absurd f1' k1
      · have f1' : ¬ c'.1 / 4 ∈ (ftP y).map Prod.fst := by rw [← hr]; exact f1
        rcases pk_cs w h' with ⟨k1, -⟩ | ⟨-, f2', f3', z', hz', f4', f5', f6'⟩
        · exact absurd k1 f1'
        · have ez : z = z' := (ou_P w).2 z hz z' hz' (by rw [f4, f4', hr])
          subst ez
          have hd : hdR Q = hdR Q' := par_uq ((tl_P w) z hz).2.1 f5 (by rw [hr]; exact f5')
          rcases f6 with ⟨g1, g2, g3⟩ | ⟨g1, g2, g3, -, -⟩ | ⟨g1, g2, -⟩
          · have g2' : c'.1 / 4 ∈ lpP y := by rw [← hr]; exact g2
            rcases g3 with ⟨g3, g4⟩ | ⟨g3, g4⟩
            · have g3' : c'.1 % 4 = 0 := by rw [← hr]; exact g3
              by_cases h0 : c.2 = 0
              · rw [cs_0 f1 g2 g3 h0] at hc
                by_cases h0' : c'.2 = 0
                · rw [cs_0 f1' g2' g3' h0'] at hc
                  exact pr (by rw [h0, h0']) (ih Q' f3 f3' zt zt' hc hd)
                · rw [cs_i f1' g2' g3' h0', ← f4'] at hc
                  exact absurd hc (cs_no w f3 hz g1 g4)
              · rw [cs_i f1 g2 g3 h0] at hc
                by_cases h0' : c'.2 = 0
                · rw [cs_0 f1' g2' g3' h0', ← f4] at hc
                  exact absurd hc.symm (cs_no w f3' hz g1 (hd.symm.trans g4))
                · rw [cs_i f1' g2' g3' h0'] at hc
                  have hc := Option.some.inj hc
                  have q1 : c.2 - 1 = c'.2 - 1 := congrArg (fun u : TEv => u.2.2) hc
                  exact pr (by omega) (congrArg Prod.fst hc)
            · have n4 : c.1 % 4 ≠ 0 := by omega
              rw [cs_n f1 g2 n4, cs_n f1' g2' (by omega)] at hc
              have hc := Option.some.inj hc
              have q1 : Q.tail = Q'.tail := congrArg Prod.fst hc
              have q2 : (Q.headD (0, 0)).2 = (Q'.headD (0, 0)).2 := congrArg (fun u : TEv => u.2.2) hc
              refine pr (z2 (fun q => ?_)) ?_
              · rcases q with q | q | q
                · exact f1 q
                · exact n4 q.2
                · have := tb_no w hz (lp_tbK ((tl_P w) z hz).2.1 g1)
                  exact this (by rw [f4]; exact q)
              · cases Q with
                | nil => exact absurd rfl f2
                | cons a Q =>
                  cases Q' with
                  | nil => exact absurd rfl f2'
                  | cons a' Q' =>
                    obtain ⟨u1, u2⟩ := a
                    obtain ⟨u1', u2'⟩ := a'
                    have hd : u1 = u1' := hd
                    have q2 : u2 = u2' := q2
                    have q1 : Q = Q' := q1
                    rw [hd, q2, q1]
          · rw [cs_t f1 g1 g2, cs_t f1' (by rw [← hr]; exact g1) (by rw [← hr]; exact g2)] at hc
            have hc := Option.some.inj hc
            have q1 : c.2 + 1 = c'.2 + 1 := congrArg (fun u : TEv => u.2.2) hc
            exact pr (by omega) (congrArg Prod.fst hc)
          · rw [cs_b f1 g1 g2, cs_b f1' (by rw [← hr]; exact g1) (by rw [← hr]; exact g2)] at hc
            have hc := Option.some.inj hc
            refine pr (z2 (fun q => ?_)) (congrArg Prod.fst hc)
            rcases q with q | q | q
            · exact f1 q
            · exact g1 q.1
            · exact g2 q
/-- the cause of what is entered has happened -/
theorem cs_H (w : PW K y 0 e) (A : AB K V y q0 ar En cv vr mv Aw WV WC R H fl) : ∀ P, En P → ∀ ev, csP y P = some ev → ev ∈ H := by
  intro P
  induction P with
  | nil => intro h; exact absurd (A.1.2.1 _ h).1 id
  | cons c Q ih =>
    intro hE ev hc
    obtain ⟨hP, hZ⟩ := A.1.2.1 _ hE
    have z2 : ¬ ifr y c.1 → c.2 = 0 := fun q => hZ c List.mem_cons_self q
    rcases pk_cs w hP with ⟨f1, f2, f3⟩ | ⟨f1, f2, f3, z, hz, f4, f5, f6⟩
    · rcases f3 with ⟨g1, g2⟩ | ⟨g1, -, g2⟩
      · rw [g1, cs_r f1] at hc
        cases hc
      · rw [cs_f f1 g1] at hc
        cases hc
        have hEQ := A.1.2.2.1 c Q hE g1
        obtain ⟨as, γ, i, q, cnt, x, u1, u2, u3, u4⟩ := g2
        have hqa := A.2.2.2.2.1 Q _ hEQ u1 rfl
        obtain ⟨c1, c2⟩ := c
        have u4 : c1 = 4 * q := u4
        subst u4
        exact (hqa.2 i q cnt x u2 u3).1 hE
    · have hEQ := A.1.2.2.1 c Q hE f2
      obtain ⟨c1, c2⟩ := c
      have f4 : otk z.1 = c1 / 4 := f4
      rcases f6 with ⟨g1, g2, g3⟩ | ⟨g1, g2, g3, g4, g5⟩ | ⟨g1, g2, g3, g4, a, b, d, g5⟩
      · have hs := ((tl_P w) z hz).2.1
        obtain ⟨x, γ, r⟩ := z
        have hs : shp x := hs
        have g1 : lpK x = true := g1
        obtain ⟨j, fs, d, ns, g, rfl⟩ : ∃ j fs d ns g, x = .tag 7 (.tag j (.append fs (.append d (.append ns g)))) := by
          rcases hs with ⟨j, rfl⟩ | ⟨j, rfl⟩ | ⟨j, rfl⟩ | ⟨j, as, rfl⟩ | ⟨j, a, b, rfl⟩ | ⟨j, a, b, c, rfl⟩ | ⟨j, fs, c, ns, g, rfl⟩ | ⟨j, a, rfl⟩ | ⟨j, a, b, rfl⟩ | ⟨j, a, b, rfl⟩ | ⟨j, a, b, rfl⟩ | ⟨j, a, rfl⟩
          · cases g1
          · cases g1
          · cases g1
          · cases g1
          · cases g1
          · cases g1
          · exact ⟨j, fs, c, ns, g, rfl⟩
          · cases g1
          · cases g1
          · cases g1
          · cases g1
          · cases g1
        have f4 : j = c1 / 4 := f4
        rcases g3 with ⟨g3, g4⟩ | ⟨g3, g4⟩
        · have g3 : c1 % 4 = 0 := g3
          have e1 : c1 = 4 * j := by omega
          by_cases h0 : c2 = 0
          · rw [cs_0 f1 g2 g3 h0] at hc
            exact ih hEQ ev hc
          · rw [cs_i f1 g2 g3 h0] at hc
            cases hc
            have hqa := A.2.2.2.2.1 Q _ hEQ hz g4.symm
            have := (hqa.2.2.1 (c2 - 1) (.inl (by rw [show c2 - 1 + 1 = c2 by omega, ← e1]; exact hE))).1
            show (Q, c1 / 4, c2 - 1) ∈ H
            rw [← f4]
            exact this
        · have g3 : c1 = 4 * (c1 / 4) + 1 ∨ c1 = 4 * (c1 / 4) + 2 := g3
          have g4 : hdR Q = 4 * (c1 / 4) := g4
          rw [cs_n f1 g2 (by show c1 % 4 ≠ 0; omega)] at hc
          cases hc
          have hc2 : c2 = 0 := z2 (fun q => by
            rcases q with q | q | q
            · exact f1 q
            · have : c1 % 4 = 0 := q.2
              omega
            · have q : c1 / 4 ∈ tbP y := q
              rw [← f4] at q
              exact tb_no w hz rfl q)
          cases Q with
          | nil => exact absurd rfl f2
          | cons d1 Q =>
            obtain ⟨u1, u2⟩ := d1
            have g4 : u1 = 4 * (c1 / 4) := g4
            have hEn : ∀ z', z' ∈ scP y → otk z'.1 = u1 / 4 → z' = (.tag 7 (.tag j (.append fs (.append d (.append ns g)))), γ, r) := fun z' q1 q2 => (ou_P w).2 z' q1 _ hz (by rw [q2]; show u1 / 4 = j; omega)
            have nf : ¬ u1 / 4 ∈ (ftP y).map Prod.fst := by rw [show u1 / 4 = c1 / 4 by omega]; exact f1
            rcases pk_cs w f3 with ⟨v1, -⟩ | ⟨-, v2, v3, z', hz', v4, v5, v6⟩
            · exact absurd v1 nf
            · have ez := hEn z' hz' v4
              subst ez
              have hr' : hdR Q = r := by
                rcases v5 with ⟨-, v5⟩ | ⟨v5, -⟩
                · exact v5
                · have v5 : u1 = 4 * j + 1 ∨ u1 = 4 * j + 2 := v5
                  omega
              have hEQ' := A.1.2.2.1 _ Q hEQ v2
              have hqa := A.2.2.2.2.1 Q _ hEQ' hz hr'.symm
              show (Q, c1 / 4, u2) ∈ H
              have eu : u1 = 4 * j := by omega
              subst eu
              subst hc2
              rw [← f4]
              rcases g3 with g3 | g3
              · have e1 : c1 = 4 * j + 1 := by omega
                subst e1
                exact (hqa.2.2.1 u2 (.inr hE)).1
              · have e1 : c1 = 4 * j + 2 := by omega
                subst e1
                exact (hqa.2.2.2.1 u2 hE).1
      · have hs := ((tl_P w) z hz).2.1
        obtain ⟨x, γ, r⟩ := z
        have hs : shp x := hs
        have g4 : tbK x = true := g4
        rw [cs_t f1 g1 g2] at hc
        cases hc
        have hqa := A.2.2.2.2.1 Q _ hEQ hz g5.symm
        rcases hs with ⟨j, rfl⟩ | ⟨j, rfl⟩ | ⟨j, rfl⟩ | ⟨j, as, rfl⟩ | ⟨j, a, b, rfl⟩ | ⟨j, a, b, c, rfl⟩ | ⟨j, fs, c, ns, g, rfl⟩ | ⟨j, a, rfl⟩ | ⟨j, a, b, rfl⟩ | ⟨j, a, b, rfl⟩ | ⟨j, a, b, rfl⟩ | ⟨j, a, rfl⟩
        · cases g4
        · cases g4
        · cases g4
        · cases g4
        · cases g4
        · cases g4
        · cases g4
        · cases g4
        · cases g4
        · cases g4
        · have f4 : j = c1 / 4 := f4
          have g3 : c1 % 4 = 0 := g3
          have e1 : c1 = 4 * j := by omega
          have := (hqa.2.2.2.2.1 c2 (by rw [← e1]; exact hE)).1
          show (Q, c1 / 4, c2 + 1) ∈ H
          rw [← f4]
          exact this
        · cases g4
      · obtain ⟨x, γ, r⟩ := z
        have g5 : x = .tag 6 (.tag (c1 / 4) (.append a (.append b d))) := g5
        subst g5
        rw [cs_b f1 g1 g2] at hc
        cases hc
        have hc2 : c2 = 0 := z2 (fun q => by
          rcases q with q | q | q
          · exact f1 q
          · exact g1 q.1
          · exact g2 q)
        subst hc2
        have hqa := A.2.2.2.2.1 Q _ hEQ hz g4.symm
        have g3 : c1 = 4 * (c1 / 4) ∨ c1 = 4 * (c1 / 4) + 1 := g3
        rcases g3 with g3 | g3
        · exact (hqa.2.2.1 (by rw [← g3]; exact hE)).1
        · exact (hqa.2.2.2.1 (by rw [← g3]; exact hE)).1
end CSP
