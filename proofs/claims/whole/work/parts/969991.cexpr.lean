/-! the class's parser: an X -/
section CXX
variable {K pl : Nat → Nat} {V : Nat → Int64} {m fu : Nat} {Q : Int32 → im_S → Prop} {S : im_S} {N M L : Nat → Nat} {pos dep sz n ρ τ f k R : Nat} {γ : List Nat}
theorem k_loop (T : TH K pl V m) (hfu : 600 ≤ fu) {Rr : Nat → PR} {p0 : Nat} (hRr : HXc K pl V m fu Rr dep p0) (hW : WR K Rr) (hB : Bg K pl V m S N M L pos dep sz γ n ρ τ f k R) (hd : S.1 3 7 = 0) (hdep : dep < 20) (hk10 : 10 ≤ k) (hk9 : K pos = 9) (hp0 : p0 ≤ pos + 1) {q : Nat} (hq : m < q + (pos + 1)) :
    (∀ e, pLoop K Rr q pos = (e, none) → Rf pl e Q → Lp m fu pos S Q) ∧ ∀ e x, pLoop K Rr q pos = (e, some x) → Kx K pl V m S N M L pos dep sz γ n ρ τ f R e x (fun S' => FZ K m fu e sz S' Q) → Lp m fu pos S Q := by
  obtain ⟨hp, A, N3, M3, L3, hop, hO⟩ := c_loopO (fu := fu) T hB hd hdep hk9
  obtain ⟨C, hTp, hR, hpos⟩ := hB
  have hγ : ∀ b, b ∈ γ → b < pos := fun b hb => (C.2.1.2.2.2.2 b hb).1
  have hgo : Lp m fu (pos + 1) A Q → Lp m fu pos S Q := fun h => Lp_op (d := 0) hd (by omega) hop (by omega) (by omega) h
  obtain ⟨hN1, hS1⟩ := k_loop1 (Q := Q) T hfu hRr hW hR hTp hO hp0 hq
  unfold pLoop pw
  rcases hr1 : pB K Rr q 4 0 (pos + 1) with ⟨b, _ | fs⟩
  · rw [pbd_none rfl]
    refine ⟨fun e he hRf => ?_, (fun e y he => by cases he)⟩
    cases he
    exact hgo (hN1 b hr1 hRf)
  rw [pbd_some rfl]
  have wfs := pB_LW hW _ _ _ _ _ _ hr1
  have wfs' := (pB_W hW _ _ _ _ _ _ hr1).2
  have wl := LW_lt wfs
  obtain ⟨t1, t2⟩ := hS1 b fs hr1
  by_cases h10 : ¬ K b = 10
  · rw [if_neg h10]
    refine ⟨fun e he hRf => ?_, (fun e y he => by cases he)⟩
    cases he
    exact hgo (t1 h10 hRf)
  have h10 : K b = 10 := Decidable.not_not.mp h10
  rw [if_pos h10]
  have k2 := fun (D : im_S) (N1 M1 L1 : Nat → Nat) (n1 ρ1 τ1 : Nat) (B : im_S) (hLB : LoB K pl V m S pos dep sz γ n ρ τ f R A N3 M3 L3 D N1 M1 L1 n1 ρ1 τ1 b fs B) => k_loop2 (Q := Q) T hfu hRr hW hTp.1 (by omega) hLB hp0
  rcases hr2 : Rr (b + 1) with ⟨c, _ | x⟩
  · rw [pbd_none rfl]
    refine ⟨fun e he hRf => ?_, (fun e y he => by cases he)⟩
    cases he
    exact hgo (t2 h10 (fun D N1 M1 L1 n1 ρ1 τ1 B hLB => (k2 D N1 M1 L1 n1 ρ1 τ1 B hLB).1 c hr2 hRf))
  rw [pbd_some rfl]
  obtain ⟨wx, -⟩ := hW _ _ _ hr2
  have hxp := Wt_lt wx
  by_cases h11 : ¬ K c = 11
  · rw [if_neg h11]
    refine ⟨fun e he hRf => ?_, (fun e y he => by cases he)⟩
    cases he
    exact hgo (t2 h10 (fun D N1 M1 L1 n1 ρ1 τ1 B hLB => ((k2 D N1 M1 L1 n1 ρ1 τ1 B hLB).2 c x hr2).1 h11 hRf))
  have h11 : K c = 11 := Decidable.not_not.mp h11
  rw [if_pos h11]
  obtain ⟨f2, hf2⟩ : ∃ f2, eqN f2 (min (min (min f (pfc K pl V fs γ 102 [] [])) (pfc K pl V x (bnd fs γ) 0 [] [])) (ckX K pl V x 2)) := ⟨_, eqN_r _⟩
  have t3 : (∀ (D : im_S) (N1 M1 L1 : Nat → Nat) (n1 ρ1 τ1 : Nat) (B S' : im_S) (N' M' L' : Nat → Nat) (n' ρ' τ' kc : Nat) (D2 : im_S), LoD K pl V m S pos dep sz γ n ρ τ f R A N3 M3 L3 D N1 M1 L1 n1 ρ1 τ1 b fs B S' N' M' L' n' ρ' τ' c kc x D2 → Lp m fu (c + 1) D2 Q) → Lp m fu pos S Q := fun h => hgo (t2 h10 (fun D N1 M1 L1 n1 ρ1 τ1 B hLB => ((k2 D N1 M1 L1 n1 ρ1 τ1 B hLB).2 c x hr2).2 h11 (fun S' N' M' L' n' ρ' τ' kc D2 hLD => h D N1 M1 L1 n1 ρ1 τ1 B S' N' M' L' n' ρ' τ' kc D2 hLD)))
  have k3 := fun (D : im_S) (N1 M1 L1 : Nat → Nat) (n1 ρ1 τ1 : Nat) (B S' : im_S) (N' M' L' : Nat → Nat) (n' ρ' τ' kc : Nat) (D2 : im_S) (hLD : LoD K pl V m S pos dep sz γ n ρ τ f R A N3 M3 L3 D N1 M1 L1 n1 ρ1 τ1 b fs B S' N' M' L' n' ρ' τ' c kc x D2) => k_loop3 (Q := Q) T hfu hRr hW hR hTp hO wfs (by omega) hLD hp0 hq hf2
  rcases hr3 : pB K Rr q 1000 0 (c + 1) with ⟨d, _ | ns⟩
  · rw [pbd_none rfl]
    refine ⟨fun e he hRf => ?_, (fun e y he => by cases he)⟩
    cases he
    exact t3 (fun D N1 M1 L1 n1 ρ1 τ1 B S' N' M' L' n' ρ' τ' kc D2 hLD => (k3 D N1 M1 L1 n1 ρ1 τ1 B S' N' M' L' n' ρ' τ' kc D2 hLD).1 d hr3 hRf)
  rw [pbd_some rfl]
  have wns := pB_LW hW _ _ _ _ _ _ hr3
  have wns' := (pB_W hW _ _ _ _ _ _ hr3).2
  by_cases h12 : ¬ K d = 12
  · rw [if_neg h12]
    refine ⟨fun e he hRf => ?_, (fun e y he => by cases he)⟩
    cases he
    exact t3 (fun D N1 M1 L1 n1 ρ1 τ1 B S' N' M' L' n' ρ' τ' kc D2 hLD => ((k3 D N1 M1 L1 n1 ρ1 τ1 B S' N' M' L' n' ρ' τ' kc D2 hLD).2 d ns hr3).1 h12 hRf)
  have h12 : K d = 12 := Decidable.not_not.mp h12
  rw [if_pos h12]
  rcases hr4 : Rr (d + 1) with ⟨e4, _ | g⟩
  · rw [pbd_none rfl]
    refine ⟨fun e he hRf => ?_, (fun e y he => by cases he)⟩
    cases he
    exact t3 (fun D N1 M1 L1 n1 ρ1 τ1 B S' N' M' L' n' ρ' τ' kc D2 hLD => ((k3 D N1 M1 L1 n1 ρ1 τ1 B S' N' M' L' n' ρ' τ' kc D2 hLD).2 d ns hr3).2 h12 (fun D3 N5 M5 L5 n5 ρ5 τ5 kv B4 hLG => (k_loop4 (Q := Q) T hfu hRr hW hR hTp hk10 hγ hO wfs wfs' wx hLD hf2 wns wns' hLG hp0).1 e4 hr4 hRf))
  rw [pbd_some rfl]
  refine ⟨(fun e he => by cases he), fun e z he hK => ?_⟩
  cases he
  exact t3 (fun D N1 M1 L1 n1 ρ1 τ1 B S' N' M' L' n' ρ' τ' kc D2 hLD => ((k3 D N1 M1 L1 n1 ρ1 τ1 B S' N' M' L' n' ρ' τ' kc D2 hLD).2 d ns hr3).2 h12 (fun D3 N5 M5 L5 n5 ρ5 τ5 kv B4 hLG => (k_loop4 (Q := Q) T hfu hRr hW hR hTp hk10 hγ hO wfs wfs' wx hLD hf2 wns wns' hLG hp0).2 e4 g hr4 hK))
/-- behind an atom -/
theorem cel_AC (T : TH K pl V m) (hfu : 600 ≤ fu) {R1 : Nat → PR} {p0 : Nat} (hR1 : HXc K pl V m fu R1 (dep + 1) p0) (hW1 : WR K R1) (hB : Bg K pl V m S N M L pos dep sz γ n ρ τ f k R) {q : Nat} {x : TR} {S1 : im_S} {N1 M1 L1 : Nat → Nat} {n1 ρ1 τ1 b : Nat} (hp0 : p0 ≤ b + 1) (hq : m < q + b) (wx : Wt K x pos b 0) (P : PX K pl V m S N M L pos dep sz γ n ρ τ f R S1 N1 M1 L1 n1 ρ1 τ1 b x) :
    (∀ e, pCel K R1 q x b = (e, none) → Rf pl e Q → AC K m fu b sz Q S1) ∧ ∀ e y, pCel K R1 q x b = (e, some y) → Kx K pl V m S N M L pos dep sz γ n ρ τ f R e y (fun S' => Fl K m fu e sz true S' Q) → AC K m fu b sz Q S1 := by
  obtain ⟨C, hTp, hR, hpos⟩ := hB
  have hbm := P.1.1.pm
  obtain ⟨q, rfl⟩ : ∃ z, q = z + 1 := ⟨q - 1, by omega⟩
  refine ⟨fun e he hRf => ⟨fun hd2 => ?_, fun h91 => ?_⟩, fun e y he hK => ⟨fun hd2 => ?_, fun h91 => ?_⟩⟩
  · exact (k_cells (Q := Q) T hfu hR1 hW1 C.2.1 hTp hR hpos (q + 1) x S1 N1 M1 L1 n1 ρ1 τ1 b hp0 hq wx P hd2).1 e he hRf
  · rw [pCel, if_neg h91] at he
    cases he
  · exact (k_cells (Q := Q) T hfu hR1 hW1 C.2.1 hTp hR hpos (q + 1) x S1 N1 M1 L1 n1 ρ1 τ1 b hp0 hq wx P hd2).2 e y he hK
  · rw [pCel, if_neg h91] at he
    cases he
    exact hK _ _ _ _ _ _ _ P
/-- an atom -/
theorem k_atom (T : TH K pl V m) (hfu : 600 ≤ fu) {Rr R1 : Nat → PR} {p0 d : Nat} (hRr : HXc K pl V m fu Rr dep p0) (hR1 : HXc K pl V m fu R1 (dep + 1) p0) (hW : WR K Rr) (hW1 : WR K R1) (hB : Bg K pl V m S N M L pos dep sz γ n ρ τ f k R) (hd : S.1 3 7 = nI d) (hd1 : d ≤ 1) (hdep : d = 0 → dep < 20 ∧ K pos ≠ 4 ∧ K pos ≠ 6 ∧ K pos ≠ 9) (h33 : K pos ≠ 33) (h40 : K pos ≠ 40) (h45 : K pos ≠ 45) (hp0 : p0 ≤ pos + 1) {q : Nat} (hq : m < q + (pos + 2)) :
    (∀ e, pAtom K Rr R1 q pos = (e, none) → Rf pl e Q → Lp m fu pos S Q) ∧ ∀ e x, pAtom K Rr R1 q pos = (e, some x) → Kx K pl V m S N M L pos dep sz γ n ρ τ f R e x (AC K m fu e sz Q) → Lp m fu pos S Q := by
  have C := hB.1
  have hpm := C.1.pm
  have hdep' : d = 0 → dep < 20 := fun z => (hdep z).1
  have e0 : dueF fu d S = f_X7_operand fu S := by
    unfold dueF
    rw [if_neg (by omega), if_neg (by omega), if_neg (by omega)]
  unfold pAtom
  by_cases h2 : K pos = 2
  · rw [if_pos h2]
    refine ⟨(fun e he => by cases he), fun e x he hK => ?_⟩
    cases he
    have hp := K_lt T.end_ hpm h2 (by decide) (by decide)
    obtain ⟨S1, s1, s2, s3⟩ := k_const T hB hp 1 (V pos) (x := aNum pos) rfl rfl rfl rfl rfl rfl (fun S' N' M' L' h => h)
    have hop : dueF fu d S = some (1, S1) := by
      rw [e0, op_2 T C.1 hd hd1 hdep' h2, show (1 : Int32) = nI 1 from rfl, s1]; rfl
    exact Lp_op hd (by omega) hop (by omega) (by omega) ((hK _ _ _ _ _ _ _ s3).1 s2)
  rw [if_neg h2]
  by_cases h15 : K pos = 15 ∨ K pos = 16
  · rw [if_pos h15]
    refine ⟨(fun e he => by cases he), fun e x he hK => ?_⟩
    cases he
    rcases h15 with h15 | h15
    · have hp := K_lt T.end_ hpm h15 (by decide) (by decide)
      obtain ⟨S1, s1, s2, s3⟩ := k_const T hB hp 2 1 (x := aTru pos) rfl rfl rfl rfl rfl rfl (fun S' N' M' L' h => by show nd pl S' N' 1 2 (if K pos = 15 then 1 else 0) pos R; rw [if_pos h15]; exact h)
      have hop : dueF fu d S = some (1, S1) := by
        rw [e0, op_15 T C.1 hd hd1 hdep' h15, show (2 : Int32) = nI 2 from rfl, s1]; rfl
      exact Lp_op hd (by omega) hop (by omega) (by omega) ((hK _ _ _ _ _ _ _ s3).1 s2)
    · have hp := K_lt T.end_ hpm h15 (by decide) (by decide)
      obtain ⟨S1, s1, s2, s3⟩ := k_const T hB hp 2 0 (x := aTru pos) rfl rfl rfl rfl rfl rfl (fun S' N' M' L' h => by show nd pl S' N' 1 2 (if K pos = 15 then 1 else 0) pos R; rw [if_neg (by omega)]; exact h)
      have hop : dueF fu d S = some (1, S1) := by
        rw [e0, op_16 T C.1 hd hd1 hdep' h15, show (2 : Int32) = nI 2 from rfl, s1]; rfl
      exact Lp_op hd (by omega) hop (by omega) (by omega) ((hK _ _ _ _ _ _ _ s3).1 s2)
  rw [if_neg h15]
  by_cases h13 : K pos = 13
  · rw [if_pos h13]
    exact k_tab T hfu hRr hR1 hW hW1 hB hd hd1 hdep' h13 hp0
  rw [if_neg h13]
  by_cases h1 : K pos = 1
  · rw [if_pos h1]
    have hp := K_lt T.end_ hpm h1 (by decide) (by decide)
    by_cases hk40 : K (pos + 1) = 40
    · rw [if_pos hk40]
      obtain ⟨c1, c2⟩ := k_call (Q := Q) T hfu hR1 hW1 hB hd hd1 hdep' h1 hk40 (by omega) hq
      by_cases hk41 : K (pos + 2) = 41
      · rw [if_pos hk41]
        refine ⟨(fun e he => by cases he), fun e x he hK => ?_⟩
        cases he
        exact c1 hk41 hK
      · rw [if_neg hk41]
        obtain ⟨c3, c4⟩ := c2 hk41
        rcases hr : pC K R1 q 0 (pos + 2) with ⟨b, _ | as⟩
        · rw [pbd_none rfl]
          refine ⟨fun e he hRf => ?_, (fun e y he => by cases he)⟩
          cases he
          exact c3 b hr hRf
        · rw [pbd_some rfl]
          unfold pw
          by_cases hb41 : K b = 41
          · rw [if_pos hb41]
            refine ⟨(fun e he => by cases he), fun e x he hK => ?_⟩
            cases he
            exact (c4 b as hr).2 hb41 hK
          · rw [if_neg hb41]
            refine ⟨fun e he hRf => ?_, (fun e y he => by cases he)⟩
            cases he
            exact (c4 b as hr).1 hb41 hRf
    · rw [if_neg hk40]
      refine ⟨(fun e he => by cases he), fun e x he hK => ?_⟩
      cases he
      obtain ⟨S1, s1, s2, s3⟩ := k_use T hB hp hfu h1
      have hop : dueF fu d S = some (1, S1) := by
        rw [e0, op_use T C.1 hd hd1 hdep' h1 hp hk40, s1]; rfl
      exact Lp_op hd (by omega) hop (by omega) (by omega) ((hK _ _ _ _ _ _ _ s3).1 s2)
  rw [if_neg h1]
  refine ⟨fun e he hRf => ?_, (fun e y he => by cases he)⟩
  cases he
  have hop : dueF fu d S = some (0, rcS S (pl pos)) := by
    rw [e0]
    exact op_refuse T C.1 hd hd1 hdep' h1 h2 (fun z => (hdep z).2.1) (fun z => (hdep z).2.2.1) (fun z => (hdep z).2.2.2) h13 (fun z => h15 (Or.inl z)) (fun z => h15 (Or.inr z)) h33 h40 h45
  exact Lp_rf hd (by omega) hop hpm (Rf_rc hRf)
/-- an operand: signs ahead, brackets, atoms, cells -/
theorem k_ah (T : TH K pl V m) (hfu : 600 ≤ fu) {Rr R1 : Nat → PR} {p0 : Nat} (hRr : HXc K pl V m fu Rr dep p0) (hR1 : HXc K pl V m fu R1 (dep + 1) p0) (hW : WR K Rr) (hW1 : WR K R1) : ∀ (q p d0 : Nat), p0 ≤ p + 1 → m + 2 ≤ q + p → d0 ≤ 1 → (d0 = 0 → dep < 20 ∧ K p ≠ 4 ∧ K p ≠ 6 ∧ K p ≠ 9) → HOp K pl V m fu dep p d0 (pAh K Rr R1 q p) := by
  intro q
  induction q with
  | zero =>
    intro p d0 _ hq _ _ S N M L sz γ n ρ τ f k R Q hB
    have := hB.1.1.pm
    omega
  | succ q ih =>
    intro p d0 hp0 hq hd1 hdep S N M L sz γ n ρ τ f k R Q hB hd
    have hpm := hB.1.1.pm
    rw [pAh]
    by_cases h45 : K p = 45 ∨ K p = 33
    · rw [if_pos h45]
      have hp : p < m := by
        rcases h45 with z | z
        · exact K_lt T.end_ hpm z (by decide) (by decide)
        · exact K_lt T.end_ hpm z (by decide) (by decide)
      have hI := ih (p + 1) 1 (by omega) (by omega) (by omega) (fun z => absurd z (by omega))
      obtain ⟨c1, c2⟩ := k_sig (Q := Q) T hfu hI (fun b x h => (pAh_W hW hW1 _ _ _ _ h).1) hB hd hd1 (fun z => (hdep z).1) h45
      rcases hr : pAh K Rr R1 q (p + 1) with ⟨b, _ | x⟩
      · rw [pbd_none rfl]
        refine ⟨fun e he hRf => ?_, (fun e y he => by cases he)⟩
        cases he
        exact c1 b hr hRf
      · rw [pbd_some rfl]
        refine ⟨(fun e he => by cases he), fun e y he hK => ?_⟩
        cases he
        exact c2 b x hr hK
    rw [if_neg h45]
    by_cases h40 : K p = 40
    · rw [if_pos h40]
      have hp := K_lt T.end_ hpm h40 (by decide) (by decide)
      obtain ⟨c1, c2⟩ := k_brk (Q := Q) T hfu hR1 hW1 hB hd hd1 (fun z => (hdep z).1) h40 hp0
      rcases hr : R1 (p + 1) with ⟨b, _ | x⟩
      · rw [pbd_none rfl]
        refine ⟨fun e he hRf => ?_, (fun e y he => by cases he)⟩
        cases he
        exact c1 b hr hRf
      rw [pbd_some rfl]
      obtain ⟨wx, -⟩ := hW1 _ _ _ hr
      have hlt := Wt_lt wx
      obtain ⟨c3, c4⟩ := c2 b x hr
      unfold pw
      by_cases h41 : ¬ K b = 41
      · rw [if_neg h41]
        refine ⟨fun e he hRf => ?_, (fun e y he => by cases he)⟩
        cases he
        exact c3 h41 hRf
      have h41 : K b = 41 := Decidable.not_not.mp h41
      rw [if_pos h41]
      have wb : Wt K (aBrk p x) p (b + 1) 0 := ⟨rfl, b, wx, rfl⟩
      refine ⟨fun e he hRf => c4 h41 (fun S' N' M' L' n' ρ' τ' P' => ?_), fun e y he hK => c4 h41 (fun S' N' M' L' n' ρ' τ' P' => ?_)⟩
      · exact (cel_AC (Q := Q) T hfu hR1 hW1 hB (by omega) (by omega) wb P').1 e he hRf
      · exact (cel_AC (Q := Q) T hfu hR1 hW1 hB (by omega) (by omega) wb P').2 e y he hK
    rw [if_neg h40]
    obtain ⟨c1, c2⟩ := k_atom (Q := Q) (q := q) T hfu hRr hR1 hW hW1 hB hd hd1 hdep (fun z => h45 (Or.inr z)) h40 (fun z => h45 (Or.inl z)) hp0 (by omega)
    rcases hr : pAtom K Rr R1 q p with ⟨b, _ | x⟩
    · rw [pbd_none rfl]
      refine ⟨fun e he hRf => ?_, (fun e y he => by cases he)⟩
      cases he
      exact c1 b hr hRf
    rw [pbd_some rfl]
    have wx := pAtom_W hW hW1 hr
    have hlt := Wt_lt wx
    refine ⟨fun e he hRf => c2 b x hr (fun S' N' M' L' n' ρ' τ' P' => ?_), fun e y he hK => c2 b x hr (fun S' N' M' L' n' ρ' τ' P' => ?_)⟩
    · exact (cel_AC (Q := Q) T hfu hR1 hW1 hB (by omega) (by omega) wx P').1 e he hRf
    · exact (cel_AC (Q := Q) T hfu hR1 hW1 hB (by omega) (by omega) wx P').2 e y he hK
/-- the class reads an X as the grammar says -/
theorem k_X (T : TH K pl V m) (hfu : 600 ≤ fu) : ∀ (q dep p0 : Nat), dep < 2 ^ 31 → 3 * m + 4 ≤ q + 3 * p0 → HXc K pl V m fu (pX K q dep) dep p0 := by
  intro q
  induction q with
  | zero =>
    intro dep p0 _ hq S N M L pos sz γ n ρ τ f k R Q hp hB
    have := hB.1.1.pm
    omega
  | succ q ih =>
    intro dep p0 hdl hq S N M L pos sz γ n ρ τ f k R Q hp hB hd hk
    have hpm := hB.1.1.pm
    have hTp := hB.2.1
    rw [pX]
    by_cases h20 : 20 ≤ dep
    · rw [if_pos h20]
      refine ⟨fun e he hRf => ?_, (fun e y he => by cases he)⟩
      cases he
      exact Lp_rf (d := 0) hd (by omega) (by rw [due0]; exact op_deep T hB.1.1 hd h20 hdl) hpm (Rf_rc hRf)
    rw [if_neg h20]
    have hX := ih dep (pos + 1) (by omega) (by omega)
    have hX1 := ih (dep + 1) (pos + 1) (by omega) (by omega)
    have hW := pX_W K q dep
    have hW1 := pX_W K q (dep + 1)
    by_cases h4 : K pos = 4
    · rw [if_pos h4]
      exact k_let T hfu hX hW hB hd (by omega) hk h4 (Nat.le_refl _)
    rw [if_neg h4]
    by_cases h6 : K pos = 6
    · rw [if_pos h6]
      exact k_if T hfu hX hW hB hd (by omega) hk h6 (Nat.le_refl _)
    rw [if_neg h6]
    by_cases h9 : K pos = 9
    · rw [if_pos h9]
      exact k_loop T hfu hX hW hB hd (by omega) hk h9 (Nat.le_refl _) (by omega)
    rw [if_neg h9]
    obtain ⟨c1, c2⟩ := (k_signs (p0 := pos) T hfu hW hW1 (fun q' p d0 h1 h2 h3 h4' => k_ah T hfu hX hX1 hW hW1 q' p d0 (by omega) h2 h3 h4') q).1 S N M L 1 pos 0 sz γ n ρ τ f k R Q (Nat.le_refl _) (by omega) (by omega) (by omega) (fun _ => ⟨by omega, h4, h6, h9⟩) hB hd (by omega)
    refine ⟨c1, fun e x he hK => c2 e x he (fun S' N' M' L' n' ρ' τ' P' => ⟨fun hs => ?_, fun _ => hK S' N' M' L' n' ρ' τ' P'⟩)⟩
    have hfz := hK S' N' M' L' n' ρ' τ' P'
    have E34 := P'.1.1.sz_
    have hTpE := Tp_Fr P'.1.2.2.2.2.2 hTp
    have q2 := hTpE.2.1
    have hbd := P'.1.1.bd
    have hm := T.m_
    have hpm' := P'.1.1.pm
    obtain ⟨sz', hsz'⟩ : ∃ z, sz = z + 1 := ⟨sz - 1, by have := hTp.1; omega⟩
    rw [hsz'] at E34 q2 hfz ⊢
    exact Fl_Z hfu E34 (by omega) q2 hTpE.2.2.1 (by omega) (Or.inr (by omega)) hfz
end CXX
