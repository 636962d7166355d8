/-! the class flows: until nothing moves and nothing is awake -/
/-- entered nodes, each once -/
def NLs (y : TR) (En : TPth → Prop) (l : List (TPth × Nat)) : Prop := l.Nodup ∧ ∀ P t, (P, t) ∈ l → En P ∧ ∃ z, NdA y P t z
/-- a use that was put to wait -/
def UW0 (V : Nat → Int64) (y : TR) (vr : TPth → Nat → Option TVal) (WV : TPth → Nat → TPth → Nat → Prop) (P : TPth) (t : Nat) : Prop := ∃ F b x γ r, (.tag 3 (.tag t x), γ, r) ∈ scP y ∧ fnd V γ t = some b ∧ VF V y P b F ∧ (WV F b P t ∨ vr F b ≠ none)
/-- a node that was visited for the last time -/
def UW1 (y : TR) (cv : TPth → Nat → Option TVal) (Aw : TPth → Nat → Prop) (WV WC : TPth → Nat → TPth → Nat → Prop) (P : TPth) (t : Nat) : Prop := ¬ AwW Aw WV WC P t ∧ ∀ x x' γ r, (.tag 10 (.tag t (.append x x')), γ, r) ∈ scP y → cv P (rtk x) ≠ none ∧ cv P (rtk x') ≠ none
/-- the node of every table has it -/
def TBv (cv : TPth → Nat → Option TVal) (mv : Option (TPth × Nat × TVal)) (tb : TPth → Nat → Option Nat) : Prop := ∀ P t m, tb P t = some m → ∃ v, Vm cv mv P t (3, v, P, t)
/-- an element that is ready finds its cell -/
def ERd (y : TR) (cv : TPth → Nat → Option TVal) (R : List TEv) : Prop := ∀ P t, (P, t, 0) ∈ R → CelV y cv P t
/-- what a flow leaves -/
def FLo (K : Nat → Nat) (V : Nat → Int64) (y : TR) (e : Nat) (N L : Nat → Nat) (G : im_S) (sl tO sO kO crt : Nat → Nat) (q0 : Nat) (ar : Nat → Int64) (o : Option (Unit × im_S)) (En : TPth → Prop) (H : List TEv) (tb : TPth → Nat → Option Nat) : Prop :=
  ∃ (S' : im_S) (En' : TPth → Prop) (cv' vr' : TPth → Nat → Option TVal) (Aw' : TPth → Nat → Prop) (WV' WC' : TPth → Nat → TPth → Nat → Prop) (R' : List TEv) (nS' nF' : Nat) (fb' : Nat → Nat) (fp' : Nat → TPth) (fi' : TPth → Nat) (tf' : TPth → Nat → Nat) (ow' si' fo' : Nat → Int32) (lw' : Nat → Int64), o = some ((), S') ∧ MI K V y e N L G sl tO sO kO crt q0 ar S' En' cv' vr' none Aw' WV' WC' R' H nS' nF' fb' fp' fi' tf' tb ow' si' fo' lw' ∧ (∀ P t, ¬ Aw' P t) ∧ CVS L sl nS' nF' fb' fp' tf' tb ∧ TBv cv' none tb ∧ ERd y cv' R' ∧ ∀ P, En P → En' P
section FLW
variable {K pl : Nat → Nat} {V : Nat → Int64} {y : TR} {e : Nat} {N M L : Nat → Nat} {n ρ τ : Nat} {G : im_S} {sl tO sO kO crt : Nat → Nat} {f : Nat} {W : Nat → Int32 × Int32 × Int32} {ν : Nat → Nat} {q0 : Nat} {ar : Nat → Int64} {S S2 : im_S} {En : TPth → Prop} {cv vr : TPth → Nat → Option TVal} {mv : Option (TPth × Nat × TVal)} {Aw : TPth → Nat → Prop} {WV WC : TPth → Nat → TPth → Nat → Prop} {R H : List TEv} {nS nF fu : Nat} {fb : Nat → Nat} {fp : Nat → TPth} {fi : TPth → Nat} {tf : TPth → Nat → Nat} {tb : TPth → Nat → Option Nat} {ow si fo : Nat → Int32} {lw : Nat → Int64} {P0 : TPth} {t0 : Nat}
theorem nd_mapQ {h : TPth × Nat → Nat} : ∀ l : List (TPth × Nat), l.Nodup → (∀ a, a ∈ l → ∀ b, b ∈ l → h a = h b → a = b) → (l.map h).Nodup := by
  intro l
  induction l with
  | nil => intro _ _; exact List.nodup_nil
  | cons a l ih =>
    intro hn hi
    obtain ⟨h1, h2⟩ := List.nodup_cons.mp hn
    rw [List.map_cons]
    refine List.nodup_cons.mpr ⟨fun q => ?_, ih h2 (fun a' q1 b' q2 q3 => hi a' (List.mem_cons_of_mem _ q1) b' (List.mem_cons_of_mem _ q2) q3)⟩
    obtain ⟨b, q1, q2⟩ := List.mem_map.mp q
    have := hi b (List.mem_cons_of_mem _ q1) a List.mem_cons_self q2
    rw [this] at q1
    exact h1 q1
theorem nls_len (X : XB K pl V y e N M L n ρ τ G sl tO sO kO crt f W ν) (h : MI K V y e N L G sl tO sO kO crt q0 ar S En cv vr mv Aw WV WC R H nS nF fb fp fi tf tb ow si fo lw) {l : List (TPth × Nat)} (hl : NLs y En l) : l.length ≤ 523264 := by
  obtain ⟨sow, hly⟩ := x_ly h.2.1
  have := nd_len (l.map (fun q => fb (fi (fpt y q.1)) + sO (N q.2))) nS (nd_mapQ l hl.1 (fun a qa b qb q => ?_)) (fun v q => ?_)
  · rw [List.length_map] at this
    exact Nat.le_trans this (x_len h.2.1).1
  · obtain ⟨P, t⟩ := a
    obtain ⟨P', t'⟩ := b
    obtain ⟨a1, z, z1, z2, z3, z4⟩ := hl.2 P t qa
    obtain ⟨b1, z', y1, y2, y3, y4⟩ := hl.2 P' t' qb
    have q : fb (fi (fpt y P)) + sO (N t) = fb (fi (fpt y P')) + sO (N t') := q
    rw [← z3, ← y3] at q
    obtain ⟨c1, c2⟩ := ly_nn X.1 X.2.1 hly (h.2.2.2.2.1 P a1) (h.2.2.2.2.1 P' b1) z1 z2 (z4.trans z3.symm) y1 y2 (y4.trans y3.symm) q
    rw [c1, ← z3, ← y3, c2]
  · obtain ⟨⟨P, t⟩, q1, q2⟩ := List.mem_map.mp q
    obtain ⟨a1, z, z1, z2, z3, z4⟩ := hl.2 P t q1
    have := (x_rn X.1 X.2.1 h.2.1 (h.2.2.2.2.1 P a1) z1 z2 (z4.trans z3.symm)).1
    rw [z3] at this
    rw [← q2]
    exact this
theorem nls_cn {l : List (TPth × Nat)} (hl : NLs y En l) (hn : ¬ (P0, t0) ∈ l) (h1 : En P0) (h2 : ∃ z, NdA y P0 t0 z) : NLs y En ((P0, t0) :: l) := by
  refine ⟨List.nodup_cons.mpr ⟨hn, hl.1⟩, fun P t q => ?_⟩
  rcases List.mem_cons.mp q with q | q
  · cases q
    exact ⟨h1, h2⟩
  · exact hl.2 P t q
theorem nls_mo {En' : TPth → Prop} {l : List (TPth × Nat)} (hl : NLs y En l) (h : ∀ P, En P → En' P) : NLs y En' l := ⟨hl.1, fun P t q => ⟨h P (hl.2 P t q).1, (hl.2 P t q).2⟩⟩
theorem cel_mv {a : TVal} (X : XB K pl V y e N M L n ρ τ G sl tO sO kO crt f W ν) (h : MI K V y e N L G sl tO sO kO crt q0 ar S En cv vr (some (P0, t0, a)) Aw WV WC R H nS nF fb fp fi tf tb ow si fo lw) {P : TPth} {t : Nat} (hv : (P, t, 0) ∈ R) (hc : CelV y cv P t) : CelV y (cvU cv P0 t0 a) P t := fun x x' γ r b b' q3 q4 q5 q6 q7 => by
  have hn := h.1.2.1.2.1 P0 t0 a rfl
  obtain ⟨hE, z, z1, z2, z3, z4⟩ := h.1.2.1.2.2.2.1 P t 0 (.inl hv)
  have e1 := (ou_P X.1.1).2 z z1 (.tag 10 (.tag t (.append x x')), γ, r) q3 z3
  rw [e1] at z2
  have hqa := h.1.2.2.2.2.1 P (.tag 10 (.tag t (.append x x')), γ, r) hE q3 z2
  obtain ⟨d, d', d1, d2⟩ := hqa.2.1 (.inl hv)
  rw [(cvU_i hn P (rtk x) d).mpr (.inl d1)] at q4
  rw [(cvU_i hn P (rtk x') d').mpr (.inl d2)] at q5
  cases q4
  cases q5
  obtain ⟨u, u', γ', r', v, g1, g2⟩ := hc x x' γ r _ _ q3 d1 d2 q6 q7
  exact ⟨u, u', γ', r', v, g1, (cvU_i hn _ _ _).mpr (.inl g2)⟩
/-- room for a loop -/
theorem lop_room (X : XB K pl V y e N M L n ρ τ G sl tO sO kO crt f W ν) (h20 : nlP y ≤ 20) (hq0 : q0 ∈ (ftP y).map Prod.fst) (h : MI K V y e N L G sl tO sO kO crt q0 ar S En cv vr mv Aw WV WC R H nS nF fb fp fi tf tb ow si fo lw) (hcv : CVS L sl nS nF fb fp tf tb) {Z : List TEv} (hZ : Z.length ≤ 1021) (hH : ∀ ev, ev ∈ H → ev ∈ Z) (hT : ∀ P t m i, tb P t = some m → i < m → (P, t, i + 1) ∈ Z) (hA : Aw P0 t0) {fs c ns g : TR} {γ : List Nat} {r : Nat} (hz : (.tag 7 (.tag t0 (.append fs (.append c (.append ns g)))), γ, r) ∈ scP y) (hr : r = hdR P0) : nS + sl (L t0) ≤ 523264 ∧ nF < 32768 := by
  have C := X.1
  have hEn : En P0 := (h.1.2.1.2.2.2.2.1 P0 t0 (.inl hA)).1
  have hOP := h.2.2.2.2.1 P0 hEn
  have hqa := h.1.2.2.2.2.1 P0 _ hEn hz hr
  have n0 : ¬ En ((4 * t0, 0) :: P0) := hqa.1 (.inl hA)
  have hif : ifr y (4 * t0) := (ifr_nd C.1 hz (k := 0) (by omega)).mpr (.inl ⟨rfl, rfl⟩)
  have hFk : POk V y ((4 * t0, 0) :: P0) := pk_nd hOP.1 hz (.inl ⟨rfl, hr.symm⟩)
  have hFz : Z0 y ((4 * t0, 0) :: P0) := z0_cn hOP.2.1 (.inr rfl)
  have hnft : ¬ t0 ∈ (ftP y).map Prod.fst := fun q => (ft_fu C.1).2.2 t0 q _ hz rfl
  have hntb : ¬ t0 ∈ tbP y := tb_no C.1 hz rfl
  have hlpj : t0 ∈ lpP y := lp_in hz rfl
  have e44 : 4 * t0 / 4 = t0 := by omega
  have hn : ∀ f, f < nF → fp f ≠ (4 * t0, 0) :: P0 := fun f hf q => by
    by_cases c0 : f = 0
    · rw [c0, h.2.2.2.2.2.1.2.1] at q
      exact pk_ne hOP.1 (List.cons.inj q).2.symm
    · obtain ⟨d, D, o1, o2, o3, o4, o5, o6, -⟩ := h.2.2.2.2.2.1.2.2.2 f hf c0
      rw [q] at o1
      have e1 : (4 * t0, 0) = d := (List.cons.inj o1).1
      have e2 : P0 = D := (List.cons.inj o1).2
      subst e1
      subst e2
      exact n0 (o6 (by show ¬ 4 * t0 / 4 ∈ tbP y; rw [e44]; exact hntb))
  obtain ⟨sow, hly⟩ := x_ly h.2.1
  have hj4 : hdR ((4 * t0, 0) :: P0) / 4 = t0 := e44
  have := mroom1 C X.2.1.2.1 h20 hq0 h.1 hly h.2.2.2.2.2.1 hcv hZ hH hT (F := (4 * t0, 0) :: P0) ⟨hFk, hFz, hif, fun ev q => hH ev (cs_H C.1 h.1 P0 hEn ev (by
    rw [cs_0 (c := (4 * t0, 0)) (Q := P0) (by show ¬ 4 * t0 / 4 ∈ _; rw [e44]; exact hnft) (by show 4 * t0 / 4 ∈ _; rw [e44]; exact hlpj) (by show 4 * t0 % 4 = 0; omega) rfl] at q
    exact q)), .inr (pk_ne hOP.1)⟩ hn
  rw [hj4] at this
  exact this
set_option maxHeartbeats 4000000 in
theorem F_flL (hfu : 600000 ≤ fu) (X : XB K pl V y e N M L n ρ τ G sl tO sO kO crt f W ν) (h20 : nlP y ≤ 20) (hq0 : q0 ∈ (ftP y).map Prod.fst) (h4 : ∀ j fs c ns g γ r, (.tag 7 (.tag j (.append fs (.append c (.append ns g)))), γ, r) ∈ scP y → tln fs ≤ 4) {Z : List TEv} (hZ : Z.length ≤ 1021) (hH : ∀ ev, ev ∈ H → ev ∈ Z) (hT : ∀ P t m i, tb P t = some m → i < m → (P, t, i + 1) ∈ Z) : ∀ (nf k : Nat) (S : im_S) (En : TPth → Prop) (cv vr : TPth → Nat → Option TVal) (mv : Option (TPth × Nat × TVal)) (Aw : TPth → Nat → Prop) (WV WC : TPth → Nat → TPth → Nat → Prop) (R : List TEv) (nS nF : Nat) (fb : Nat → Nat) (fp : Nat → TPth) (fi : TPth → Nat) (tf : TPth → Nat → Nat) (ow si fo : Nat → Int32) (lw : Nat → Int64) (Ml V0 V1 : List (TPth × Nat)), 1569793 ≤ k + nf → k = Ml.length + V0.length + V1.length → MI K V y e N L G sl tO sO kO crt q0 ar S En cv vr mv Aw WV WC R H nS nF fb fp fi tf tb ow si fo lw → CVS L sl nS nF fb fp tf tb → TBv cv mv tb → ERd y cv R → NLs y En Ml → NLs y En V0 → NLs y En V1 → (∀ P t, (P, t) ∈ Ml → cv P t ≠ none) → (∀ P t, (P, t) ∈ V0 → UW0 V y vr WV P t) → (∀ P t, (P, t) ∈ V1 → UW1 y cv Aw WV WC P t) → FLo K V y e N L G sl tO sO kO crt q0 ar (f_X5_flow_L2 fu nf (nI k) S) En H tb := by
  intro nf
  induction nf with
  | zero =>
    intro k S En cv vr mv Aw WV WC R nS nF fb fp fi tf ow si fo lw Ml V0 V1 hk hkl h hcv htb her l1 l2 l3
    have b1 := nls_len X h l1
    have b2 := nls_len X h l2
    have b3 := nls_len X h l3
    omega
  | succ nf ih =>
    intro k S En cv vr mv Aw WV WC R nS nF fb fp fi tf ow si fo lw Ml V0 V1 hk hkl h hcv htb her l1 l2 l3 u1 u2 u3
    have b1 := nls_len X h l1
    have b2 := nls_len X h l2
    have b3 := nls_len X h l3
    have hk1 : nI k + 1 = nI (k + 1) := nI_add k 1
    have hlt : ¬ (16777216 : Int32) ≤ nI k := fun q => by
      have := (mI_le (a := 16777216) (b := k) (by omega) (by omega)).mp q
      omega
    unfold f_X5_flow_L2
    rw [if_neg hlt]
    cases mv with
    | some m =>
      obtain ⟨P0, t0, a⟩ := m
      obtain ⟨e11, -⟩ := h.2.2.2.1.2.1 P0 t0 a rfl
      obtain ⟨S', vr', mv', R', NW, g1, g2, g3, g4, g5⟩ := F_move hfu X h
      rw [e11, if_pos (show (1 : Int32) ≠ 0 by decide), if_neg (show ¬ (1 : Int32) = 0 by decide), g1]
      show FLo K V y e N L G sl tO sO kO crt q0 ar (f_X5_flow_L2 fu nf (nI k + 1) S') En H tb
      rw [hk1]
      obtain ⟨hE0, z, hz, -⟩ := h.1.2.1.1 P0 t0 a (.inr rfl)
      have hn0 := h.1.2.1.2.1 P0 t0 a rfl
      refine ih (k + 1) S' En _ vr' mv' _ _ _ R' nS nF fb fp fi tf ow si fo lw ((P0, t0) :: Ml) V0 V1 (by omega) (by rw [List.length_cons]; omega) g2 hcv (fun P t m q => ?_) (fun P t q => (g5 P t q).elim (fun q => cel_mv X h q (her P t q)) id) (nls_cn l1 (fun q => u1 P0 t0 q hn0) hE0 ⟨z, hz⟩) l2 l3 (fun P t q => ?_) (fun P t q => ?_) (fun P t q => ?_)
      · obtain ⟨v, q⟩ := htb P t m q
        exact ⟨v, .inl ((cvU_i hn0 P t _).mpr q)⟩
      · show (if P = P0 ∧ t = t0 then some a else cv P t) ≠ none
        by_cases c : P = P0 ∧ t = t0
        · rw [if_pos c]
          exact fun q => by cases q
        · rw [if_neg c]
          rcases List.mem_cons.mp q with q | q
          · exact absurd ⟨congrArg Prod.fst q, congrArg Prod.snd q⟩ c
          · exact u1 P t q
      · obtain ⟨F, b, x, γ, r, v1, v2, v3, v4⟩ := u2 P t q
        refine ⟨F, b, x, γ, r, v1, v2, v3, ?_⟩
        by_cases c : vr' F b = none
        · rcases v4 with v4 | v4
          · exact .inl ⟨v4, c⟩
          · cases hv : vr F b with
            | none => exact absurd hv v4
            | some v =>
              rw [g3 F b v hv] at c
              cases c
        · exact .inr c
      · obtain ⟨v1, v2⟩ := u3 P t q
        refine ⟨fun q' => ?_, fun x x' γ r q' => ?_⟩
        · rcases q' with q' | ⟨F, b, q'⟩ | ⟨D, t', q'⟩
          · rcases q' with q' | ⟨F, b, q', -⟩ | ⟨D, t', q', -⟩ | ⟨q', -⟩
            · exact v1 (.inl q'.1)
            · exact v1 (.inr (.inl ⟨F, b, q'⟩))
            · exact v1 (.inr (.inr ⟨D, t', q'⟩))
            · exact q'
          · exact v1 (.inr (.inl ⟨F, b, q'.1⟩))
          · rcases q' with q' | q'
            · exact v1 (.inr (.inr ⟨D, t', q'.1⟩))
            · obtain ⟨x, x', γ, r, w1, w2⟩ := g4 D t' P t q'
              exact w2.elim (v2 x x' γ r w1).1 (v2 x x' γ r w1).2
        · have hc : ∀ s, cv P s ≠ none → cvU cv P0 t0 a P s ≠ none := fun s hs => by
            show (if P = P0 ∧ s = t0 then some a else cv P s) ≠ none
            by_cases c : P = P0 ∧ s = t0
            · rw [if_pos c]
              exact fun q => by cases q
            · rw [if_neg c]
              exact hs
          exact ⟨hc _ (v2 x x' γ r q').1, hc _ (v2 x x' γ r q').2⟩
    | none =>
      have e11 := h.2.2.2.1.1 rfl
      rw [e11, if_neg (show ¬ (0 : Int32) ≠ 0 from fun q => q rfl)]
      rcases x_pop X.1 X.2.1 h.2.1 with ⟨p1, p2⟩ | ⟨k', P0, t0, S2, hA, p1, p2, p3, p4, p5, p6, p7, p8, p9⟩
      · rw [p1, if_pos (show (0 : Int32) = 0 from rfl)]
        exact ⟨S, En, cv, vr, Aw, WV, WC, R, nS, nF, fb, fp, fi, tf, ow, si, fo, lw, rfl, h, p2, hcv, htb, her, fun _ q => q⟩
      · have hne : ¬ nI k' = (0 : Int32) := fun q => by
          have := (nI_eq (a := k') (b := 0) p3 (by omega)).mp q
          omega
        have n3 : in_b (nI k') (S.2.2 73) = true := mI_in (a := k') (n := S.2.2 73) p3 p4
        have n4 : in_b (nI k') (S.2.2 74) = true := mI_in (a := k') (n := S.2.2 74) p3 p5
        have n5 : nz_I 512 = true := by decide
        obtain ⟨hE0, hz⟩ := h.1.2.1.2.2.2.2.1 P0 t0 (.inl hA)
        have hOP := h.2.2.2.2.1 P0 hE0
        have hl := x_len h.2.1
        have hN : N t0 < 500 := by
          obtain ⟨z, z1, z2, z3, z4⟩ := hz
          have := (tk_sl X.1 X.2.1 (op_tk X.1 X.2.1 hOP z1 z2 (z4.trans z3.symm)).1).2.1
          rw [z3] at this
          exact this
        obtain ⟨d1, d2⟩ := w_dm (f := fi (fpt y P0)) (k := N t0) (by have := hOP.2.2.1; omega) (by omega)
        obtain ⟨S', En', vr', mv', Aw', WV', WC', R', nS', nF', fb', fp', fi', tf', tb', ow', si', fo', lw', g1, g2, g3, g4, g5, g6, g7, g8, g9, g10, g11⟩ := F_visit hfu X hq0 h4 h p8 p9 hA (fun fs c ns g γ r q1 q2 => lop_room X h20 hq0 h hcv hZ hH hT hA q1 q2)
        subst g9
        rw [p1, if_neg hne, if_pos (show (0 : Int32) = 0 from rfl), n3, n4, nI_clamp p3, p7, n5]
        simp only [gd_t, Option.bind_some]
        rw [p6, d2, d1, g1]
        show FLo K V y e N L G sl tO sO kO crt q0 ar (f_X5_flow_L2 fu nf (nI k + 1) S') En H tb'
        rw [hk1]
        have htb' : TBv cv mv' tb' := fun P t m q => by
          obtain ⟨v, q⟩ := htb P t m q
          rcases q with q | q
          · exact ⟨v, .inl q⟩
          · cases q
        have hres : FLo K V y e N L G sl tO sO kO crt q0 ar (f_X5_flow_L2 fu nf (nI (k + 1)) S') En' H tb' := by
          have w0 : ∀ P t, (P, t) ∈ V0 → UW0 V y vr' WV' P t := fun P t q => by
            obtain ⟨F, b, x, γ, r, v1, v2, v3, v4⟩ := u2 P t q
            refine ⟨F, b, x, γ, r, v1, v2, v3, ?_⟩
            rcases v4 with v4 | v4
            · exact g10 F b P t v4
            · cases hv : vr F b with
              | none => exact absurd hv v4
              | some v =>
                exact .inr (by rw [g4 F b v hv]; exact fun q => by cases q)
          have w1 : ∀ P t, (P, t) ∈ V1 → UW1 y cv Aw' WV' WC' P t := fun P t q => by
            obtain ⟨v1, v2⟩ := u3 P t q
            refine ⟨fun q' => ?_, v2⟩
            rcases g5 P t q' with q' | q'
            · exact v1 q'
            · exact q' (l3.2 P t q).1
          rcases g7 with g7 | ⟨F, b, g7, g7'⟩
          · refine ih (k + 1) S' En' cv vr' mv' Aw' WV' WC' R' nS' nF' fb' fp' fi' tf' ow' si' fo' lw' Ml V0 ((P0, t0) :: V1) (by omega) (by rw [List.length_cons]; omega) g2 (g8 hcv) htb' (fun P t q => (g11 P t q).elim (her P t) id) (nls_mo l1 g3) (nls_mo l2 g3) (nls_cn (nls_mo l3 g3) (fun q => (u3 P0 t0 q).1 (.inl hA)) (g3 _ hE0) hz) u1 w0 (fun P t q => ?_)
            rcases List.mem_cons.mp q with q | q
            · cases q
              refine ⟨g7, fun x x' γ r q' => ?_⟩
              obtain ⟨a, a', c1, c2, c3, c4, v, e1, e2, -⟩ := h.1.2.1.2.2.2.2.2.2.2.2 P0 t0 x x' γ r hA q'
              exact ⟨by rw [e1]; exact fun q => (by cases q), by rw [e2]; exact fun q => (by cases q)⟩
            · exact w1 P t q
          · obtain ⟨-, v1, x, γ, r, v2, v3⟩ := g2.1.2.1.2.2.2.2.2.1 F b P0 t0 g7
            refine ih (k + 1) S' En' cv vr' mv' Aw' WV' WC' R' nS' nF' fb' fp' fi' tf' ow' si' fo' lw' Ml ((P0, t0) :: V0) V1 (by omega) (by rw [List.length_cons]; omega) g2 (g8 hcv) htb' (fun P t q => (g11 P t q).elim (her P t) id) (nls_mo l1 g3) (nls_cn (nls_mo l2 g3) (fun q => ?_) (g3 _ hE0) hz) (nls_mo l3 g3) u1 (fun P t q => ?_) w1
            · obtain ⟨F', b', x', γ', r', v1', v2', v3', v4'⟩ := u2 P0 t0 q
              have hzz := (ou_P X.1.1).2 _ v2 _ v1' rfl
              cases hzz
              rw [v3] at v2'
              cases v2'
              obtain ⟨B1, B2, B3, B4, B5, -⟩ := X.2.2.1
              have := VF_fun B1 B2 B3 B4 B5 v1 v3'
              subst this
              rcases v4' with v4' | v4'
              · exact (h.1.2.1.2.2.2.2.2.2.2.1 P0 t0 hA).1 F b v4'
              · cases hv : vr F b with
                | none => exact v4' hv
                | some v =>
                  rw [g4 F b v hv] at g7'
                  cases g7'
            · rcases List.mem_cons.mp q with q | q
              · cases q
                exact ⟨F, b, x, γ, r, v2, v3, v1, .inl g7⟩
              · exact w0 P t q
        obtain ⟨S3, En3, cv3, vr3, Aw3, WV3, WC3, R3, nS3, nF3, fb3, fp3, fi3, tf3, ow3, si3, fo3, lw3, r1, r2, r3, r4, r4b, r4c, r5⟩ := hres
        exact ⟨S3, En3, cv3, vr3, Aw3, WV3, WC3, R3, nS3, nF3, fb3, fp3, fi3, tf3, ow3, si3, fo3, lw3, r1, r2, r3, r4, r4b, r4c, fun P q => r5 P (g3 P q)⟩
/-- THE CLASS FLOWS -/
theorem F_flow (hfu : 1569793 ≤ fu) (X : XB K pl V y e N M L n ρ τ G sl tO sO kO crt f W ν) (h20 : nlP y ≤ 20) (hq0 : q0 ∈ (ftP y).map Prod.fst) (h4 : ∀ j fs c ns g γ r, (.tag 7 (.tag j (.append fs (.append c (.append ns g)))), γ, r) ∈ scP y → tln fs ≤ 4) {Z : List TEv} (hZ : Z.length ≤ 1021) (hH : ∀ ev, ev ∈ H → ev ∈ Z) (hT : ∀ P t m i, tb P t = some m → i < m → (P, t, i + 1) ∈ Z) (h : MI K V y e N L G sl tO sO kO crt q0 ar S En cv vr mv Aw WV WC R H nS nF fb fp fi tf tb ow si fo lw) (hcv : CVS L sl nS nF fb fp tf tb) (htb : TBv cv mv tb) (her : ERd y cv R) : FLo K V y e N L G sl tO sO kO crt q0 ar (f_X5_flow fu S) En H tb := by
  have hn : NLs y En [] := ⟨List.nodup_nil, fun P t q => absurd q List.not_mem_nil⟩
  exact F_flL (by omega) X h20 hq0 h4 hZ hH hT fu 0 S En cv vr mv Aw WV WC R nS nF fb fp fi tf ow si fo lw [] [] [] (by omega) rfl h hcv htb her hn hn hn (fun P t q => absurd q List.not_mem_nil) (fun P t q => absurd q List.not_mem_nil) (fun P t q => absurd q List.not_mem_nil)
end FLW
