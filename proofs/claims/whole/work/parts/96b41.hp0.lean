/-! an event happens, in the class: the list of what is ready; what sends a token -/
/-- what an event leaves -/
def FHo (K : Nat → Nat) (V : Nat → Int64) (y : TR) (e : Nat) (N L : Nat → Nat) (G : im_S) (sl tO sO kO crt : Nat → Nat) (q0 : Nat) (ar : Nat → Int64) (o : Option (Unit × im_S)) (En : TPth → Prop) (cv : TPth → Nat → Option TVal) (H : List TEv) (ev : TEv) (tb : TPth → Nat → Option Nat) : Prop :=
  ∃ (S' : im_S) (En' : TPth → Prop) (vr' : TPth → Nat → Option TVal) (mv' : Option (TPth × Nat × TVal)) (Aw' : TPth → Nat → Prop) (WV' WC' : TPth → Nat → TPth → Nat → Prop) (R' : List TEv) (nS' nF' : Nat) (fb' : Nat → Nat) (fp' : Nat → TPth) (fi' : TPth → Nat) (tf' : TPth → Nat → Nat) (tb' : TPth → Nat → Option Nat) (ow' si' fo' : Nat → Int32) (lw' : Nat → Int64), o = some ((), S') ∧ MI K V y e N L G sl tO sO kO crt q0 ar S' En' cv vr' mv' Aw' WV' WC' R' (ev :: H) nS' nF' fb' fp' fi' tf' tb' ow' si' fo' lw' ∧ CVS L sl nS' nF' fb' fp' tf' tb' ∧ TBv cv mv' tb' ∧ ERd y cv R' ∧ (∀ P, En P → En' P) ∧ ∃ Zn : List TEv, Zn.length ≤ 20 ∧ ∀ P t m i, tb' P t = some m → i < m → tb P t = some m ∨ (P, t, i + 1) ∈ Zn
/-- only the list of what is ready has changed -/
def RmA (S S1 : im_S) : Prop := (∀ a i : Nat, (a ≠ 38 ∧ a ≠ 39) ∨ (a = 38 ∧ i ≠ 8) → S1.1 a i = S.1 a i) ∧ S1.2 = S.2
def hpD (fu : Nat) (kd x1 x2 : Int32) (S : im_S) : Option (Unit × im_S) := if kd = (4 : Int32) then ((f_X5_turn x1 x2 S).bind (fun q => some ((), q.2))) else (if kd = (5 : Int32) then ((f_X5_operate x1 x2 S).bind (fun q => some ((), q.2))) else (if kd = (6 : Int32) then ((f_X5_pickCell x1 x2 S).bind (fun q => some ((), q.2))) else (if kd = (7 : Int32) then ((f_X5_choose fu x1 x2 S).bind (fun q => some ((), q.2))) else (if kd = (8 : Int32) then ((f_X5_enterFunction fu x1 x2 S).bind (fun q => some ((), q.2))) else (if kd = (9 : Int32) then ((f_X5_endRound fu x1 x2 S).bind (fun q => some ((), q.2))) else (if kd = (10 : Int32) then ((f_X5_makeTable fu x1 x2 S).bind (fun q => some ((), q.2))) else ((f_X5_enterCell fu x1 x2 S).bind (fun q => some ((), q.2)))))))))
/-- an event that happens now -/
def HPz (K : Nat → Nat) (V : Nat → Int64) (y : TR) (e : Nat) (N L : Nat → Nat) (G : im_S) (sl tO sO kO crt : Nat → Nat) (q0 : Nat) (ar : Nat → Int64) (S S1 : im_S) (En : TPth → Prop) (cv vr : TPth → Nat → Option TVal) (Aw : TPth → Nat → Prop) (WV WC : TPth → Nat → TPth → Nat → Prop) (R R' H : List TEv) (nS nF : Nat) (fb : Nat → Nat) (fp : Nat → TPth) (fi : TPth → Nat) (tf : TPth → Nat → Nat) (tb : TPth → Nat → Option Nat) (ow si fo : Nat → Int32) (lw : Nat → Int64) (ev : TEv) : Prop :=
  MI K V y e N L G sl tO sO kO crt q0 ar S En cv vr none Aw WV WC R H nS nF fb fp fi tf tb ow si fo lw ∧ RmA S S1 ∧ MG y N fi tf S1 none R' ∧ R'.Nodup ∧ (∀ e, e ∈ R' ↔ e ∈ R ∧ e ≠ ev) ∧ ev ∈ R ∧ R.length + H.length ≤ 1000 ∧ CVS L sl nS nF fb fp tf tb ∧ TBv cv none tb ∧ ERd y cv R
section HP0
variable {K pl : Nat → Nat} {V : Nat → Int64} {y : TR} {e : Nat} {N M L : Nat → Nat} {n ρ τ : Nat} {G : im_S} {sl tO sO kO crt : Nat → Nat} {f : Nat} {W : Nat → Int32 × Int32 × Int32} {ν : Nat → Nat} {q0 : Nat} {ar : Nat → Int64} {S S1 S' : im_S} {En : TPth → Prop} {cv vr : TPth → Nat → Option TVal} {mv' : Option (TPth × Nat × TVal)} {Aw : TPth → Nat → Prop} {WV WC : TPth → Nat → TPth → Nat → Prop} {R R' H : List TEv} {nS nF fu : Nat} {fb : Nat → Nat} {fp : Nat → TPth} {fi : TPth → Nat} {tf : TPth → Nat → Nat} {tb : TPth → Nat → Option Nat} {ow si fo : Nat → Int32} {lw : Nat → Int64} {P1 : TPth} {j r : Nat} {γ : List Nat} {ev : TEv}
theorem ls_lst {α : Type} : ∀ l : List α, l = [] ∨ ∃ l' b, l = l' ++ [b] := by
  intro l
  induction l with
  | nil => exact .inl rfl
  | cons a l ih =>
    rcases ih with ih | ⟨l', b, ih⟩
    · exact .inr ⟨[], a, by rw [ih]; rfl⟩
    · exact .inr ⟨a :: l', b, by rw [ih]; rfl⟩
theorem rm_ls : ∀ (R : List TEv) (k : Nat) (ev : TEv), R[k]? = some ev → ∃ R' : List TEv, R'.length + 1 = R.length ∧ (∀ e, e ∈ R ↔ e = ev ∨ e ∈ R') ∧ (R.Nodup → (ev :: R').Nodup) ∧ ∀ i : Nat, i < R'.length → R'[i]? = if i = k then R[R'.length]? else R[i]? := by
  intro R
  induction R with
  | nil =>
    intro k ev h
    rw [List.getElem?_nil] at h
    cases h
  | cons a R ih =>
    intro k ev h
    cases k with
    | zero =>
      have ha : a = ev := Option.some.inj h
      subst ha
      rcases ls_lst R with hR | ⟨l', b, hR⟩
      · refine ⟨[], by rw [hR]; rfl, fun e => ?_, fun q => by rw [hR] at q; exact q, fun i hi => absurd hi (Nat.not_lt_zero _)⟩
        rw [hR]
        exact ⟨fun q => .inl (List.mem_singleton.mp q), fun q => q.elim (fun q => List.mem_singleton.mpr q) (fun q => absurd q List.not_mem_nil)⟩
      · subst hR
        refine ⟨b :: l', ?_, fun e => ⟨fun q => ?_, fun q => ?_⟩, fun q => ?_, fun i hi => ?_⟩
        · rw [List.length_cons, List.length_cons, List.length_append]
          rfl
        · rcases List.mem_cons.mp q with q | q
          · exact .inl q
          · rcases List.mem_append.mp q with q | q
            · exact .inr (List.mem_cons_of_mem _ q)
            · rw [List.mem_singleton.mp q]
              exact .inr List.mem_cons_self
        · rcases q with q | q
          · rw [q]
            exact List.mem_cons_self
          · rcases List.mem_cons.mp q with q | q
            · exact List.mem_cons_of_mem _ (List.mem_append.mpr (.inr (List.mem_singleton.mpr q)))
            · exact List.mem_cons_of_mem _ (List.mem_append.mpr (.inl q))
        · obtain ⟨h1, h2⟩ := List.nodup_cons.mp q
          obtain ⟨h3, h4, h5⟩ := List.nodup_append.mp h2
          refine List.nodup_cons.mpr ⟨fun q => h1 ?_, List.nodup_cons.mpr ⟨fun q => h5 b q b (List.mem_singleton.mpr rfl) rfl, h3⟩⟩
          rcases List.mem_cons.mp q with q | q
          · exact List.mem_append.mpr (.inr (List.mem_singleton.mpr q))
          · exact List.mem_append.mpr (.inl q)
        · cases i with
          | zero =>
            rw [if_pos rfl]
            show some b = (l' ++ [b])[l'.length]?
            rw [List.getElem?_append_right (Nat.le_refl _), Nat.sub_self]
            rfl
          | succ i =>
            rw [if_neg (by omega)]
            show l'[i]? = (l' ++ [b])[i]?
            rw [List.length_cons] at hi
            rw [List.getElem?_append_left (by omega)]
    | succ k =>
      have h' : R[k]? = some ev := h
      obtain ⟨R', h1, h2, h3, h4⟩ := ih k ev h'
      refine ⟨a :: R', by rw [List.length_cons, List.length_cons]; omega, fun e => ⟨fun q => ?_, fun q => ?_⟩, fun q => ?_, fun i hi => ?_⟩
      · rcases List.mem_cons.mp q with q | q
        · rw [q]
          exact .inr List.mem_cons_self
        · exact ((h2 e).mp q).imp id (List.mem_cons_of_mem _)
      · rcases q with q | q
        · exact List.mem_cons_of_mem _ ((h2 e).mpr (.inl q))
        · rcases List.mem_cons.mp q with q | q
          · rw [q]
            exact List.mem_cons_self
          · exact List.mem_cons_of_mem _ ((h2 e).mpr (.inr q))
      · obtain ⟨n1, n2⟩ := List.nodup_cons.mp q
        obtain ⟨n3, n4⟩ := List.nodup_cons.mp (h3 n2)
        refine List.nodup_cons.mpr ⟨fun q => ?_, List.nodup_cons.mpr ⟨fun q => n1 ((h2 a).mpr (.inr q)), n4⟩⟩
        rcases List.mem_cons.mp q with q | q
        · rw [← q] at n1
          exact n1 ((h2 ev).mpr (.inl rfl))
        · exact n3 q
      · cases i with
        | zero =>
          rw [if_neg (by omega)]
          rfl
        | succ i =>
          rw [List.length_cons] at hi
          have := h4 i (by omega)
          show R'[i]? = if i + 1 = k + 1 then R[R'.length]? else R[i]?
          rw [this]
          by_cases c : i = k
          · rw [if_pos c, if_pos (by omega)]
          · rw [if_neg c, if_neg (by omega)]
/-- one is taken out of what is ready -/
theorem g_rmv (hG : MG y N fi tf S none R) {k : Nat} (hk : R[k]? = some ev) (hn : R.Nodup) : ∃ R' : List TEv, R'.length + 1 = R.length ∧ R'.Nodup ∧ (∀ e, e ∈ R' ↔ e ∈ R ∧ e ≠ ev) ∧ MG y N fi tf (uI (uI S 38 8 (nI (R.length - 1))) 39 k (S.1 39 (R.length - 1))) none R' ∧ RmA S (uI (uI S 38 8 (nI (R.length - 1))) 39 k (S.1 39 (R.length - 1))) := by
  obtain ⟨g1, g2, g3, g4, g5⟩ := hG
  obtain ⟨R', h1, h2, h3, h4⟩ := rm_ls R k ev hk
  obtain ⟨n1, n2⟩ := List.nodup_cons.mp (h3 hn)
  have ne : ∀ a i : Nat, (a ≠ 38 ∧ a ≠ 39) ∨ (a = 38 ∧ i ≠ 8) → (uI (uI S 38 8 (nI (R.length - 1))) 39 k (S.1 39 (R.length - 1))).1 a i = S.1 a i := fun a i q => by rw [uI_ne (by omega), uI_ne (by omega)]
  refine ⟨R', h1, n2, fun e => ⟨fun q => ⟨(h2 e).mpr (.inr q), fun q' => n1 (by rw [← q']; exact q)⟩, fun q => ((h2 e).mp q.1).resolve_left q.2⟩, ⟨fun q => (ne 38 11 (by omega)).trans (g1 q), fun P t a q => (by cases q), ?_, by omega, fun i ev' q => ?_⟩, ne, rfl⟩
  · rw [uI_ne (by omega), uI_eq]
    exact congrArg nI (by omega)
  · have hi : i < R'.length := by
      rcases Nat.lt_or_ge i R'.length with c | c
      · exact c
      · rw [List.getElem?_eq_none c] at q
        cases q
    rw [h4 i hi] at q
    by_cases c : i = k
    · rw [if_pos c] at q
      rw [c, uI_eq]
      have := g5 _ ev' q
      rw [show R'.length = R.length - 1 by omega] at this
      exact this
    · rw [if_neg c] at q
      rw [uI_ne (by omega), uI_ne (by omega)]
      exact g5 i ev' q
theorem hap_D {k l fF nN : Nat} (h8 : S.1 38 8 = nI l) (hk : k < l) (hl : l ≤ 1001) (hc : S.1 39 k = nI (fF * 512 + nN)) (hf : fF < 32768) (hn : nN < 512) : f_X5_happen fu (nI k) S = hpD fu (S.1 41 nN) (nI fF) (nI nN) (uI (uI S 38 8 (nI (l - 1))) 39 k (S.1 39 (l - 1))) := by
  obtain ⟨d1, d2⟩ := w_dm hf hn
  have e1 : nI l - 1 = nI (l - 1) := nI_sub (a := l) (b := 1) (by omega)
  have n5 : nz_I 512 = true := by decide
  unfold f_X5_happen hpD
  rw [nI_clamp (show k < 2 ^ 31 by omega), hc, d2, d1, h8, e1, nI_clamp (show l - 1 < 2 ^ 31 by omega), nI_clamp (show nN < 2 ^ 31 by omega), mI_in (a := k) (n := 1001) (by omega) (by omega), mI_in (a := l - 1) (n := 1001) (by omega) (by omega), mI_in (a := nN) (n := 512) (by omega) hn, n5]
  simp only [gd_t]
theorem rm_mx {cc : TPth → Option TVal} {WC2 : TPth → TPth → Nat → Prop} (hS1 : RmA S S1) (h : MX V y e N L sl tO sO kO S nS nF fb fp fi tf tb ow si fo lw cv vr cc Aw WV WC2) : MX V y e N L sl tO sO kO S1 nS nF fb fp fi tf tb ow si fo lw cv vr cc Aw WV WC2 := MX_reg h (fun b i q1 q2 => hS1.1 b i (by omega)) (hS1.1 38 10 (by omega)) (fun i => by rw [hS1.2]) (by rw [hS1.2])
theorem rm_ca (hS1 : RmA S S1) (h : CAg G S) : CAg G S1 := cag_k h (fun a i q1 q2 => hS1.1 a i (by omega)) (fun a i q1 q2 => by rw [hS1.2])
/-- a step that enters nothing, of an event -/
theorem MI_hv (h : MI K V y e N L G sl tO sO kO crt q0 ar S En cv vr none Aw WV WC R H nS nF fb fp fi tf tb ow si fo lw) (hev : ev ∈ R) (hRm : ∀ e, e ∈ R' → e ∈ R) (hfl : 1001 ≤ R.length → 1001 ≤ R'.length)
    (A' : AB K V y q0 ar En cv vr mv' (AwN y Aw (fun _ _ => False) WV WC cv vr (fun _ => False)) (WVN WV vr) (WCN WC (fun _ _ _ _ => False) cv) R' (ev :: H) (1001 ≤ R.length)) (X' : MX V y e N L sl tO sO kO S' nS nF fb fp fi tf tb ow si fo lw cv vr (fun D => cv D (crt (hdR D / 4))) Aw WV (fun D P t => ∃ t', WC D t' P t)) (hA : CAg G S') (hG : MG y N fi tf S' mv' R')
    (hv : ∀ P t a, mv' = some (P, t, a) → a.1 = 3 → ∃ m, tb a.2.2.1 a.2.2.2 = some m ∧ a.2.1 = Int64.ofNat m) (h3 : S'.1 38 3 = S.1 38 3) (h4 : S'.2.1 38 4 = S.2.1 38 4) :
    MI K V y e N L G sl tO sO kO crt q0 ar S' En cv vr mv' (AwN y Aw (fun _ _ => False) WV WC cv vr (fun _ => False)) (WVN WV vr) (WCN WC (fun _ _ _ _ => False) cv) R' (ev :: H) nS nF fb fp fi tf tb ow si fo lw := by
  have hwv : ∀ F b P t, WV F b P t → vr F b = none := fun F b P t q => (h.1.2.1.2.2.2.2.2.1 F b P t q).1
  have hwc : ∀ D t' P t, WC D t' P t → cv D t' = none := fun D t' P t q => (h.1.2.1.2.2.2.2.2.2.1 D t' P t q).1
  obtain ⟨w1, w2, w3⟩ := aw_en (y := y) (Aw := Aw) (Sl := fun _ _ => False) (NE := fun _ => False) hwv hwc
  refine ⟨AB_fl A' hfl, MX_cg X' (fun P t => ?_) w2 w3, hA, hG, h.2.2.2.2.1, h.2.2.2.2.2.1, ⟨fun P t a q q' => ?_, fun P t m q => ?_, fun P j k x x' γ r q q' => ?_⟩, h.2.2.2.2.2.2.2.1, mrs_k h.2.2.2.2.2.2.2.2.1 h3 h4, ⟨h.2.2.2.2.2.2.2.2.2.1, fun F b P t q => h.2.2.2.2.2.2.2.2.2.2 F b P t q.1⟩⟩
  · rw [w1 P t]
    exact ⟨fun q => q.elim (fun q => q.1) (fun q => q.1.elim), fun q => .inl ⟨q, id⟩⟩
  · rcases q with q | q
    · exact h.2.2.2.2.2.2.1.1 P t a (.inl q) q'
    · exact hv P t a q q'
  · obtain ⟨u1, u2⟩ := h.2.2.2.2.2.2.1.2.1 P t m q
    exact ⟨List.mem_cons_of_mem _ u1, u2⟩
  · refine h.2.2.2.2.2.2.1.2.2 P j k x x' γ r ?_ q'
    rcases q with q | q
    · exact .inl (hRm _ q)
    · rcases List.mem_cons.mp q with q | q
      · rw [q]
        exact .inl hev
      · exact .inr q
/-- an event that sends a token -/
theorem fh_send (h : MI K V y e N L G sl tO sO kO crt q0 ar S En cv vr none Aw WV WC R H nS nF fb fp fi tf tb ow si fo lw) (hS1 : RmA S S1) (hG1 : MG y N fi tf S1 none R') (hev : ev ∈ R) (hRm : ∀ e, e ∈ R' → e ∈ R) (hfl : 1001 ≤ R.length → 1001 ≤ R'.length) (hcv : CVS L sl nS nF fb fp tf tb) (htb : TBv cv none tb) (her : ERd y cv R) {v : TVal} {w : Int64}
    (A' : AB K V y q0 ar En cv vr (some (P1, j, v)) (AwN y Aw (fun _ _ => False) WV WC cv vr (fun _ => False)) (WVN WV vr) (WCN WC (fun _ _ _ _ => False) cv) R' (ev :: H) (1001 ≤ R.length)) (hE : EcW tf v w) (ht : v.1 = 3 → ∃ m, tb v.2.2.1 v.2.2.2 = some m ∧ v.2.1 = Int64.ofNat m) {o : Option (Unit × im_S)} (ho : o = f_X5_send (nI (fi (fpt y P1))) (nI (N j)) (nI v.1) w S1) : FHo K V y e N L G sl tO sO kO crt q0 ar o En cv H ev tb := by
  obtain ⟨S', g1, g2, g3, g4, g5⟩ := g_send (P := P1) (t := j) hG1 hE
  refine ⟨S', En, vr, some (P1, j, v), _, _, _, R', nS, nF, fb, fp, fi, tf, tb, ow, si, fo, lw, by rw [ho, g1], MI_hv h hev hRm hfl A' (MX_reg (rm_mx hS1 h.2.1) (fun b i q1 q2 => g3 b i (by omega)) (g3 38 10 (by omega)) (fun i => g4 66 i (by omega)) g5) (cag_k (rm_ca hS1 h.2.2.1) (fun b i q1 q2 => g3 b i (by omega)) (fun b i q1 q2 => g4 b i (by omega))) g2 (fun P t a q => ?_) ((g3 38 3 (by omega)).trans (hS1.1 38 3 (by omega))) ((g4 38 4 (by omega)).trans (by rw [hS1.2])), hcv, fun P t m q => ?_, fun P t q => her P t (hRm _ q), fun _ q => q, [], Nat.zero_le _, fun P t m i q _ => .inl q⟩
  · cases q
    exact ht
  · obtain ⟨v', q⟩ := htb P t m q
    rcases q with q | q
    · exact ⟨v', .inl q⟩
    · cases q
theorem fh_snd (Z : HPz K V y e N L G sl tO sO kO crt q0 ar S S1 En cv vr Aw WV WC R R' H nS nF fb fp fi tf tb ow si fo lw ev) {v : TVal} {w : Int64}
    (A' : AB K V y q0 ar En cv vr (some (P1, j, v)) (AwN y Aw (fun _ _ => False) WV WC cv vr (fun _ => False)) (WVN WV vr) (WCN WC (fun _ _ _ _ => False) cv) R' (ev :: H) (1001 ≤ R.length)) (hE : EcW tf v w) (ht : v.1 = 3 → ∃ m, tb v.2.2.1 v.2.2.2 = some m ∧ v.2.1 = Int64.ofNat m) {o : Option (Unit × im_S)} (ho : o = f_X5_send (nI (fi (fpt y P1))) (nI (N j)) (nI v.1) w S1) : FHo K V y e N L G sl tO sO kO crt q0 ar o En cv H ev tb := by
  obtain ⟨h, hS1, hG1, hRn, hRm, hev, hle, hcv, htb, her⟩ := Z
  exact fh_send h hS1 hG1 hev (fun e q => ((hRm e).mp q).1) (fun q => by omega) hcv htb her A' hE ht ho
theorem ecw_n {v : TVal} (h : v.1 ≠ 3) : EcW tf v v.2.1 := ⟨fun q => absurd q h, fun _ => rfl⟩
/-- a slot is read -/
theorem h_rd {cc : TPth → Option TVal} {WC2 : TPth → TPth → Nat → Prop} {x : TR} {a : TVal} (C : CGd K pl V y e N M L n ρ τ G) (hS : SLy G n τ sl tO sO kO) (hA : CAg G S1) (hX : MX V y e N L sl tO sO kO S1 nS nF fb fp fi tf tb ow si fo lw cv vr cc Aw WV WC2) (hOP : OP V y nF fp fi P1) (hx : (x, γ, r) ∈ scP y) (hr : r = hdR P1) (ha : cv P1 (rtk x) = some a) : ∃ s, f_X5_slotOf (nI (fi (fpt y P1))) (nI (N (rtk x))) S1 = some (nI s, S1) ∧ in_b (nI s) (S1.2.2 65) = true ∧ in_b (nI s) (S1.2.2 66) = true ∧ (nI s).toNatClampNeg = s ∧ (S1.1 65 s = 4 ↔ a.1 = 4) ∧ EcW tf a (S1.2.1 66 s) ∧ SlC S1 tf s (some a) ∧ s < nS ∧ (a.1 = 3 → ∃ m, tb a.2.2.1 a.2.2.2 = some m ∧ a.2.1 = Int64.ofNat m) := by
  obtain ⟨k1, k2, k3, k4⟩ := x_rx C hS hX hOP hx hr
  have hl := x_len hX
  rw [ha] at k3
  refine ⟨_, x_slot C hS hA hX hOP.2.2.1 k1, mI_in (a := fb (fi (fpt y P1)) + sO (N (rtk x))) (n := S1.2.2 65) (by omega) (by omega), mI_in (a := fb (fi (fpt y P1)) + sO (N (rtk x))) (n := S1.2.2 66) (by omega) (by omega), nI_clamp (by omega), ?_, k3.2.2, k3, k2, k4 a ha⟩
  rw [k3.1]
  exact nI_eq (a := a.1) (b := 4) (by have := k3.2.1; omega) (by omega)
/-- the lesser error -/
theorem k_lst {s1 s2 : Nat} {v v' : TVal} {u : Int64} (i1 : in_b (nI s1) (S1.2.2 65) = true) (i2 : in_b (nI s1) (S1.2.2 66) = true) (i3 : in_b (nI s2) (S1.2.2 65) = true) (i4 : in_b (nI s2) (S1.2.2 66) = true) (c1 : (nI s1).toNatClampNeg = s1) (c2 : (nI s2).toNatClampNeg = s2) (e1 : S1.1 65 s1 = 4 ↔ v.1 = 4) (e2 : S1.1 65 s2 = 4 ↔ v'.1 = 4) (k1 : EcW tf v (S1.2.1 66 s1)) (k2 : EcW tf v' (S1.2.1 66 s2)) (q : erV v v' = some u) : f_X5_leastError (nI s1) (nI s2) S1 = some (u, S1) := by
  unfold f_X5_leastError
  rw [i1, i2, i3, i4, c1, c2]
  simp only [gd_t]
  unfold erV at q
  by_cases c4 : v.1 = 4
  · rw [if_pos c4] at q
    rw [if_pos (e1.mpr c4), k1.2 (by omega)]
    by_cases c4' : v'.1 = 4
    · rw [if_pos c4'] at q
      rw [if_pos (e2.mpr c4'), k2.2 (by omega), ← Option.some.inj q]
      by_cases cl : v'.2.1 < v.2.1
      · rw [if_pos cl, if_neg (fun q' => by
          have := (lg_cmp_ge _ _).mp q'
          rw [Int64.le_iff_toInt_le] at this
          rw [Int64.lt_iff_toInt_lt] at cl
          omega)]
      · rw [if_neg cl, if_pos ((lg_cmp_ge _ _).mpr (by
          rw [Int64.le_iff_toInt_le]
          rw [Int64.lt_iff_toInt_lt] at cl
          omega))]
    · rw [if_neg c4'] at q
      rw [if_neg (fun q' => c4' (e2.mp q')), ← Option.some.inj q]
  · rw [if_neg c4] at q
    rw [if_neg (fun q' => c4 (e1.mp q'))]
    by_cases c4' : v'.1 = 4
    · rw [if_pos c4'] at q
      rw [k2.2 (by omega), ← Option.some.inj q]
    · rw [if_neg c4'] at q
      cases q
end HP0
