/-! the class's run: what it does and what lies in its memory -/
/-- all that is known of the program -/
def XB (K pl : Nat → Nat) (V : Nat → Int64) (y : TR) (e : Nat) (N M L : Nat → Nat) (n ρ τ : Nat) (G : im_S) (sl tO sO kO crt : Nat → Nat) (f : Nat) (W : Nat → Int32 × Int32 × Int32) (ν : Nat → Nat) : Prop :=
  CGd K pl V y e N M L n ρ τ G ∧ SLy G n τ sl tO sO kO ∧ SBd K V y e f W ν ∧ (∀ q cnt x, (q, cnt, x) ∈ fuP y → tyV K V x = tvV (V q)) ∧ (∀ j x x' γ r, (.tag 11 (.tag j (.append x x')), γ, r) ∈ scP y → crt j = rtk x') ∧ ∀ t, ¬ t ∈ tbP y → crt t = e
/-- an event's number in the list of what is ready -/
noncomputable def evc (y : TR) (N : Nat → Nat) (fi : TPth → Nat) (ev : TEv) : Nat := @ite _ (ev.2.1 ∈ lpP y) (Classical.propDecidable _) (fi ((4 * ev.2.1, ev.2.2) :: ev.1) * 512 + N ev.2.1) (@ite _ (ev.2.1 ∈ tbP y ∧ ev.2.2 ≠ 0) (Classical.propDecidable _) (fi ((4 * ev.2.1, ev.2.2 - 1) :: ev.1) * 512 + N (ev.2.1 + 3)) (fi (fpt y ev.1) * 512 + N ev.2.1))
/-- the machine's registers -/
def MG (y : TR) (N : Nat → Nat) (fi : TPth → Nat) (tf : TPth → Nat → Nat) (S : im_S) (mv : Option (TPth × Nat × TVal)) (R : List TEv) : Prop :=
  (mv = none → S.1 38 11 = 0) ∧ (∀ P t a, mv = some (P, t, a) → S.1 38 11 = 1 ∧ S.1 38 12 = nI (fi (fpt y P)) ∧ S.1 38 13 = nI (N t) ∧ S.1 38 14 = nI a.1 ∧ EcW tf a (S.2.1 38 15)) ∧ S.1 38 8 = nI R.length ∧ R.length ≤ 1001 ∧ ∀ k ev, R[k]? = some ev → S.1 39 k = nI (evc y N fi ev)
/-- the frames: who owns them, what they stand for -/
def MO (y : TR) (q0 : Nat) (N : Nat → Nat) (En : TPth → Prop) (nF : Nat) (fp : Nat → TPth) (fi : TPth → Nat) (tf : TPth → Nat → Nat) (tb : TPth → Nat → Option Nat) (ow si fo : Nat → Int32) : Prop :=
  0 < nF ∧ fp 0 = [(4 * q0, 0)] ∧ ow 0 = -1 ∧ ∀ f, f < nF → f ≠ 0 → ∃ c Q, fp f = c :: Q ∧ Q ≠ [] ∧ En Q ∧ ow f = nI (fi (fpt y Q)) ∧ (c.1 / 4 ∈ (ftP y).map Prod.fst → si f = nI (N c.2)) ∧ (¬ c.1 / 4 ∈ tbP y → En (c :: Q)) ∧ (c.1 / 4 ∈ tbP y → ∃ m, tb Q (c.1 / 4) = some m ∧ c.2 < m ∧ si f = nI (tf Q (c.1 / 4) + c.2)) ∧ (c.1 / 4 ∈ lpP y → En ((c.1, c.2 + 1) :: Q) → fo f = nI (fi ((c.1, c.2 + 1) :: Q)))
/-- the tables -/
def MT (y : TR) (cv : TPth → Nat → Option TVal) (mv : Option (TPth × Nat × TVal)) (R H : List TEv) (nF : Nat) (fp : Nat → TPth) (fi : TPth → Nat) (tb : TPth → Nat → Option Nat) : Prop :=
  (∀ P t a, Vm cv mv P t a → a.1 = 3 → ∃ m, tb a.2.2.1 a.2.2.2 = some m ∧ a.2.1 = Int64.ofNat m) ∧ (∀ P t m, tb P t = some m → (P, t, 0) ∈ H ∧ ∃ x x' γ r, (.tag 11 (.tag t (.append x x')), γ, r) ∈ scP y ∧ r = hdR P ∧ ∀ i, i < m → fi ((4 * t, i) :: P) < nF ∧ fp (fi ((4 * t, i) :: P)) = (4 * t, i) :: P) ∧ ∀ P j k x x' γ r, (P, j, k + 1) ∈ R ∨ (P, j, k + 1) ∈ H → (.tag 11 (.tag j (.append x x')), γ, r) ∈ scP y → ∃ m, tb P j = some m ∧ k < m
/-- the numbers of frames beside calls and loops -/
def MW (V : Nat → Int64) (y : TR) (N sO : Nat → Nat) (En : TPth → Prop) (nF : Nat) (fb : Nat → Nat) (fp : Nat → TPth) (fi : TPth → Nat) (lw : Nat → Int64) : Prop :=
  (∀ P j as γ r i p cnt xf, OP V y nF fp fi P → (.tag 4 (.tag j as), γ, r) ∈ scP y → r = hdR P → idx V ((ftP y).map Prod.fst) j = some i → (fuP y)[i]? = some (p, cnt, xf) → (En ((4 * p, j) :: P) → lw (fb (fi (fpt y P)) + sO (N j) + 1) = (nI (fi ((4 * p, j) :: P))).toInt64) ∧ (¬ En ((4 * p, j) :: P) → lw (fb (fi (fpt y P)) + sO (N j) + 1) = 0)) ∧
  (∀ P j fs c ns g γ r i, (.tag 7 (.tag j (.append fs (.append c (.append ns g)))), γ, r) ∈ scP y → En ((4 * j + 1, 0) :: (4 * j, i) :: P) → En ((4 * j, i + 1) :: P)) ∧
  ∀ P j fs c ns g γ r, OP V y nF fp fi P → (.tag 7 (.tag j (.append fs (.append c (.append ns g)))), γ, r) ∈ scP y → r = hdR P → (En ((4 * j, 0) :: P) → lw (fb (fi (fpt y P)) + sO (N j) + 1) = (nI (fi ((4 * j, 0) :: P))).toInt64) ∧ (¬ En ((4 * j, 0) :: P) → lw (fb (fi (fpt y P)) + sO (N j) + 1) = 0)
/-- the result -/
def MRs (y : TR) (q0 : Nat) (tf : TPth → Nat → Nat) (S : im_S) (cv : TPth → Nat → Option TVal) : Prop := ∀ cnt x, (q0, cnt, x) ∈ fuP y → (cv [(4 * q0, 0)] (rtk x) = none → S.1 38 3 = 0) ∧ ∀ a, cv [(4 * q0, 0)] (rtk x) = some a → S.1 38 3 = nI a.1 ∧ EcW tf a (S.2.1 38 4)
/-- variables, and who waits for them, have frames -/
def MVf (nF : Nat) (fp : Nat → TPth) (fi : TPth → Nat) (vr : TPth → Nat → Option TVal) (WV : TPth → Nat → TPth → Nat → Prop) : Prop := (∀ F b a, vr F b = some a → fi F < nF ∧ fp (fi F) = F) ∧ ∀ F b P t, WV F b P t → fi F < nF ∧ fp (fi F) = F
def MI (K : Nat → Nat) (V : Nat → Int64) (y : TR) (e : Nat) (N L : Nat → Nat) (G : im_S) (sl tO sO kO crt : Nat → Nat) (q0 : Nat) (ar : Nat → Int64) (S : im_S) (En : TPth → Prop) (cv vr : TPth → Nat → Option TVal) (mv : Option (TPth × Nat × TVal)) (Aw : TPth → Nat → Prop) (WV WC : TPth → Nat → TPth → Nat → Prop) (R H : List TEv) (nS nF : Nat) (fb : Nat → Nat) (fp : Nat → TPth) (fi : TPth → Nat) (tf : TPth → Nat → Nat) (tb : TPth → Nat → Option Nat) (ow si fo : Nat → Int32) (lw : Nat → Int64) : Prop :=
  AB K V y q0 ar En cv vr mv Aw WV WC R H (1001 ≤ R.length) ∧ MX V y e N L sl tO sO kO S nS nF fb fp fi tf tb ow si fo lw cv vr (fun D => cv D (crt (hdR D / 4))) Aw WV (fun D P t => ∃ t', WC D t' P t) ∧ CAg G S ∧ MG y N fi tf S mv R ∧ (∀ P, En P → OP V y nF fp fi P) ∧ MO y q0 N En nF fp fi tf tb ow si fo ∧ MT y cv mv R H nF fp fi tb ∧ MW V y N sO En nF fb fp fi lw ∧ MRs y q0 tf S cv ∧ MVf nF fp fi vr WV
section MIS
variable {K pl : Nat → Nat} {V : Nat → Int64} {y : TR} {e : Nat} {N M L : Nat → Nat} {n ρ τ : Nat} {G : im_S} {sl tO sO kO crt : Nat → Nat} {f : Nat} {W : Nat → Int32 × Int32 × Int32} {ν : Nat → Nat} {q0 : Nat} {ar : Nat → Int64} {S S' : im_S} {En : TPth → Prop} {cv vr cv' vr' : TPth → Nat → Option TVal} {mv mv' : Option (TPth × Nat × TVal)} {Aw : TPth → Nat → Prop} {WV WC WC' : TPth → Nat → TPth → Nat → Prop} {R H R' : List TEv} {fl fl' : Prop} {nS nF fu : Nat} {fb : Nat → Nat} {fp : Nat → TPth} {fi : TPth → Nat} {tf : TPth → Nat → Nat} {tb : TPth → Nat → Option Nat} {ow si fo : Nat → Int32} {lw : Nat → Int64}
theorem AB_fl (h : AB K V y q0 ar En cv vr mv Aw WV WC R H fl) (q : fl → fl') : AB K V y q0 ar En cv vr mv Aw WV WC R H fl' := ⟨h.1, h.2.1, h.2.2.1, h.2.2.2.1, h.2.2.2.2.1, fun q' => h.2.2.2.2.2 (fun u => q' (q u))⟩
theorem cag_k (h : CAg G S) (h1 : ∀ a i : Nat, 40 ≤ a → a ≤ 63 → S'.1 a i = S.1 a i) (h2 : ∀ a i : Nat, 40 ≤ a → a ≤ 63 → S'.2.1 a i = S.2.1 a i) : CAg G S' := fun a k q1 q2 => ⟨(h1 (a + 34) k (by omega) (by omega)).trans (h a k q1 q2).1, (h2 (a + 34) k (by omega) (by omega)).trans (h a k q1 q2).2⟩
theorem cag_mk (h : CAg G S) (q : MK S S') : CAg G S' := cag_k h (fun a i q1 q2 => q.1 a i (by omega) (by omega)) (fun a i q1 q2 => q.2.1 a i (by omega))
/-- values have kinds -/
theorem ty_rg {ty : Nat} {a : TVal} (h : tyO ty a) (h1 : 1 ≤ ty ∧ ty ≤ 3) : 1 ≤ a.1 ∧ a.1 ≤ 4 := by
  by_cases c : a.1 = 4
  · omega
  · have := h.2 c
    omega
theorem tyV_rg : ∀ (s : Nat) (x : TR) (p e' : Nat), tsz x ≤ s → Wt K x p e' 0 → 1 ≤ tyV K V x ∧ tyV K V x ≤ 3 := by
  intro s
  induction s with
  | zero => intro x p e' hs; cases x <;> simp [tsz] at hs
  | succ s ih =>
    intro x p e' hs w
    have hx := W_shp w
    rcases hx with ⟨j, rfl⟩ | ⟨j, rfl⟩ | ⟨j, rfl⟩ | ⟨j, as, rfl⟩ | ⟨j, a, b, rfl⟩ | ⟨j, a, b, d, rfl⟩ | ⟨j, fs, d, ns, g, rfl⟩ | ⟨j, a, rfl⟩ | ⟨j, a, b, rfl⟩ | ⟨j, a, b, rfl⟩ | ⟨j, a, b, rfl⟩ | ⟨j, a, rfl⟩
    · exact ⟨Nat.le_refl 1, by show 1 ≤ 3; omega⟩
    · show 1 ≤ 2 ∧ 2 ≤ 3; omega
    · exact tvV_r (V j)
    · exact tvV_r (V j)
    · obtain ⟨-, -, bb, w1, w2⟩ := w
      exact ih b _ _ (by simp [tsz] at hs; omega) w2
    · obtain ⟨-, bb, cc, w1, w2, w3⟩ := w
      exact ih b _ _ (by simp [tsz] at hs; omega) w2
    · obtain ⟨-, b1, d1, f1, n1, n2, w1, w2, w3, w4⟩ := w
      exact ih g _ _ (by simp [tsz] at hs; omega) w4
    · show 1 ≤ (if K j = 45 then 1 else 2) ∧ (if K j = 45 then 1 else 2) ≤ 3
      split <;> omega
    · show 1 ≤ (if stg (K j) ≤ 3 then 2 else 1) ∧ (if stg (K j) ≤ 3 then 2 else 1) ≤ 3
      split <;> omega
    · show 1 ≤ 1 ∧ 1 ≤ 3; omega
    · show 1 ≤ 3 ∧ 3 ≤ 3; omega
    · obtain ⟨-, bb, w1, -⟩ := w
      exact ih a _ _ (by simp [tsz] at hs; omega) w1
theorem va_rg (w : PW K y 0 e) (A : AB K V y q0 ar En cv vr mv Aw WV WC R H fl) {P : TPth} {t : Nat} {a : TVal} (h : Vm cv mv P t a) : 1 ≤ a.1 ∧ a.1 ≤ 4 := by
  obtain ⟨-, z, ⟨z1, z2, z3, z4⟩, hty⟩ := A.2.1.1 P t a h
  obtain ⟨⟨p', e', wz⟩, -, -⟩ := (tl_P w) z z1
  exact ty_rg hty (tyV_rg (tsz z.1) z.1 p' e' (Nat.le_refl _) wz)
/-- a token that somebody takes is no cell -/
theorem no_cel (X : XB K pl V y e N M L n ρ τ G sl tO sO kO crt f W ν) {P0 P1 : TPth} {t0 : Nat} {z1 : TR × List Nat × Nat} (hz : z1 ∈ scP y) (hr : z1.2.2 = hdR P1) (hI : Inp V y P1 z1 P0 t0) {j : Nat} {x x' : TR} {γ : List Nat} {r : Nat} (ht : (.tag 11 (.tag j (.append x x')), γ, r) ∈ scP y) : t0 ≠ rtk x' := fun q => by
  obtain ⟨C, hS, B, hF, hc1, hc2⟩ := X
  obtain ⟨⟨p', e', wz⟩, hs, htr⟩ := (tl_P B.1) _ ht
  obtain ⟨hj, -, -, bb, w1, w2⟩ := wz
  have g1 := Wt_rt w1
  have g2 := Wt_rt w2
  obtain ⟨p1, p2, p3⟩ := pr_PW B.1
  have hc : Chd (.tag 11 (.tag j (.append x x')), γ, r) 8 x' (4 * j) := .inr ⟨rfl, rfl, rfl⟩
  rcases Inp_own B hz hr hI with ⟨k, x1, r1, c1, c2, -⟩ | ⟨q', cnt, x1, c1, c2, -⟩
  · have e1 := p3 z1 _ k 8 x1 x' r1 (4 * j) hz ht c1 hc (c2.trans q)
    have := (ou_P B.1).2 z1 hz _ ht e1
    subst this
    have q5 : t0 = rtk x := hI.2
    omega
  · exact (p2 _ 8 x' (4 * j) ht hc).2 ⟨q', cnt, x1, c1, c2.trans q⟩
theorem fun_nc (X : XB K pl V y e N M L n ρ τ G sl tO sO kO crt f W ν) {q cnt : Nat} {xf : TR} (hf : (q, cnt, xf) ∈ fuP y) : ∀ j x x' γ r, (.tag 11 (.tag j (.append x x')), γ, r) ∈ scP y → rtk xf ≠ rtk x' := fun j x x' γ r ht e1 => ((pr_PW X.1.1).2.1 _ 8 x' (4 * j) ht (.inr ⟨rfl, rfl, rfl⟩)).2 ⟨q, cnt, xf, hf, e1⟩
theorem crt_no (X : XB K pl V y e N M L n ρ τ G sl tO sO kO crt f W ν) {t0 : Nat} (hNC : ∀ j x x' γ r, (.tag 11 (.tag j (.append x x')), γ, r) ∈ scP y → t0 ≠ rtk x') (he : t0 < e) (t : Nat) : t0 ≠ crt t := fun q => by
  by_cases c : t ∈ tbP y
  · obtain ⟨z, h1, h2⟩ := List.mem_map.mp c
    obtain ⟨h1, h3⟩ := List.mem_filter.mp h1
    have hs := ((tl_P X.1.1) z h1).2.1
    obtain ⟨x, γ, r⟩ := z
    have hs : shp x := hs
    rcases hs with ⟨j, rfl⟩ | ⟨j, rfl⟩ | ⟨j, rfl⟩ | ⟨j, as, rfl⟩ | ⟨j, a, b, rfl⟩ | ⟨j, a, b, d, rfl⟩ | ⟨j, fs, d, ns, g, rfl⟩ | ⟨j, a, rfl⟩ | ⟨j, a, b, rfl⟩ | ⟨j, a, b, rfl⟩ | ⟨j, a, b, rfl⟩ | ⟨j, a, rfl⟩
    · cases h3
    · cases h3
    · cases h3
    · cases h3
    · cases h3
    · cases h3
    · cases h3
    · cases h3
    · cases h3
    · cases h3
    · have h2 : j = t := h2
      subst h2
      exact hNC _ _ _ _ _ h1 (q.trans (X.2.2.2.2.1 _ _ _ _ _ h1))
    · cases h3
  · have := X.2.2.2.2.2 t c
    omega
/-- who is awake, who waits, behind a step without new paths -/
theorem aw_eq (w : ABw K V y En cv vr mv Aw WV WC R H) (hv : ∀ F b P t, WV F b P t → vr' F b = none) (hc : ∀ D t' P t, WC D t' P t → cv' D t' = none) : (∀ P t, AwN y Aw (fun _ _ => False) WV WC cv' vr' (fun _ => False) P t ↔ Aw P t) ∧ (∀ F b P t, WVN WV vr' F b P t ↔ WV F b P t) ∧ ∀ D t' P t, WCN WC (fun _ _ _ _ => False) cv' D t' P t ↔ WC D t' P t := by
  refine ⟨fun P t => ⟨fun q => ?_, fun q => .inl ⟨q, id⟩⟩, fun F b P t => ⟨fun q => q.1, fun q => ⟨q, hv F b P t q⟩⟩, fun D t' P t => ⟨fun q => q.elim (fun q => q.1) False.elim, fun q => .inl ⟨q, hc D t' P t q⟩⟩⟩
  rcases q with q | ⟨F, b, q1, q2⟩ | ⟨D, t', q1, q2⟩ | ⟨q, -⟩
  · exact q.1
  · exact absurd (hv F b P t q1) q2
  · exact absurd (hc D t' P t q1) q2
  · exact q.elim
/-- a step that enters nothing -/
theorem MI_st (h : MI K V y e N L G sl tO sO kO crt q0 ar S En cv vr mv Aw WV WC R H nS nF fb fp fi tf tb ow si fo lw) {Aw' : TPth → Nat → Prop} {WV' : TPth → Nat → TPth → Nat → Prop} (hfl : 1001 ≤ R.length → 1001 ≤ R'.length)
    (A' : AB K V y q0 ar En cv' vr' mv' Aw' WV' WC' R' H (1001 ≤ R.length)) (X' : MX V y e N L sl tO sO kO S' nS nF fb fp fi tf tb ow si fo lw cv' vr' (fun D => cv' D (crt (hdR D / 4))) Aw' WV' (fun D P t => ∃ t', WC' D t' P t)) (hA : CAg G S') (hG : MG y N fi tf S' mv' R')
    (hv : ∀ P t a, Vm cv' mv' P t a → a.1 = 3 → ∃ m, tb a.2.2.1 a.2.2.2 = some m ∧ a.2.1 = Int64.ofNat m) (hR : ∀ P j k x x' γ r, (P, j, k + 1) ∈ R' → (.tag 11 (.tag j (.append x x')), γ, r) ∈ scP y → (P, j, k + 1) ∈ R) (hres : MRs y q0 tf S' cv') (hMV : MVf nF fp fi vr' WV') :
    MI K V y e N L G sl tO sO kO crt q0 ar S' En cv' vr' mv' Aw' WV' WC' R' H nS nF fb fp fi tf tb ow si fo lw := by
  obtain ⟨-, -, -, -, h5, h6, ⟨h7, h8, h9⟩, h10, -⟩ := h
  refine ⟨AB_fl A' hfl, X', hA, hG, h5, h6, ⟨hv, h8, fun P j k x x' γ r q1 q2 => ?_⟩, h10, hres, hMV⟩
  rcases q1 with q1 | q1
  · exact h9 P j k x x' γ r (.inl (hR P j k x x' γ r q1 q2)) q2
  · exact h9 P j k x x' γ r (.inr q1) q2
theorem mrs_k (h : MRs y q0 tf S cv) (h3 : S'.1 38 3 = S.1 38 3) (h4 : S'.2.1 38 4 = S.2.1 38 4) : MRs y q0 tf S' cv := fun cnt x q => by
  rw [h3, h4]
  exact h cnt x q
/-- a token that somebody takes is not the result -/
theorem no_res (X : XB K pl V y e N M L n ρ τ G sl tO sO kO crt f W ν) (A : AB K V y q0 ar En cv vr mv Aw WV WC R H fl) {P0 P1 : TPth} {t0 : Nat} {z1 : TR × List Nat × Nat} (hz : z1 ∈ scP y) (hr : z1.2.2 = hdR P1) (hE : En P1) (hI : Inp V y P1 z1 P0 t0) {cnt : Nat} {x : TR} (hf : (q0, cnt, x) ∈ fuP y) : ¬ ([(4 * q0, 0)] = P0 ∧ rtk x = t0) := fun ⟨c1, c2⟩ => by
  obtain ⟨p1, p2, p3⟩ := pr_PW X.1.1
  rcases Inp_own X.2.2.1 hz hr hI with ⟨k, x1, r1, d1, d2, -⟩ | ⟨q', cnt', x1, d1, d2, d3⟩
  · exact (p2 z1 k x1 r1 hz d1).2 ⟨q0, cnt, x, hf, c2.trans d2.symm⟩
  · rw [← c1, own_call X.1.1 hf 0 []] at d3
    have : [] = P1 := congrArg Prod.fst d3
    rw [← this] at hE
    exact (A.1.2.1 _ hE).1
end MIS
