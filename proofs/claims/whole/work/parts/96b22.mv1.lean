/-! a token that moves, in the class: who takes it -/
def cvU (cv : TPth → Nat → Option TVal) (P0 : TPth) (t0 : Nat) (a : TVal) : TPth → Nat → Option TVal := fun P t => if P = P0 ∧ t = t0 then some a else cv P t
/-- what is there when the token has been put down -/
def M1 (V : Nat → Int64) (y : TR) (e : Nat) (N L : Nat → Nat) (G : im_S) (sl tO sO kO crt : Nat → Nat) (q0 : Nat) (S1 : im_S) (P0 : TPth) (t0 : Nat) (a : TVal) (cv vr : TPth → Nat → Option TVal) (Aw : TPth → Nat → Prop) (WV WC : TPth → Nat → TPth → Nat → Prop) (R : List TEv) (nS nF : Nat) (fb : Nat → Nat) (fp : Nat → TPth) (fi : TPth → Nat) (tf : TPth → Nat → Nat) (tb : TPth → Nat → Option Nat) (ow si fo : Nat → Int32) (lw : Nat → Int64) : Prop :=
  MX V y e N L sl tO sO kO S1 nS nF fb fp fi tf tb ow si fo lw (cvU cv P0 t0 a) vr (fun D => cv D (crt (hdR D / 4))) Aw WV (fun D P t => ∃ t', WC D t' P t) ∧ CAg G S1 ∧ MG y N fi tf S1 none R ∧ S1.1 38 12 = nI (fi (fpt y P0)) ∧ S1.1 38 13 = nI (N t0) ∧ S1.1 38 14 = nI a.1 ∧ EcW tf a (S1.2.1 38 15) ∧ N t0 < 500 ∧ OP V y nF fp fi P0 ∧ (∃ z, NdA y P0 t0 z) ∧ t0 < e ∧ (1 ≤ a.1 ∧ a.1 ≤ 4) ∧ (a.1 = 3 → ∃ m, tb a.2.2.1 a.2.2.2 = some m ∧ a.2.1 = Int64.ofNat m) ∧ MRs y q0 tf S1 cv
section MV1
variable {K pl : Nat → Nat} {V : Nat → Int64} {y : TR} {e : Nat} {N M L : Nat → Nat} {n ρ τ : Nat} {G : im_S} {sl tO sO kO crt : Nat → Nat} {f : Nat} {W : Nat → Int32 × Int32 × Int32} {ν : Nat → Nat} {q0 : Nat} {ar : Nat → Int64} {S S1 : im_S} {En : TPth → Prop} {cv vr vr' : TPth → Nat → Option TVal} {mv' : Option (TPth × Nat × TVal)} {Aw : TPth → Nat → Prop} {WV WC : TPth → Nat → TPth → Nat → Prop} {R H R' : List TEv} {nS nF fu : Nat} {fb : Nat → Nat} {fp : Nat → TPth} {fi : TPth → Nat} {tf : TPth → Nat → Nat} {tb : TPth → Nat → Option Nat} {ow si fo : Nat → Int32} {lw : Nat → Int64} {P0 P1 : TPth} {t0 : Nat} {a : TVal} {z1 : TR × List Nat × Nat}
theorem cvU_i (hn : cv P0 t0 = none) : ∀ P t v, cvU cv P0 t0 a P t = some v ↔ Vm cv (some (P0, t0, a)) P t v := fun P t v => by
  unfold cvU
  by_cases c : P = P0 ∧ t = t0
  · rw [if_pos c]
    refine ⟨fun q => ?_, fun q => ?_⟩
    · cases q
      exact .inr (by rw [c.1, c.2])
    · rcases q with q | q
      · rw [c.1, c.2, hn] at q
        cases q
      · cases q
        rfl
  · rw [if_neg c]
    refine ⟨.inl, fun q => ?_⟩
    rcases q with q | q
    · exact q
    · cases q
      exact absurd ⟨rfl, rfl⟩ c
theorem mv_put (X : XB K pl V y e N M L n ρ τ G sl tO sO kO crt f W ν) (h : MI K V y e N L G sl tO sO kO crt q0 ar S En cv vr (some (P0, t0, a)) Aw WV WC R H nS nF fb fp fi tf tb ow si fo lw) : ∃ S1 : im_S, f_X5_move fu S = mvD fu (S.1 44 (N t0)) S1 ∧ M1 V y e N L G sl tO sO kO crt q0 S1 P0 t0 a cv vr Aw WV WC R nS nF fb fp fi tf tb ow si fo lw := by
  obtain ⟨C, hS, B, hF, hc1, hc2⟩ := X
  obtain ⟨A, hX, hA, ⟨g1, g2, g3, g4, g5⟩, hE, hO, hT, hW, hres, -⟩ := h
  obtain ⟨r11, r12, r13, r14, r15⟩ := g2 P0 t0 a rfl
  obtain ⟨b1, z, ⟨z1, z2, z3, z4⟩, hty⟩ := A.2.1.1 P0 t0 a (.inr rfl)
  have hn : cv P0 t0 = none := A.2.1.2.1 P0 t0 a rfl
  have hOP := hE P0 b1
  have hX0 : MX V y e N L sl tO sO kO (uI S 38 11 0) nS nF fb fp fi tf tb ow si fo lw cv vr (fun D => cv D (crt (hdR D / 4))) Aw WV (fun D P t => ∃ t', WC D t' P t) := MX_reg hX (fun a i q1 q2 => uI_ne (by omega)) (uI_ne (by omega)) (fun _ => rfl) rfl
  have hA0 : CAg G (uI S 38 11 0) := cag_k hA (fun a i q1 q2 => uI_ne (by omega)) (fun a i q1 q2 => rfl)
  have hk := (op_tk C hS hOP z1 z2 (z4.trans z3.symm)).1
  rw [z3] at hk
  have hN := (tk_sl C hS hk).2.1
  have hrg := va_rg C.1 A (.inr rfl)
  have ht3 := hT.1 P0 t0 a (.inr rfl)
  obtain ⟨p1, p2, p3⟩ := x_put (cv' := cvU cv P0 t0 a) C hS B.2.2.2.2.1 hX0 hOP ⟨z, z1, z2, z3, z4⟩ hn hrg r15 ht3 (fun P t => rfl)
  obtain ⟨S1, hS1⟩ : ∃ S1, S1 = uJ (uI (uI S 38 11 0) 65 (fb (fi (fpt y P0)) + sO (N t0)) (nI a.1)) 66 (fb (fi (fpt y P0)) + sO (N t0)) (S.2.1 38 15) := ⟨_, rfl⟩
  rw [← hS1] at p1 p2 p3
  have k38 : ∀ i : Nat, i ≠ 10 → S1.1 38 i = (uI S 38 11 0).1 38 i := fun i q => p3.1 38 i (by omega) (by omega)
  have k39 : ∀ i : Nat, S1.1 39 i = S.1 39 i := fun i => (p3.1 39 i (by omega) (by omega)).trans (uI_ne (by omega))
  refine ⟨S1, ?_, p2, cag_mk hA0 p3, ⟨fun _ => ?_, fun P t a' q => (by cases q), ?_, g4, fun k ev q => (k39 k).trans (g5 k ev q)⟩, ?_, ?_, ?_, ?_, hN, hOP, ⟨z, z1, z2, z3, z4⟩, hk.2.1, hrg, ht3, mrs_k hres ((k38 3 (by omega)).trans (uI_ne (by omega))) ((p3.2.1 38 4 (by omega)).trans rfl)⟩
  · have e14 : (uI S 38 11 0).1 38 14 = nI a.1 := (uI_ne (by omega)).trans r14
    have e15 : (uI S 38 11 0).2.1 38 15 = S.2.1 38 15 := rfl
    unfold f_X5_move
    rw [r12, r13, mI_in (a := N t0) (n := 512) (by omega) (by omega), x_slot C hS hA0 hX0 hOP.2.2.1 hk]
    simp only [gd_t, Option.bind_some]
    rw [e14, e15, p1]
    simp only [Option.bind_some]
    rw [nI_clamp (show N t0 < 2 ^ 31 by omega)]
    rfl
  · rw [k38 11 (by omega), uI_eq]
  · rw [k38 8 (by omega), uI_ne (by omega)]
    exact g3
  · rw [k38 12 (by omega), uI_ne (by omega)]
    exact r12
  · rw [k38 13 (by omega), uI_ne (by omega)]
    exact r13
  · rw [k38 14 (by omega), uI_ne (by omega)]
    exact r14
  · rw [p3.2.1 38 15 (by omega)]
    exact r15
/-- memory, for a step that wakes nobody -/
theorem m1_same (X : XB K pl V y e N M L n ρ τ G sl tO sO kO crt f W ν) (A : AB K V y q0 ar En cv vr (some (P0, t0, a)) Aw WV WC R H (1001 ≤ R.length)) (he : t0 < e) (hNC : ∀ j x x' γ r, (.tag 11 (.tag j (.append x x')), γ, r) ∈ scP y → t0 ≠ rtk x') :
    (∀ P t, AwN y Aw (fun _ _ => False) WV WC (cvU cv P0 t0 a) vr (fun _ => False) P t ↔ Aw P t) ∧ (∀ F b P t, WVN WV vr F b P t ↔ WV F b P t) ∧ (∀ D t' P t, WCN WC (fun _ _ _ _ => False) (cvU cv P0 t0 a) D t' P t ↔ WC D t' P t) ∧ (fun D => cvU cv P0 t0 a D (crt (hdR D / 4))) = fun D => cv D (crt (hdR D / 4)) := by
  obtain ⟨q1, q2, q3⟩ := aw_eq A.2.1 (cv' := cvU cv P0 t0 a) (vr' := vr) (fun F b P t q => (A.2.1.2.2.2.2.2.1 F b P t q).1) (fun D t' P t q => by
    obtain ⟨u1, x, x', γ, r, v, v', w, w', γ', r', -, -, -, u5, u6, u7, -⟩ := A.2.1.2.2.2.2.2.2.1 D t' P t q
    refine (if_neg (fun ⟨c1, c2⟩ => ?_)).trans u1
    exact hNC _ _ _ _ _ u5 (c2.symm.trans u7))
  exact ⟨q1, q2, q3, funext (fun D => if_neg (fun ⟨_, c2⟩ => crt_no X hNC he (hdR D / 4) c2.symm))⟩
theorem m1_mx (X : XB K pl V y e N M L n ρ τ G sl tO sO kO crt f W ν) (A : AB K V y q0 ar En cv vr (some (P0, t0, a)) Aw WV WC R H (1001 ≤ R.length)) (he : t0 < e) (hNC : ∀ j x x' γ r, (.tag 11 (.tag j (.append x x')), γ, r) ∈ scP y → t0 ≠ rtk x') (h : MX V y e N L sl tO sO kO S1 nS nF fb fp fi tf tb ow si fo lw (cvU cv P0 t0 a) vr (fun D => cv D (crt (hdR D / 4))) Aw WV (fun D P t => ∃ t', WC D t' P t)) :
    MX V y e N L sl tO sO kO S1 nS nF fb fp fi tf tb ow si fo lw (cvU cv P0 t0 a) vr (fun D => cvU cv P0 t0 a D (crt (hdR D / 4))) (AwN y Aw (fun _ _ => False) WV WC (cvU cv P0 t0 a) vr (fun _ => False)) (WVN WV vr) (fun D P t => ∃ t', WCN WC (fun _ _ _ _ => False) (cvU cv P0 t0 a) D t' P t) := by
  obtain ⟨q1, q2, q3, q4⟩ := m1_same X A he hNC
  rw [q4]
  exact MX_cg h q1 q2 (fun D P t => ⟨fun ⟨t', q⟩ => ⟨t', (q3 D t' P t).mp q⟩, fun ⟨t', q⟩ => ⟨t', (q3 D t' P t).mpr q⟩⟩)
/-- values of kind 3 come from tables that were made -/
theorem m1_v (hn : cv P0 t0 = none) (hT : ∀ P t v, Vm cv (some (P0, t0, a)) P t v → v.1 = 3 → ∃ m, tb v.2.2.1 v.2.2.2 = some m ∧ v.2.1 = Int64.ofNat m) (hm : ∀ P t v, mv' = some (P, t, v) → v = a) : ∀ P t v, Vm (cvU cv P0 t0 a) mv' P t v → v.1 = 3 → ∃ m, tb v.2.2.1 v.2.2.2 = some m ∧ v.2.1 = Int64.ofNat m := fun P t v q => by
  rcases q with q | q
  · exact hT P t v ((cvU_i hn P t v).mp q)
  · rw [hm P t v q]
    exact hT P0 t0 a (.inr rfl)
theorem m1_r (X : XB K pl V y e N M L n ρ τ G sl tO sO kO crt f W ν) (A : AB K V y q0 ar En cv vr (some (P0, t0, a)) Aw WV WC R H (1001 ≤ R.length)) (hz : z1 ∈ scP y) (hr : z1.2.2 = hdR P1) (hE : En P1) (hI : Inp V y P1 z1 P0 t0) (h : MRs y q0 tf S1 cv) : MRs y q0 tf S1 (cvU cv P0 t0 a) := fun cnt x q => by
  have e1 : cvU cv P0 t0 a [(4 * q0, 0)] (rtk x) = cv [(4 * q0, 0)] (rtk x) := if_neg (no_res X A hz hr hE hI q)
  rw [e1]
  exact h cnt x q
/-- it is passed on -/
theorem MV_pass (X : XB K pl V y e N M L n ρ τ G sl tO sO kO crt f W ν) (h : MI K V y e N L G sl tO sO kO crt q0 ar S En cv vr (some (P0, t0, a)) Aw WV WC R H nS nF fb fp fi tf tb ow si fo lw) (h1 : M1 V y e N L G sl tO sO kO crt q0 S1 P0 t0 a cv vr Aw WV WC R nS nF fb fp fi tf tb ow si fo lw) (hz : z1 ∈ scP y) (hr : z1.2.2 = hdR P1) (hE : En P1) (hI : Inp V y P1 z1 P0 t0) {j : Nat}
    (A' : AB K V y q0 ar En (cvU cv P0 t0 a) vr (some (P1, j, a)) (AwN y Aw (fun _ _ => False) WV WC (cvU cv P0 t0 a) vr (fun _ => False)) (WVN WV vr) (WCN WC (fun _ _ _ _ => False) (cvU cv P0 t0 a)) R H (1001 ≤ R.length)) :
    ∃ S' : im_S, f_X5_send (nI (fi (fpt y P1))) (nI (N j)) (S1.1 38 14) (S1.2.1 38 15) S1 = some ((), S') ∧ MI K V y e N L G sl tO sO kO crt q0 ar S' En (cvU cv P0 t0 a) vr (some (P1, j, a)) (AwN y Aw (fun _ _ => False) WV WC (cvU cv P0 t0 a) vr (fun _ => False)) (WVN WV vr) (WCN WC (fun _ _ _ _ => False) (cvU cv P0 t0 a)) R H nS nF fb fp fi tf tb ow si fo lw := by
  obtain ⟨m1, m2, m3, m4, m5, m6, m7, m8, m9, m10, m11, m12, m13, m14⟩ := h1
  obtain ⟨S', g1, g2, g3, g4, g5⟩ := g_send (P := P1) (t := j) m3 m7
  have hn : cv P0 t0 = none := h.1.2.1.2.1 P0 t0 a rfl
  rw [m6]
  refine ⟨S', g1, MI_st h id A' (MX_reg (m1_mx X h.1 m11 (fun _ _ _ _ _ ht => no_cel X hz hr hI ht) m1) (fun b i q1 q2 => g3 b i (by omega)) (g3 38 10 (by omega)) (fun i => g4 66 i (by omega)) g5) (cag_k m2 (fun b i q1 q2 => g3 b i (by omega)) (fun b i q1 q2 => g4 b i (by omega))) g2 (m1_v hn h.2.2.2.2.2.2.1.1 (fun P t v q => by cases q; rfl)) (fun P j' k x x' γ r q _ => q) (mrs_k (m1_r X h.1 hz hr hE hI m14) (g3 38 3 (by omega)) (g4 38 4 (by omega))) ⟨h.2.2.2.2.2.2.2.2.2.1, fun F b P t q => h.2.2.2.2.2.2.2.2.2.2 F b P t q.1⟩⟩
/-- it stays there -/
theorem MV_nil (X : XB K pl V y e N M L n ρ τ G sl tO sO kO crt f W ν) (h : MI K V y e N L G sl tO sO kO crt q0 ar S En cv vr (some (P0, t0, a)) Aw WV WC R H nS nF fb fp fi tf tb ow si fo lw) (h1 : M1 V y e N L G sl tO sO kO crt q0 S1 P0 t0 a cv vr Aw WV WC R nS nF fb fp fi tf tb ow si fo lw) (hz : z1 ∈ scP y) (hr : z1.2.2 = hdR P1) (hE : En P1) (hI : Inp V y P1 z1 P0 t0)
    (A' : AB K V y q0 ar En (cvU cv P0 t0 a) vr none (AwN y Aw (fun _ _ => False) WV WC (cvU cv P0 t0 a) vr (fun _ => False)) (WVN WV vr) (WCN WC (fun _ _ _ _ => False) (cvU cv P0 t0 a)) R H (1001 ≤ R.length)) :
    MI K V y e N L G sl tO sO kO crt q0 ar S1 En (cvU cv P0 t0 a) vr none (AwN y Aw (fun _ _ => False) WV WC (cvU cv P0 t0 a) vr (fun _ => False)) (WVN WV vr) (WCN WC (fun _ _ _ _ => False) (cvU cv P0 t0 a)) R H nS nF fb fp fi tf tb ow si fo lw := by
  obtain ⟨m1, m2, m3, m4, m5, m6, m7, m8, m9, m10, m11, m12, m13, m14⟩ := h1
  have hn : cv P0 t0 = none := h.1.2.1.2.1 P0 t0 a rfl
  exact MI_st h id A' (m1_mx X h.1 m11 (fun _ _ _ _ _ ht => no_cel X hz hr hI ht) m1) m2 m3 (m1_v hn h.2.2.2.2.2.2.1.1 (fun P t v q => by cases q)) (fun P j' k x x' γ r q _ => q) (m1_r X h.1 hz hr hE hI m14) ⟨h.2.2.2.2.2.2.2.2.2.1, fun F b P t q => h.2.2.2.2.2.2.2.2.2.2 F b P t q.1⟩
/-- an event gets ready -/
theorem MV_ev (X : XB K pl V y e N M L n ρ τ G sl tO sO kO crt f W ν) (h : MI K V y e N L G sl tO sO kO crt q0 ar S En cv vr (some (P0, t0, a)) Aw WV WC R H nS nF fb fp fi tf tb ow si fo lw) (h1 : M1 V y e N L G sl tO sO kO crt q0 S1 P0 t0 a cv vr Aw WV WC R nS nF fb fp fi tf tb ow si fo lw) (hz : z1 ∈ scP y) (hr : z1.2.2 = hdR P1) (hE : En P1) (hI : Inp V y P1 z1 P0 t0) {ev : TEv} {x1 x2 : Int32} (hc : x1 * 512 + x2 = nI (evc y N fi ev)) (hv : tbK z1.1 = true → ev.2.2 = 0) (hv2 : ev.2.1 = otk z1.1)
    (A' : ∀ R', (R' = R ++ [ev] ∨ (1001 ≤ R.length ∧ R' = R)) → AB K V y q0 ar En (cvU cv P0 t0 a) vr none (AwN y Aw (fun _ _ => False) WV WC (cvU cv P0 t0 a) vr (fun _ => False)) (WVN WV vr) (WCN WC (fun _ _ _ _ => False) (cvU cv P0 t0 a)) R' H (1001 ≤ R.length)) :
    ∃ (S' : im_S) (R' : List TEv), f_X5_makeReady x1 x2 S1 = some ((), S') ∧ MI K V y e N L G sl tO sO kO crt q0 ar S' En (cvU cv P0 t0 a) vr none (AwN y Aw (fun _ _ => False) WV WC (cvU cv P0 t0 a) vr (fun _ => False)) (WVN WV vr) (WCN WC (fun _ _ _ _ => False) (cvU cv P0 t0 a)) R' H nS nF fb fp fi tf tb ow si fo lw ∧ (R' = R ++ [ev] ∨ (1001 ≤ R.length ∧ R' = R)) := by
  obtain ⟨m1, m2, m3, m4, m5, m6, m7, m8, m9, m10, m11, m12, m13, m14⟩ := h1
  have hn : cv P0 t0 = none := h.1.2.1.2.1 P0 t0 a rfl
  obtain ⟨S', R', g1, g2, g3, g4, g5⟩ := g_rdy (x1 := x1) (x2 := x2) m3 hc
  refine ⟨S', R', g1, MI_st h (fun q => ?_) (A' R' g2) (MX_reg (m1_mx X h.1 m11 (fun _ _ _ _ _ ht => no_cel X hz hr hI ht) m1) (fun b i q1 q2 => g4 b i (by omega)) (g4 38 10 (by omega)) (fun i => by rw [g5]) (by rw [g5])) (cag_k m2 (fun b i q1 q2 => g4 b i (by omega)) (fun b i q1 q2 => by rw [g5])) g3 (m1_v hn h.2.2.2.2.2.2.1.1 (fun P t v q => by cases q)) (fun P j' k x x' γ r q q' => ?_) (mrs_k (m1_r X h.1 hz hr hE hI m14) (g4 38 3 (by omega)) (by rw [g5])) ⟨h.2.2.2.2.2.2.2.2.2.1, fun F b P t q => h.2.2.2.2.2.2.2.2.2.2 F b P t q.1⟩, g2⟩
  · rcases g2 with g2 | g2
    · rw [g2, List.length_append]
      omega
    · rw [g2.2]
      exact q
  · rcases g2 with g2 | g2
    · rw [g2] at q
      rcases List.mem_append.mp q with q | q
      · exact q
      · have q := List.mem_singleton.mp q
        have e1 : j' = otk z1.1 := by rw [← hv2, ← q]
        have e2 := (ou_P X.1.1).2 _ q' z1 hz e1
        have e3 := hv (by rw [← e2]; rfl)
        rw [← q] at e3
        cases e3
    · rw [g2.2] at q
      exact q
/-- a variable gets its value -/
theorem MV_var (hfu : 600000 ≤ fu) (X : XB K pl V y e N M L n ρ τ G sl tO sO kO crt f W ν) (h : MI K V y e N L G sl tO sO kO crt q0 ar S En cv vr (some (P0, t0, a)) Aw WV WC R H nS nF fb fp fi tf tb ow si fo lw) (h1 : M1 V y e N L G sl tO sO kO crt q0 S1 P0 t0 a cv vr Aw WV WC R nS nF fb fp fi tf tb ow si fo lw) (hz : z1 ∈ scP y) (hr : z1.2.2 = hdR P1) (hE : En P1) (hI : Inp V y P1 z1 P0 t0) {f0 b0 : Nat} (hf0 : f0 < nF) (hv0 : VT V y (fp f0) b0) (h0 : vr (fp f0) b0 = none)
    (A' : ∀ vr', (∀ F b v, vr' F b = some v ↔ vr F b = some v ∨ (F = fp f0 ∧ b = b0 ∧ v = a)) → AB K V y q0 ar En (cvU cv P0 t0 a) vr' none (AwN y Aw (fun _ _ => False) WV WC (cvU cv P0 t0 a) vr' (fun _ => False)) (WVN WV vr') (WCN WC (fun _ _ _ _ => False) (cvU cv P0 t0 a)) R H (1001 ≤ R.length)) :
    ∃ (S' : im_S) (vr' : TPth → Nat → Option TVal), f_X5_settle fu (nI (fb f0 + sO (N b0))) (S1.1 38 14) (S1.2.1 38 15) S1 = some ((), S') ∧ MI K V y e N L G sl tO sO kO crt q0 ar S' En (cvU cv P0 t0 a) vr' none (AwN y Aw (fun _ _ => False) WV WC (cvU cv P0 t0 a) vr' (fun _ => False)) (WVN WV vr') (WCN WC (fun _ _ _ _ => False) (cvU cv P0 t0 a)) R H nS nF fb fp fi tf tb ow si fo lw ∧ ∀ F b v, vr F b = some v → vr' F b = some v := by
  obtain ⟨m1, m2, m3, m4, m5, m6, m7, m8, m9, m10, m11, m12, m13, m14⟩ := h1
  have hn : cv P0 t0 = none := h.1.2.1.2.1 P0 t0 a rfl
  obtain ⟨-, -, s3, s4⟩ := m1_same X h.1 m11 (fun _ _ _ _ _ ht => no_cel X hz hr hI ht)
  obtain ⟨vr', hvr'⟩ : ∃ vr' : TPth → Nat → Option TVal, vr' = fun F b => if F = fp f0 ∧ b = b0 then some a else vr F b := ⟨_, rfl⟩
  have hvi : ∀ F b v, vr' F b = some v ↔ vr F b = some v ∨ (F = fp f0 ∧ b = b0 ∧ v = a) := fun F b v => by
    rw [hvr']
    by_cases c : F = fp f0 ∧ b = b0
    · show (if F = fp f0 ∧ b = b0 then some a else vr F b) = some v ↔ _
      rw [if_pos c]
      refine ⟨fun q => .inr ⟨c.1, c.2, (Option.some.inj q).symm⟩, fun q => ?_⟩
      rcases q with q | q
      · rw [c.1, c.2, h0] at q
        cases q
      · rw [q.2.2]
    · show (if F = fp f0 ∧ b = b0 then some a else vr F b) = some v ↔ _
      rw [if_neg c]
      exact ⟨.inl, fun q => q.elim id (fun q => absurd ⟨q.1, q.2.1⟩ c)⟩
  obtain ⟨S', g1, g2, g3⟩ := x_setv (vr' := vr') hfu X.1 X.2.1 X.2.2.1.2.2.2.2.1 m1 hf0 hv0 h0 m12 m7 m13 (fun F b => by rw [hvr'])
  have hno : ∀ {F : TPth} {b : Nat}, vr' F b = none ↔ vr F b = none ∧ ¬ (F = fp f0 ∧ b = b0) := fun {F b} => by
    rw [hvr']
    show (if F = fp f0 ∧ b = b0 then some a else vr F b) = none ↔ _
    by_cases c : F = fp f0 ∧ b = b0
    · rw [if_pos c]
      exact ⟨fun q => (by cases q), fun q => absurd c q.2⟩
    · rw [if_neg c]
      exact ⟨fun q => ⟨q, c⟩, fun q => q.1⟩
  have hwn : ∀ F b P t, WV F b P t → vr F b = none := fun F b P t q => (h.1.2.1.2.2.2.2.2.1 F b P t q).1
  rw [m6]
  refine ⟨S', vr', g1, MI_st h id (A' vr' hvi) ?_ (cag_mk m2 g3) ?_ (m1_v hn h.2.2.2.2.2.2.1.1 (fun P t v q => by cases q)) (fun P j' k x x' γ r q _ => q) (mrs_k (m1_r X h.1 hz hr hE hI m14) (g3.1 38 3 (by omega) (by omega)) (g3.2.1 38 4 (by omega))) ⟨fun F b v q => ?_, fun F b P t q => h.2.2.2.2.2.2.2.2.2.2 F b P t q.1⟩, fun F b v q => (hvi F b v).mpr (.inl q)⟩
  · rw [s4]
    refine MX_cg g2 (fun P t => ⟨fun q => ?_, fun q => ?_⟩) (fun F b P t => ⟨fun q => ⟨q.1, (hno.mp q.2).2⟩, fun q => ⟨q.1, hno.mpr ⟨hwn F b P t q.1, q.2⟩⟩⟩) (fun D P t => ⟨fun ⟨t', q⟩ => ⟨t', (s3 D t' P t).mp q⟩, fun ⟨t', q⟩ => ⟨t', (s3 D t' P t).mpr q⟩⟩)
    · rcases q with q | ⟨F, b, q1, q2⟩ | ⟨D, t', q1, q2⟩ | ⟨q, -⟩
      · exact .inl q.1
      · have : F = fp f0 ∧ b = b0 := Classical.byContradiction (fun c => q2 (hno.mpr ⟨hwn F b P t q1, c⟩))
        rw [this.1, this.2] at q1
        exact .inr q1
      · have := (s3 D t' P t).mpr q1
        rcases this with u | u
        · exact absurd u.2 q2
        · exact u.elim
      · exact q.elim
    · rcases q with q | q
      · exact .inl ⟨q, id⟩
      · exact .inr (.inl ⟨fp f0, b0, q, fun c => (hno.mp c).2 ⟨rfl, rfl⟩⟩)
  · obtain ⟨k1, k2, k3, k4, k5⟩ := m3
    exact ⟨fun _ => (g3.1 38 11 (by omega) (by omega)).trans (k1 rfl), fun P t a' q => (by cases q), (g3.1 38 8 (by omega) (by omega)).trans k3, k4, fun k ev q => (g3.1 39 k (by omega) (by omega)).trans (k5 k ev q)⟩
  · rcases (hvi F b v).mp q with q | q
    · exact h.2.2.2.2.2.2.2.2.2.1 F b v q
    · obtain ⟨sow, hly⟩ := x_ly m1
      rw [q.1, (hly.1 f0 hf0).1]
      exact ⟨hf0, rfl⟩
end MV1
