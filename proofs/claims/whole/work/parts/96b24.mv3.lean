/-! a token that moves, in the class: let, if, signs, tables, loops -/
section MV3
variable {K pl : Nat → Nat} {V : Nat → Int64} {y : TR} {e : Nat} {N M L : Nat → Nat} {n ρ τ : Nat} {G : im_S} {sl tO sO kO crt : Nat → Nat} {f : Nat} {W : Nat → Int32 × Int32 × Int32} {ν : Nat → Nat} {q0 : Nat} {ar : Nat → Int64} {S S1 : im_S} {En : TPth → Prop} {cv vr vr' : TPth → Nat → Option TVal} {Aw : TPth → Nat → Prop} {WV WC : TPth → Nat → TPth → Nat → Prop} {R H R' : List TEv} {nS nF fu : Nat} {fb : Nat → Nat} {fp : Nat → TPth} {fi : TPth → Nat} {tf : TPth → Nat → Nat} {tb : TPth → Nat → Option Nat} {ow si fo : Nat → Int32} {lw : Nat → Int64} {P0 P1 : TPth} {t0 : Nat} {a : TVal} {j r : Nat} {γ : List Nat} {x x' x'' fs c ns g as : TR}
theorem evc_nd (w : PW K y 0 e) {z : TR × List Nat × Nat} (hz : z ∈ scP y) (hl : lpK z.1 = false) {P : TPth} {i : Nat} (ht : tbK z.1 = false ∨ i = 0) : evc y N fi (P, otk z.1, i) = fi (fpt y P) * 512 + N (otk z.1) := by
  unfold evc
  rw [if_neg (lp_no w hz hl)]
  refine if_neg (fun q => ?_)
  rcases ht with ht | ht
  · exact tb_no w hz ht q.1
  · exact q.2 ht
theorem evc_lp {z : TR × List Nat × Nat} (hz : z ∈ scP y) (hl : lpK z.1 = true) {P : TPth} {i : Nat} : evc y N fi (P, otk z.1, i) = fi ((4 * otk z.1, i) :: P) * 512 + N (otk z.1) := by
  unfold evc
  exact if_pos (lp_in hz hl)
theorem evc_cl (w : PW K y 0 e) {z : TR × List Nat × Nat} (hz : z ∈ scP y) (hl : lpK z.1 = false) (ht : tbK z.1 = true) {P : TPth} {i : Nat} : evc y N fi (P, otk z.1, i + 1) = fi ((4 * otk z.1, i) :: P) * 512 + N (otk z.1 + 3) := by
  unfold evc
  rw [if_neg (lp_no w hz hl)]
  exact if_pos ⟨tb_in hz ht, Nat.succ_ne_zero i⟩
theorem fc_let1 (hfu : 600000 ≤ fu) (X : XB K pl V y e N M L n ρ τ G sl tO sO kO crt f W ν) (h : MI K V y e N L G sl tO sO kO crt q0 ar S En cv vr (some (P0, t0, a)) Aw WV WC R H nS nF fb fp fi tf tb ow si fo lw) (h1 : M1 V y e N L G sl tO sO kO crt q0 S1 P0 t0 a cv vr Aw WV WC R nS nF fb fp fi tf tb ow si fo lw) (hz : (.tag 5 (.tag j (.append x x')), γ, r) ∈ scP y) (hr : r = hdR P0) (ht : t0 = rtk x) :
    FMo K V y e N L G sl tO sO kO crt q0 ar (mvD fu (S.1 44 (N t0)) S1) En cv vr P0 t0 a Aw WV WC R H nS nF fb fp fi tf tb ow si fo lw := by
  have hn : cv P0 t0 = none := h.1.2.1.2.1 P0 t0 a rfl
  have hE0 : En P0 := (h.1.2.1.1 P0 t0 a (.inr rfl)).1
  have hqa := h.1.2.2.2.2.1 P0 _ hE0 hz hr
  obtain ⟨-, f2, f3, f4, f5, f6, f7⟩ := cn_P X.1 _ hz
  rw [← ht] at f5 f6
  obtain ⟨e1, e2⟩ := m1_rl (k := 4) h.2.2.1 h1 f5
  have hOP := h1.2.2.2.2.2.2.2.2.1
  have hv : VT V y (fpt y P0) (j + 1) := .inr (.inl ⟨j, x, x', γ, r, P0, hz, rfl, hOP.1, hr.symm, rfl⟩)
  have hk := (tk_v X.1 X.2.1 X.2.2.1.2.2.2.2.1 hv (tp_P X.1 P0 hOP.1).2.1 (tp_P X.1 P0 hOP.1).2.2).1
  have e45 : S1.1 45 (N t0) = nI (N (j + 1)) := (h1.2.1 11 (N t0) (by omega) (by omega)).1.trans f6
  refine fm_var hfu X h h1 hz hr hE0 ⟨rfl, .inl ht⟩ hOP.2.2.1 hOP.2.2.2 hv ?_ (fun vr' q => M_let1 X.2.2.1 h.1 (cvU_i hn) hz hr ht q) ?_
  · cases hc : vr (fpt y P0) (j + 1) with
    | none => rfl
    | some v =>
      have := hqa.2.1 v hc
      rw [← ht, hn] at this
      cases this
  · rw [(md_k (fu := fu) (p := S.1 44 (N t0)) (by have := h1.2.2.2.2.2.2.2.1; omega) h1.2.2.2.2.1 e1 (by omega)).2.2.2.1 rfl, h1.2.2.2.1, e45, x_slot X.1 X.2.1 h1.2.1 h1.1 hOP.2.2.1 (by rw [hOP.2.2.2]; exact hk)]
    rfl
theorem fc_let2 (X : XB K pl V y e N M L n ρ τ G sl tO sO kO crt f W ν) (h : MI K V y e N L G sl tO sO kO crt q0 ar S En cv vr (some (P0, t0, a)) Aw WV WC R H nS nF fb fp fi tf tb ow si fo lw) (h1 : M1 V y e N L G sl tO sO kO crt q0 S1 P0 t0 a cv vr Aw WV WC R nS nF fb fp fi tf tb ow si fo lw) (hz : (.tag 5 (.tag j (.append x x')), γ, r) ∈ scP y) (hr : r = hdR P0) (ht : t0 = rtk x') :
    FMo K V y e N L G sl tO sO kO crt q0 ar (mvD fu (S.1 44 (N t0)) S1) En cv vr P0 t0 a Aw WV WC R H nS nF fb fp fi tf tb ow si fo lw := by
  have hn : cv P0 t0 = none := h.1.2.1.2.1 P0 t0 a rfl
  have hE0 : En P0 := (h.1.2.1.1 P0 t0 a (.inr rfl)).1
  obtain ⟨-, f2, f3, f4, f5, f6, f7⟩ := cn_P X.1 _ hz
  rw [← ht] at f7
  obtain ⟨e1, e2⟩ := m1_rl (k := 3) h.2.2.1 h1 f7
  refine fm_pass X h h1 hz hr hE0 ⟨rfl, .inr ht⟩ (M_let2 X.2.2.1 h.1 (cvU_i hn) hz hr ht) ?_
  rw [(md_k (fu := fu) (p := S.1 44 (N t0)) (by have := h1.2.2.2.2.2.2.2.1; omega) h1.2.2.2.2.1 e1 (by omega)).2.2.1 rfl, h1.2.2.2.1, e2]
theorem fc_if0 (X : XB K pl V y e N M L n ρ τ G sl tO sO kO crt f W ν) (h : MI K V y e N L G sl tO sO kO crt q0 ar S En cv vr (some (P0, t0, a)) Aw WV WC R H nS nF fb fp fi tf tb ow si fo lw) (h1 : M1 V y e N L G sl tO sO kO crt q0 S1 P0 t0 a cv vr Aw WV WC R nS nF fb fp fi tf tb ow si fo lw) (hz : (.tag 6 (.tag j (.append x (.append x' x''))), γ, r) ∈ scP y) (hr : r = hdR P0) (ht : t0 = rtk x) :
    FMo K V y e N L G sl tO sO kO crt q0 ar (mvD fu (S.1 44 (N t0)) S1) En cv vr P0 t0 a Aw WV WC R H nS nF fb fp fi tf tb ow si fo lw := by
  have hn : cv P0 t0 = none := h.1.2.1.2.1 P0 t0 a rfl
  have hE0 : En P0 := (h.1.2.1.1 P0 t0 a (.inr rfl)).1
  obtain ⟨-, f2, f3, -⟩ := cn_P X.1 _ hz
  rw [← ht] at f3
  obtain ⟨e1, e2⟩ := m1_rl (k := 1) h.2.2.1 h1 f3
  refine fm_ev X h h1 hz hr hE0 (.inl ⟨rfl, ht⟩) (ev := (P0, j, 0)) (x1 := nI (fi (fpt y P0))) (x2 := nI (N j)) ?_ (fun _ => rfl) rfl (cel_no X.1.1 hz (fun _ q => by cases q)) (fun R' q => M_if0 X.2.2.1 h.1 (cvU_i hn) hz hr ht q) ?_
  · rw [w_mk]
    exact congrArg nI (evc_nd (N := N) (fi := fi) (P := P0) (i := 0) X.1.1 hz rfl (.inl rfl)).symm
  · rw [(md_k (fu := fu) (p := S.1 44 (N t0)) (by have := h1.2.2.2.2.2.2.2.1; omega) h1.2.2.2.2.1 e1 (by omega)).1 rfl, h1.2.2.2.1, e2]
theorem fc_sig (X : XB K pl V y e N M L n ρ τ G sl tO sO kO crt f W ν) (h : MI K V y e N L G sl tO sO kO crt q0 ar S En cv vr (some (P0, t0, a)) Aw WV WC R H nS nF fb fp fi tf tb ow si fo lw) (h1 : M1 V y e N L G sl tO sO kO crt q0 S1 P0 t0 a cv vr Aw WV WC R nS nF fb fp fi tf tb ow si fo lw) (hz : (.tag 8 (.tag j x), γ, r) ∈ scP y) (hr : r = hdR P0) (ht : t0 = rtk x) :
    FMo K V y e N L G sl tO sO kO crt q0 ar (mvD fu (S.1 44 (N t0)) S1) En cv vr P0 t0 a Aw WV WC R H nS nF fb fp fi tf tb ow si fo lw := by
  have hn : cv P0 t0 = none := h.1.2.1.2.1 P0 t0 a rfl
  have hE0 : En P0 := (h.1.2.1.1 P0 t0 a (.inr rfl)).1
  obtain ⟨-, f2, f3⟩ := cn_P X.1 _ hz
  rw [← ht] at f3
  obtain ⟨e1, e2⟩ := m1_rl (k := 1) h.2.2.1 h1 f3
  refine fm_ev X h h1 hz hr hE0 ⟨rfl, ht⟩ (ev := (P0, j, 0)) (x1 := nI (fi (fpt y P0))) (x2 := nI (N j)) ?_ (fun _ => rfl) rfl (cel_no X.1.1 hz (fun _ q => by cases q)) (fun R' q => M_sig X.2.2.1 h.1 (cvU_i hn) hz hr ht q) ?_
  · rw [w_mk]
    exact congrArg nI (evc_nd (N := N) (fi := fi) (P := P0) (i := 0) X.1.1 hz rfl (.inl rfl)).symm
  · rw [(md_k (fu := fu) (p := S.1 44 (N t0)) (by have := h1.2.2.2.2.2.2.2.1; omega) h1.2.2.2.2.1 e1 (by omega)).1 rfl, h1.2.2.2.1, e2]
theorem fc_tab (X : XB K pl V y e N M L n ρ τ G sl tO sO kO crt f W ν) (h : MI K V y e N L G sl tO sO kO crt q0 ar S En cv vr (some (P0, t0, a)) Aw WV WC R H nS nF fb fp fi tf tb ow si fo lw) (h1 : M1 V y e N L G sl tO sO kO crt q0 S1 P0 t0 a cv vr Aw WV WC R nS nF fb fp fi tf tb ow si fo lw) (hz : (.tag 11 (.tag j (.append x x')), γ, r) ∈ scP y) (hr : r = hdR P0) (ht : t0 = rtk x) :
    FMo K V y e N L G sl tO sO kO crt q0 ar (mvD fu (S.1 44 (N t0)) S1) En cv vr P0 t0 a Aw WV WC R H nS nF fb fp fi tf tb ow si fo lw := by
  have hn : cv P0 t0 = none := h.1.2.1.2.1 P0 t0 a rfl
  have hE0 : En P0 := (h.1.2.1.1 P0 t0 a (.inr rfl)).1
  obtain ⟨-, f2, f3, -⟩ := cn_P X.1 _ hz
  rw [← ht] at f3
  obtain ⟨e1, e2⟩ := m1_rl (k := 1) h.2.2.1 h1 f3
  refine fm_ev X h h1 hz hr hE0 ⟨rfl, ht⟩ (ev := (P0, j, 0)) (x1 := nI (fi (fpt y P0))) (x2 := nI (N j)) ?_ (fun _ => rfl) rfl (cel_no X.1.1 hz (fun _ q => by cases q)) (fun R' q => M_tab X.2.2.1 h.1 (cvU_i hn) hz hr ht q) ?_
  · rw [w_mk]
    exact congrArg nI (evc_nd (N := N) (fi := fi) (P := P0) (i := 0) X.1.1 hz rfl (.inr rfl)).symm
  · rw [(md_k (fu := fu) (p := S.1 44 (N t0)) (by have := h1.2.2.2.2.2.2.2.1; omega) h1.2.2.2.2.1 e1 (by omega)).1 rfl, h1.2.2.2.1, e2]
theorem fc_if1 (X : XB K pl V y e N M L n ρ τ G sl tO sO kO crt f W ν) {k : Nat} (hk : k < 2) (hP : P0 = (4 * j + k, 0) :: P1) (h : MI K V y e N L G sl tO sO kO crt q0 ar S En cv vr (some (P0, t0, a)) Aw WV WC R H nS nF fb fp fi tf tb ow si fo lw) (h1 : M1 V y e N L G sl tO sO kO crt q0 S1 P0 t0 a cv vr Aw WV WC R nS nF fb fp fi tf tb ow si fo lw) (hz : (.tag 6 (.tag j (.append x (.append x' x''))), γ, r) ∈ scP y) (ht : (k = 0 ∧ t0 = rtk x') ∨ (k = 1 ∧ t0 = rtk x'')) :
    FMo K V y e N L G sl tO sO kO crt q0 ar (mvD fu (S.1 44 (N t0)) S1) En cv vr P0 t0 a Aw WV WC R H nS nF fb fp fi tf tb ow si fo lw := by
  have hn : cv P0 t0 = none := h.1.2.1.2.1 P0 t0 a rfl
  have hE0 : En P0 := (h.1.2.1.1 P0 t0 a (.inr rfl)).1
  rw [hP] at hE0
  obtain ⟨hE1, hpr⟩ := par_En X.1.1 h.1.1 hz (k := k) (by omega) hE0
  have hr : r = hdR P1 := hpr.2.symm
  obtain ⟨-, f2, f3, f4, f5, f6, f7, f8, f9, -⟩ := cn_P X.1 _ hz
  have hnf : ¬ ifr y (4 * j + k) := fun q => by
    rcases (ifr_nd X.1.1 hz (k := k) (by omega)).mp q with q | q
    · cases q.1
    · cases q
  have hfp : fpt y P0 = fpt y P1 := by rw [hP]; exact fpt_n hnf
  have hrl : rl G N t0 (nI 3) j := by
    rcases ht with ⟨-, ht⟩ | ⟨-, ht⟩
    · rw [ht]; exact f8
    · rw [ht]; exact f9
  obtain ⟨e1, e2⟩ := m1_rl (k := 3) h.2.2.1 h1 hrl
  have hI : Inp V y P1 (.tag 6 (.tag j (.append x (.append x' x''))), γ, r) P0 t0 := by
    rcases ht with ⟨hk, ht⟩ | ⟨hk, ht⟩
    · subst hk
      exact .inr (.inl ⟨hP, ht⟩)
    · subst hk
      exact .inr (.inr ⟨hP, ht⟩)
  refine fm_pass (P1 := P1) X h h1 hz hr hE1 hI ?_ ?_ (j := j)
  · rcases ht with ⟨hk, ht⟩ | ⟨hk, ht⟩
    · subst hk
      exact M_if1 X.2.2.1 hP h.1 (cvU_i hn) hz ht
    · subst hk
      exact M_if2 X.2.2.1 hP h.1 (cvU_i hn) hz ht
  · rw [(md_k (fu := fu) (p := S.1 44 (N t0)) (by have := h1.2.2.2.2.2.2.2.1; omega) h1.2.2.2.2.1 e1 (by omega)).2.2.1 rfl, h1.2.2.2.1, e2, hfp]
/-- the condition of a round -/
theorem fc_lc (X : XB K pl V y e N M L n ρ τ G sl tO sO kO crt f W ν) {i : Nat} (hP : P0 = (4 * j, i) :: P1) (h : MI K V y e N L G sl tO sO kO crt q0 ar S En cv vr (some (P0, t0, a)) Aw WV WC R H nS nF fb fp fi tf tb ow si fo lw) (h1 : M1 V y e N L G sl tO sO kO crt q0 S1 P0 t0 a cv vr Aw WV WC R nS nF fb fp fi tf tb ow si fo lw) (hz : (.tag 7 (.tag j (.append fs (.append c (.append ns g)))), γ, r) ∈ scP y) (ht : t0 = rtk c) :
    FMo K V y e N L G sl tO sO kO crt q0 ar (mvD fu (S.1 44 (N t0)) S1) En cv vr P0 t0 a Aw WV WC R H nS nF fb fp fi tf tb ow si fo lw := by
  have hn : cv P0 t0 = none := h.1.2.1.2.1 P0 t0 a rfl
  have hE0 : En P0 := (h.1.2.1.1 P0 t0 a (.inr rfl)).1
  rw [hP] at hE0
  obtain ⟨hE1, hpr⟩ := par_En X.1.1 h.1.1 hz (k := 0) (by omega) hE0
  have hr : r = hdR P1 := by
    rcases hpr with q | q
    · exact q.2.symm
    · exact absurd q.1 (by show ¬ (4 * j + 0 = 4 * j + 1 ∨ 4 * j + 0 = 4 * j + 2); omega)
  obtain ⟨-, f2, f3, f4, -⟩ := cn_P X.1 _ hz
  rw [← ht] at f4
  have hfp : fpt y P0 = (4 * j, i) :: P1 := by rw [hP]; exact fpt_y ((ifr_nd X.1.1 hz (k := 0) (by omega)).mpr (.inl ⟨rfl, rfl⟩))
  obtain ⟨e1, e2⟩ := m1_rl (k := 1) h.2.2.1 h1 f4
  refine fm_ev X h h1 hz hr hE1 (.inr (.inl ⟨i, hP, ht⟩)) (ev := (P1, j, i)) (x1 := nI (fi (fpt y P0))) (x2 := nI (N j)) ?_ (fun q => by cases q) rfl (cel_no X.1.1 hz (fun _ q => by cases q)) (fun R' q => M_lc X.2.2.1 hP h.1 (cvU_i hn) hz ht q) ?_
  · rw [w_mk, hfp]
    exact congrArg nI (evc_lp (N := N) (fi := fi) (P := P1) (i := i) hz rfl).symm
  · rw [(md_k (fu := fu) (p := S.1 44 (N t0)) (by have := h1.2.2.2.2.2.2.2.1; omega) h1.2.2.2.2.1 e1 (by omega)).1 rfl, h1.2.2.2.1, e2]
/-- give -/
theorem fc_lg (X : XB K pl V y e N M L n ρ τ G sl tO sO kO crt f W ν) {i : Nat} (hP : P0 = (4 * j + 2, 0) :: (4 * j, i) :: P1) (h : MI K V y e N L G sl tO sO kO crt q0 ar S En cv vr (some (P0, t0, a)) Aw WV WC R H nS nF fb fp fi tf tb ow si fo lw) (h1 : M1 V y e N L G sl tO sO kO crt q0 S1 P0 t0 a cv vr Aw WV WC R nS nF fb fp fi tf tb ow si fo lw) (hz : (.tag 7 (.tag j (.append fs (.append c (.append ns g)))), γ, r) ∈ scP y) (ht : t0 = rtk g) :
    FMo K V y e N L G sl tO sO kO crt q0 ar (mvD fu (S.1 44 (N t0)) S1) En cv vr P0 t0 a Aw WV WC R H nS nF fb fp fi tf tb ow si fo lw := by
  have hn : cv P0 t0 = none := h.1.2.1.2.1 P0 t0 a rfl
  have hE0 : En P0 := (h.1.2.1.1 P0 t0 a (.inr rfl)).1
  rw [hP] at hE0
  obtain ⟨hEr, -⟩ := par_En X.1.1 h.1.1 hz (k := 2) (by omega) hE0
  obtain ⟨hE1, hpr⟩ := par_En X.1.1 h.1.1 hz (k := 0) (by omega) hEr
  have hr : r = hdR P1 := by
    rcases hpr with q | q
    · exact q.2.symm
    · exact absurd q.1 (by show ¬ (4 * j + 0 = 4 * j + 1 ∨ 4 * j + 0 = 4 * j + 2); omega)
  obtain ⟨-, f2, f3, f4, f5, -⟩ := cn_P X.1 _ hz
  rw [← ht] at f5
  have hn2 : ¬ ifr y (4 * j + 2) := fun q => by
    rcases (ifr_nd X.1.1 hz (k := 2) (by omega)).mp q with q | q
    · exact absurd q.2 (by omega)
    · cases q
  have hfp : fpt y P0 = (4 * j, i) :: P1 := by
    rw [hP]
    exact (fpt_n hn2).trans (fpt_y ((ifr_nd X.1.1 hz (k := 0) (by omega)).mpr (.inl ⟨rfl, rfl⟩)))
  have hOP := h1.2.2.2.2.2.2.2.2.1
  have hne0 : fi (fpt y P0) ≠ 0 := fun q => by
    have := hOP.2.2.2
    rw [q, h.2.2.2.2.2.1.2.1, hfp] at this
    have e1 := (List.cons.inj this).2
    rw [← e1] at hE1
    exact (h.1.1.2.1 _ hE1).1
  obtain ⟨c1, Q, o1, o2, o3, o4, -⟩ := h.2.2.2.2.2.1.2.2.2 (fi (fpt y P0)) hOP.2.2.1 hne0
  rw [hOP.2.2.2, hfp] at o1
  have hQ : P1 = Q := (List.cons.inj o1).2
  rw [← hQ] at o4
  obtain ⟨e1, e2⟩ := m1_rl (k := 7) h.2.2.1 h1 f5
  have hl := x_len h1.1
  have e69 : S1.1 69 (fi (fpt y P0)) = nI (fi (fpt y P1)) := (x_frd h1.1 hOP.2.2.1).2.1.trans o4
  have hlt := hOP.2.2.1
  refine fm_pass (P1 := P1) X h h1 hz hr hE1 (.inr (.inr (.inr ⟨i, hP, ht⟩))) (M_lg X.2.2.1 hP h.1 (cvU_i hn) hz ht) ?_
  rw [(md_k (fu := fu) (p := S.1 44 (N t0)) (by have := h1.2.2.2.2.2.2.2.1; omega) h1.2.2.2.2.1 e1 (by omega)).2.2.2.2.2.2.1 rfl, h1.2.2.2.1, e2, mI_in (a := fi (fpt y P0)) (n := S1.2.2 69) (by omega) (by omega), nI_clamp (show fi (fpt y P0) < 2 ^ 31 by omega), e69]
  rfl
end MV3
