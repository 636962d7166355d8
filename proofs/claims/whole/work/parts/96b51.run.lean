/-! the class runs -/
/-- between two events: ev have been counted -/
def RnI (K : Nat → Nat) (V : Nat → Int64) (y : TR) (e : Nat) (N L : Nat → Nat) (G : im_S) (sl tO sO kO crt : Nat → Nat) (q0 : Nat) (ar : Nat → Int64) (S : im_S) (ev : Nat) : Prop :=
  ∃ (En : TPth → Prop) (cv vr : TPth → Nat → Option TVal) (Aw : TPth → Nat → Prop) (WV WC : TPth → Nat → TPth → Nat → Prop) (R H : List TEv) (nS nF : Nat) (fb : Nat → Nat) (fp : Nat → TPth) (fi : TPth → Nat) (tf : TPth → Nat → Nat) (tb : TPth → Nat → Option Nat) (ow si fo : Nat → Int32) (lw : Nat → Int64), (MI K V y e N L G sl tO sO kO crt q0 ar S En cv vr none Aw WV WC R H nS nF fb fp fi tf tb ow si fo lw ∧ (∀ P t, ¬ Aw P t) ∧ CVS L sl nS nF fb fp tf tb ∧ TBv cv none tb ∧ ERd y cv R) ∧ S.1 38 9 = 1 ∧ S.1 38 2 = nI ev ∧ H.length ≤ ev ∧ (ev = H.length ∨ 1001 ≤ R.length + H.length) ∧ ev ≤ 1000
section RUN
variable {K pl : Nat → Nat} {V : Nat → Int64} {y : TR} {e : Nat} {N M L : Nat → Nat} {n ρ τ : Nat} {G : im_S} {sl tO sO kO crt : Nat → Nat} {f : Nat} {W : Nat → Int32 × Int32 × Int32} {ν : Nat → Nat} {q0 : Nat} {ar : Nat → Int64} {S S' : im_S} {En En2 : TPth → Prop} {Va2 : TPth → Nat → TVal → Prop} {cv vr : TPth → Nat → Option TVal} {Aw : TPth → Nat → Prop} {WV WC : TPth → Nat → TPth → Nat → Prop} {R H Lv : List TEv} {nS nF fu ev : Nat} {fb : Nat → Nat} {fp : Nat → TPth} {fi : TPth → Nat} {tf : TPth → Nat → Nat} {tb : TPth → Nat → Option Nat} {ow si fo : Nat → Int32} {lw : Nat → Int64}
theorem mem_sp {a : TEv} : ∀ l : List TEv, a ∈ l → ∃ s t, l = s ++ a :: t := by
  intro l
  induction l with
  | nil => intro q; exact absurd q List.not_mem_nil
  | cons b l ih =>
    intro q
    rcases List.mem_cons.mp q with q | q
    · exact ⟨[], l, by rw [q]; rfl⟩
    · obtain ⟨s, t, h⟩ := ih q
      exact ⟨b :: s, t, by rw [h]; rfl⟩
theorem nd_sub : ∀ l l' : List TEv, l.Nodup → (∀ x, x ∈ l → x ∈ l') → l.length ≤ l'.length := by
  intro l
  induction l with
  | nil => intro l' _ _; exact Nat.zero_le _
  | cons a l ih =>
    intro l' hn hs
    obtain ⟨n1, n2⟩ := List.nodup_cons.mp hn
    obtain ⟨s, t, h⟩ := mem_sp l' (hs a List.mem_cons_self)
    have := ih (s ++ t) n2 (fun x q => by
      have q1 := hs x (List.mem_cons_of_mem _ q)
      rw [h] at q1
      rcases List.mem_append.mp q1 with q2 | q2
      · exact List.mem_append.mpr (.inl q2)
      · rcases List.mem_cons.mp q2 with q3 | q3
        · rw [q3] at q
          exact absurd q n1
        · exact List.mem_append.mpr (.inr q3))
    rw [List.length_append] at this
    rw [h, List.length_append, List.length_cons, List.length_cons]
    omega
/-- nothing is ready: the class's values are closed -/
theorem cls_clo (X : XB K pl V y e N M L n ρ τ G sl tO sO kO crt f W ν) (h : MI K V y e N L G sl tO sO kO crt q0 ar S En cv vr none Aw WV WC [] H nS nF fb fp fi tf tb ow si fo lw) (hAw : ∀ P t, ¬ Aw P t) : CloA K V y q0 ar En (VaC y cv) (fun e => e ∈ H) := by
  obtain ⟨B1, B2, B3, B4, B5, B6, B7⟩ := X.2.2.1
  obtain ⟨a1, a2, a3, a4, a5, a6⟩ := h.1
  have hN : ∀ P z, En P → z ∈ scP y → z.2.2 = hdR P → ABp K V y En cv vr none Aw WV WC [] H P z := a6 (fun q => absurd q (by show ¬ 1001 ≤ 0; omega))
  have hPO : ∀ P, En P → POk V y P := fun P q => (a1.2.1 P q).1
  exact NP_clo B1 rfl hAw (fun e q => absurd q List.not_mem_nil) (NP_vr B1 B2 B3 B4 B5 B6 B7 hPO a1.2.2.1 (fun P t a q => (a2.1 P t a (.inl q)).1) (fun p cnt x z q1 q2 q3 => by
    have e1 := a1.2.2.2 _ q3
    have e2 : 4 * p = 4 * q0 := congrArg Prod.fst e1
    have e3 : p = q0 := by omega
    rw [e3] at q1 ⊢
    exact (a4.1 cnt x z q1 q2).1) hN) a1.1 hPO hN
/-- how many events there are, in the class and in the closed family -/
theorem rn_cmp (X : XB K pl V y e N M L n ρ τ G sl tO sO kO crt f W ν) (hLn : Lv.Nodup) (hm : ∀ En' Va' De', CloA K V y q0 ar En' Va' De' → ∀ e, e ∈ Lv → De' e) (hc : Lv.length ≤ 1000 → CloA K V y q0 ar En2 Va2 (fun e => e ∈ Lv)) (h : MI K V y e N L G sl tO sO kO crt q0 ar S En cv vr none Aw WV WC R H nS nF fb fp fi tf tb ow si fo lw) (hAw : ∀ P t, ¬ Aw P t) : (Lv.length ≤ 1000 → R.length + H.length ≤ Lv.length) ∧ (R = [] → Lv.length ≤ H.length) := by
  refine ⟨fun q => ?_, fun q => ?_⟩
  · have := nd_sub (R ++ H) Lv h.1.2.1.2.2.1 (fun x q1 => (h.1.2.2.1 _ _ _ (hc q)).2.2 x (List.mem_append.mp q1))
    rw [List.length_append] at this
    exact this
  · subst q
    exact nd_sub Lv H hLn (fun x q1 => hm _ _ _ (cls_clo X h hAw) x q1)
theorem rn_le (X : XB K pl V y e N M L n ρ τ G sl tO sO kO crt f W ν) (hLn : Lv.Nodup) (hm : ∀ En' Va' De', CloA K V y q0 ar En' Va' De' → ∀ e, e ∈ Lv → De' e) (hc : Lv.length ≤ 1000 → CloA K V y q0 ar En2 Va2 (fun e => e ∈ Lv)) (h : MI K V y e N L G sl tO sO kO crt q0 ar S En cv vr none Aw WV WC R H nS nF fb fp fi tf tb ow si fo lw) (hAw : ∀ P t, ¬ Aw P t) (h1 : H.length ≤ ev) (h2 : ev = H.length ∨ 1001 ≤ R.length + H.length) (h3 : ev ≤ 1000) : ev ≤ min Lv.length 1000 ∧ (R = [] → ev = Lv.length ∧ H.length = Lv.length ∧ Lv.length ≤ 1000) ∧ (R ≠ [] → ev < 1000 → ev < min Lv.length 1000) := by
  obtain ⟨c1, c2⟩ := rn_cmp X hLn hm hc h hAw
  have hR : R ≠ [] → 1 ≤ R.length := fun q => by
    cases R with
    | nil => exact absurd rfl q
    | cons a R => rw [List.length_cons]; omega
  have key : R = [] → ev = Lv.length ∧ H.length = Lv.length ∧ Lv.length ≤ 1000 := fun q => by
    have c3 := c2 q
    have q' : R.length = 0 := by rw [q]; rfl
    have c4 := c1 (by omega)
    rcases h2 with h2 | h2
    · exact ⟨by omega, by omega, by omega⟩
    · omega
  refine ⟨?_, key, fun q q2 => ?_⟩
  · by_cases q : R = []
    · obtain ⟨k1, k2, k3⟩ := key q
      rw [Nat.le_min]
      omega
    · have := hR q
      rw [Nat.le_min]
      refine ⟨?_, h3⟩
      rcases Nat.lt_or_ge 1000 Lv.length with u | u
      · omega
      · have := c1 u
        omega
  · have := hR q
    rcases Nat.lt_or_ge 1000 Lv.length with u | u
    · rw [Nat.min_eq_right (by omega)]
      exact q2
    · have := c1 u
      rw [Nat.min_eq_left u]
      omega
theorem cnd_1 (h9 : S.1 38 9 = 1) (h8 : S.1 38 8 = nI R.length) (h2 : S.1 38 2 = nI ev) (hl : R.length ≤ 1001) (he : ev ≤ 1000) : (R ≠ [] → ev < 1000 → f_X5_condition S = some (1, S)) ∧ (R ≠ [] → ev = 1000 → f_X5_condition S = some (4, S)) ∧ (R = [] → f_X5_condition S = if S.1 38 3 ≠ 0 then some (2, S) else some (3, S)) := by
  have hR : R ≠ [] → 1 ≤ R.length := fun q => by
    cases R with
    | nil => exact absurd rfl q
    | cons a R => rw [List.length_cons]; omega
  have n0 : R ≠ [] → ¬ nI R.length ≤ 0 := fun q q' => by
    have := (mI_le (a := R.length) (b := 0) (by omega) (by omega)).mp q'
    have := hR q
    omega
  unfold f_X5_condition
  rw [h9, if_pos (show (1 : Int32) ≠ 0 by decide), h8, h2]
  refine ⟨fun q q2 => ?_, fun q q2 => ?_, fun q => ?_⟩
  · rw [if_neg (n0 q), if_neg (fun q' => by
      have := (mI_le (a := 1000) (b := ev) (by omega) (by omega)).mp q'
      omega)]
  · rw [if_neg (n0 q), if_pos (show (1000 : Int32) ≤ nI ev from (mI_le (a := 1000) (b := ev) (by omega) (by omega)).mpr (by omega))]
  · rw [if_pos (show nI R.length ≤ 0 by rw [q]; decide)]
set_option maxHeartbeats 4000000 in
/-- THE CLASS RUNS -/
theorem F_run (hfu : 1569793 ≤ fu) (X : XB K pl V y e N M L n ρ τ G sl tO sO kO crt f W ν) (h20 : nlP y ≤ 20) (hq0 : q0 ∈ (ftP y).map Prod.fst) (h4 : ∀ j fs c ns g γ r, (.tag 7 (.tag j (.append fs (.append c (.append ns g)))), γ, r) ∈ scP y → tln fs ≤ 4) (h8 : (fuP y).length ≤ 8) (hLn : Lv.Nodup) (hm : ∀ En' Va' De', CloA K V y q0 ar En' Va' De' → ∀ e, e ∈ Lv → De' e) (hc : Lv.length ≤ 1000 → CloA K V y q0 ar En2 Va2 (fun e => e ∈ Lv)) {most : Nat} (hmo : most ≤ 5000) {z2 : Int64} : ∀ (d nf i ev : Nat) (z4 : Int64) (S : im_S), d + i = most → d < nf → RnI K V y e N L G sl tO sO kO crt q0 ar S ev → ∃ S' : im_S, f_X5_run_L6 fu nf (nI most) z2 z4 (nI i) S = some ((), S') ∧ RnI K V y e N L G sl tO sO kO crt q0 ar S' (min (ev + d) (min Lv.length 1000)) := by
  intro d
  induction d with
  | zero =>
    intro nf i ev z4 S hd hnf I
    obtain ⟨nf, rfl⟩ : ∃ q, nf = q + 1 := ⟨nf - 1, by omega⟩
    have I2 := I
    obtain ⟨En, cv, vr, Aw, WV, WC, R, H, nS, nF, fb, fp, fi, tf, tb, ow, si, fo, lw, ⟨h, hAw, hcv, htb, her⟩, v9, v2, p1, p2, p3⟩ := I
    have hle := (rn_le X hLn hm hc h hAw p1 p2 p3).1
    refine ⟨S, ?_, by rw [Nat.add_zero, Nat.min_eq_left hle]; exact I2⟩
    rw [f_X5_run_L6, if_pos ((mI_le (a := most) (b := i) (by omega) (by omega)).mpr (by omega))]
  | succ d ih =>
    intro nf i ev z4 S hd hnf I
    obtain ⟨nf, rfl⟩ : ∃ q, nf = q + 1 := ⟨nf - 1, by omega⟩
    have I2 := I
    obtain ⟨En, cv, vr, Aw, WV, WC, R, H, nS, nF, fb, fp, fi, tf, tb, ow, si, fo, lw, ⟨h, hAw, hcv, htb, her⟩, v9, v2, p1, p2, p3⟩ := I
    obtain ⟨r1, r2, r3⟩ := rn_le X hLn hm hc h hAw p1 p2 p3
    obtain ⟨-, -, v8, vl, -⟩ := id h.2.2.2.1
    obtain ⟨c1, c2, c3⟩ := cnd_1 v9 v8 v2 vl p3
    have hlt : ¬ nI most ≤ nI i := fun q => by
      have := (mI_le (a := most) (b := i) (by omega) (by omega)).mp q
      omega
    have stop : ∀ c : Int32, c ≠ 1 → f_X5_condition S = some (c, S) → ev = min Lv.length 1000 → ∃ S' : im_S, f_X5_run_L6 fu (nf + 1) (nI most) z2 z4 (nI i) S = some ((), S') ∧ RnI K V y e N L G sl tO sO kO crt q0 ar S' (min (ev + (d + 1)) (min Lv.length 1000)) := fun c q1 q2 q3 => by
      refine ⟨S, ?_, by rw [← q3, Nat.min_eq_right (by omega)]; exact I2⟩
      rw [f_X5_run_L6, if_neg hlt, q2]
      simp only [Option.bind_some]
      rw [if_pos q1]
    by_cases cR : R = []
    · obtain ⟨k1, k2, k3⟩ := r2 cR
      have hev : ev = min Lv.length 1000 := by rw [Nat.min_eq_left k3]; exact k1
      have hcd := c3 cR
      by_cases cs : S.1 38 3 ≠ 0
      · rw [if_pos cs] at hcd
        exact stop 2 (by decide) hcd hev
      · rw [if_neg cs] at hcd
        exact stop 3 (by decide) hcd hev
    · by_cases ce : ev = 1000
      · exact stop 4 (by decide) (c2 cR ce) (by
          have := Nat.min_le_right Lv.length 1000
          omega)
      · have hev : ev < min Lv.length 1000 := r3 cR (by omega)
        have hcd := c1 cR (by omega)
        have hmn : min (ev + 1 + d) (min Lv.length 1000) = min (ev + (d + 1)) (min Lv.length 1000) := by rw [show ev + 1 + d = ev + (d + 1) by omega]
        have hsum : nI ev + nI R.length = nI (ev + R.length) := nI_add ev R.length
        have hnx : nI i + 1 = nI (i + 1) := nI_add i 1
        have hne : nI ev + 1 = nI (ev + 1) := nI_add ev 1
        by_cases c10 : 1000 < ev + R.length
        · have I3 : RnI K V y e N L G sl tO sO kO crt q0 ar (uI S 38 2 (nI (ev + 1))) (ev + 1) := by
            have ne : ∀ a i : Nat, a ≠ 38 ∨ i ≠ 2 → (uI S 38 2 (nI (ev + 1))).1 a i = S.1 a i := fun a i q => uI_ne q
            refine ⟨En, cv, vr, Aw, WV, WC, R, H, nS, nF, fb, fp, fi, tf, tb, ow, si, fo, lw, ⟨⟨h.1, MX_reg h.2.1 (fun a i q1 q2 => ne a i (by omega)) (ne 38 10 (by omega)) (fun i => rfl) rfl, cag_k h.2.2.1 (fun a i q1 q2 => ne a i (by omega)) (fun a i q1 q2 => rfl), ?_, h.2.2.2.2.1, h.2.2.2.2.2.1, h.2.2.2.2.2.2.1, h.2.2.2.2.2.2.2.1, mrs_k h.2.2.2.2.2.2.2.2.1 (ne 38 3 (by omega)) rfl, h.2.2.2.2.2.2.2.2.2⟩, hAw, hcv, htb, her⟩, (ne 38 9 (by omega)).trans v9, uI_eq, by omega, by omega, by omega⟩
            obtain ⟨g1, g2, g3, g4, g5⟩ := h.2.2.2.1
            exact ⟨fun q => (ne 38 11 (by omega)).trans (g1 q), fun P t a q => (by cases q), (ne 38 8 (by omega)).trans g3, g4, fun k ev q => (ne 39 k (by omega)).trans (g5 k ev q)⟩
          obtain ⟨S', s1, s2⟩ := ih nf (i + 1) (ev + 1) z4 _ (by omega) (by omega) I3
          refine ⟨S', ?_, by rw [← hmn]; exact s2⟩
          rw [f_X5_run_L6, if_neg hlt, hcd]
          simp only [Option.bind_some]
          rw [if_neg (show ¬ (1 : Int32) ≠ 1 from fun q => q rfl), v2, v8, hsum, if_pos (show (1000 : Int32) < nI (ev + R.length) from (mI_lt (a := 1000) (b := ev + R.length) (by omega) (by omega)).mpr c10), hne, hnx]
          exact s1
        · have hH : ev = H.length := by omega
          have hRl : 1 ≤ R.length := by
            cases R with
            | nil => exact absurd rfl cR
            | cons a R => rw [List.length_cons]; omega
          obtain ⟨k, hk, hfm⟩ := k_fm (x := ((z4 * 6364136223846793005) + 1442695040888963407) >>> ((16 : Int32).toInt64 &&& 63)) (n := R.length) (S := S) (by omega) (by omega)
          have hk32 : (Int64.ofNat k).toInt32 = nI k := by rw [← nI64 (show k < 2 ^ 31 by omega), nI_64_32]
          obtain ⟨ev', hev'⟩ : ∃ ev', R[k]? = some ev' := ⟨_, List.getElem?_eq_getElem hk⟩
          have hp := F_happen (fu := fu) (by omega) X h20 hq0 h8 h hcv htb her (by omega) hev'
          obtain ⟨S1, En1, vr1, mv1, Aw1, WV1, WC1, R1, nS1, nF1, fb1, fp1, fi1, tf1, tb1, ow1, si1, fo1, lw1, a1, a2, a3, a4, a5, a6, Zn, a7, a8⟩ := hp
          have hfl := F_flow (fu := fu) hfu X h20 hq0 h4 (Z := R ++ H ++ Zn) (by rw [List.length_append, List.length_append]; omega) (fun e q => by
            rcases List.mem_cons.mp q with q | q
            · rw [q]
              exact List.mem_append.mpr (.inl (List.mem_append.mpr (.inl (List.mem_of_getElem? hev'))))
            · exact List.mem_append.mpr (.inl (List.mem_append.mpr (.inr q)))) (fun P t m i q1 q2 => by
            rcases a8 P t m i q1 q2 with q3 | q3
            · exact List.mem_append.mpr (.inl (cel_RH h (by omega) htb P t m i q3 q2))
            · exact List.mem_append.mpr (.inr q3)) a2 a3 a4 a5
          obtain ⟨S2, En3, cv3, vr3, Aw3, WV3, WC3, R3, nS3, nF3, fb3, fp3, fi3, tf3, ow3, si3, fo3, lw3, b1, b2, b3, b4, b5, b6, b7⟩ := hfl
          have e1 := f_X5_happen_qve fu (nI k) S () S1 a1
          have e2 := f_X5_flow_qve fu S1 () S2 b1
          have e3 := Veq_trans e1 e2
          have w2 : S2.1 38 2 = nI ev := e3.1.trans v2
          have I3 : RnI K V y e N L G sl tO sO kO crt q0 ar (uI S2 38 2 (nI (ev + 1))) (ev + 1) := by
            have ne : ∀ a i : Nat, a ≠ 38 ∨ i ≠ 2 → (uI S2 38 2 (nI (ev + 1))).1 a i = S2.1 a i := fun a i q => uI_ne q
            refine ⟨En3, cv3, vr3, Aw3, WV3, WC3, R3, ev' :: H, nS3, nF3, fb3, fp3, fi3, tf3, tb1, ow3, si3, fo3, lw3, ⟨⟨b2.1, MX_reg b2.2.1 (fun a i q1 q2 => ne a i (by omega)) (ne 38 10 (by omega)) (fun i => rfl) rfl, cag_k b2.2.2.1 (fun a i q1 q2 => ne a i (by omega)) (fun a i q1 q2 => rfl), ?_, b2.2.2.2.2.1, b2.2.2.2.2.2.1, b2.2.2.2.2.2.2.1, b2.2.2.2.2.2.2.2.1, mrs_k b2.2.2.2.2.2.2.2.2.1 (ne 38 3 (by omega)) rfl, b2.2.2.2.2.2.2.2.2.2⟩, b3, b4, b5, b6⟩, (ne 38 9 (by omega)).trans (e3.2.trans v9), uI_eq, by rw [List.length_cons]; omega, .inl (by rw [List.length_cons]; omega), by omega⟩
            obtain ⟨g1, g2, g3, g4, g5⟩ := b2.2.2.2.1
            exact ⟨fun q => (ne 38 11 (by omega)).trans (g1 q), fun P t a q => (by cases q), (ne 38 8 (by omega)).trans g3, g4, fun k ev q => (ne 39 k (by omega)).trans (g5 k ev q)⟩
          obtain ⟨S', s1, s2⟩ := ih nf (i + 1) (ev + 1) ((z4 * 6364136223846793005) + 1442695040888963407) _ (by omega) (by omega) I3
          refine ⟨S', ?_, by rw [← hmn]; exact s2⟩
          rw [f_X5_run_L6, if_neg hlt, hcd]
          simp only [Option.bind_some]
          rw [if_neg (show ¬ (1 : Int32) ≠ 1 from fun q => q rfl), v2, v8, hsum, if_neg (show ¬ (1000 : Int32) < nI (ev + R.length) from fun q => c10 ((mI_lt (a := 1000) (b := ev + R.length) (by omega) (by omega)).mp q)), hfm]
          simp only [Option.bind_some]
          rw [hk32, a1]
          simp only [Option.bind_some]
          rw [b1]
          simp only [Option.bind_some]
          rw [w2, hne, hnx]
          exact s1
end RUN
