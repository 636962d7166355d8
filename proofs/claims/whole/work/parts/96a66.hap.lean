/-! the reference runs to the end -/
section HAP
variable {K pl : Nat → Nat} {V : Nat → Int64} {m fr e n' r' fu : Nat} {y : TR} {q0 : Nat} {ar : Nat → Int64} {ν ρ : Nat → Nat} {W : Nat → Int32 × Int32 × Int32}
/-- nothing moves at any node of an activation -/
def StA (V : Nat → Int64) (y : TR) (ar : Nat → Int64) (A : Nat → TPth) (vals : TPth → Nat → Option TVal) (lk : TPth → Nat → Option TPth) (x : Nat) : Prop := ∀ zz, zz ∈ scP y → zz.2.2 = hdR (A x) → vals (A x) (otk zz.1) ≠ none ∨ StN V y ar vals (A x) (lk (A x) (otk zz.1)) zz
theorem hp_L20 (hfu : 700000 ≤ fu) (K2 : Int32 → im_S → Option (Unit × im_S)) : ∀ (d nf x : Nat) (S : im_S) (nA nS nT : Nat) (A : Nat → TPth) (b : Nat → Nat) (vals : TPth → Nat → Option TVal) (lk : TPth → Nat → Option TPth) (M : Nat → TPth × Nat) (Lv : List TEv) (f1 f2 : Nat → Nat) (z : Int32), x + d = 30000 → d < nf → z = 0 ∨ z = 1 → RX K pl V m fr y e n' r' q0 ar ν ρ W S → RI K V y q0 ar ν ρ S nA nS nT A b vals lk M Lv f1 f2 → CNt y S nA A b → Lv.length ≤ 1021 →
    ∃ z' S', f_X11_happen_L20 fu K2 nf z (nI x) S = K2 z' S' ∧ (z' = 0 ∨ z' = 1) ∧ WO K pl V m fr y e n' r' q0 ar ν ρ W S nA nS nT A b vals lk M Lv f1 f2 (∀ x', x ≤ x' → x' < nA → StA V y ar A vals lk x') z z' S' := by
  intro d
  induction d with
  | zero =>
    intro nf x S nA nS nT A b vals lk M Lv f1 f2 z hxd hnf hz X I hC hL
    obtain ⟨nf, rfl⟩ : ∃ q, nf = q + 1 := ⟨nf - 1, by omega⟩
    have hA : nA ≤ 21 * 1022 := by
      have := I.2.2.2.2.2.2.2.2.2.2.1
      omega
    refine ⟨z, S, ?_, hz, RF.rfl', .inl ⟨rfl, I, hC, rfl, fun _ x' h1 h2 => absurd h2 (by omega)⟩⟩
    rw [f_X11_happen_L20, I.1.1, if_pos ((mI_le (a := nA) (b := x) (by omega) (by omega)).mpr (by omega))]
  | succ d ih =>
    intro nf x S nA nS nT A b vals lk M Lv f1 f2 z hxd hnf hz X I hC hL
    obtain ⟨nf, rfl⟩ : ∃ q, nf = q + 1 := ⟨nf - 1, by omega⟩
    have hA : nA ≤ 21 * 1022 := by
      have := I.2.2.2.2.2.2.2.2.2.2.1
      omega
    have hle := mI_le (a := nA) (b := x) (by omega) (by omega)
    have hlt := lt72 I.1.2.2.2 hL
    rw [f_X11_happen_L20, I.1.1]
    by_cases c1 : nA ≤ x
    · rw [if_pos (hle.mpr c1)]
      exact ⟨z, S, rfl, hz, RF.rfl', .inl ⟨rfl, I, hC, rfl, fun _ x' h1 h2 => absurd h2 (by omega)⟩⟩
    rw [if_neg (fun q => c1 (hle.mp q))]
    by_cases c2 : 1000 < Lv.length
    · rw [if_pos (hlt.mpr c2)]
      exact ⟨z, S, rfl, hz, RF.rfl', .inl ⟨rfl, I, hC, rfl, fun q => absurd q (by omega)⟩⟩
    rw [if_neg (fun q => c2 (hlt.mp q)), mI_in (a := x) (n := 24000) (by omega) (by omega), nI_clamp (show x < 2 ^ 31 by omega), hC x (by omega)]
    simp only [gd_t]
    have hT := X.1
    have R := X.2.1
    have hP := (I.2.2.1 x (by omega)).1
    have hlen := rgL_le R.1 (by have := hT.m_; have := R.2.1; omega) hP
    have hule := uvc_le (S := S) (b0 := b x) (len := (rgL y (hdR (A x))).length)
    have hu : nI (uvc S (b x) (rgL y (hdR (A x))).length) ≤ (0 : Int32) ↔ uvc S (b x) (rgL y (hdR (A x))).length ≤ 0 := mI_le (a := uvc S (b x) (rgL y (hdR (A x))).length) (b := 0) (by omega) (by omega)
    have hx1 : nI x + 1 = nI (x + 1) := nI_add x 1
    by_cases c3 : uvc S (b x) (rgL y (hdR (A x))).length ≤ 0
    · rw [if_pos (hu.mpr c3), hx1]
      obtain ⟨z', S', p1, p2, p3, p4⟩ := ih nf (x + 1) S nA nS nT A b vals lk M Lv f1 f2 z (by omega) (by omega) hz X I hC hL
      refine ⟨z', S', p1, p2, p3, ?_⟩
      rcases p4 with ⟨d1, d2, d3, d4, d5⟩ | p4
      · refine .inl ⟨d1, d2, d3, d4, fun hh x' h1 h2 => ?_⟩
        by_cases hx' : x' = x
        · rw [hx']
          intro zz hzz hzr
          left
          obtain ⟨k, hk⟩ := rgL_sc R.1 hzz
          rw [hzr] at hk
          have hl := (List.getElem?_eq_some_iff.mp hk).1
          have hsl := ((I.2.2.1 x (by omega)).2.2.2.2.2.2 k _ hk).1
          intro q
          exact uvc_0 _ (by omega) k hl ((sl_0 hsl).mpr q)
        · exact d5 hh x' (by omega) h2
      · exact .inr p4
    · rw [if_neg (fun q => c3 (hu.mp q))]
      obtain ⟨rt, hg⟩ := POk_rg R.1 hP
      obtain ⟨-, g1, g2, g3, g4, -⟩ := rg_at R hT hg
      have h120 := (I.2.2.1 x (by omega)).2.1
      obtain ⟨z1, S1, s1, s2, s3, s4⟩ := sw_L (fu := fu) (by omega) (rgL y (hdR (A x))) fu S nA nS nT A b vals lk M Lv f1 f2 0 _ (.inl rfl) X I hC hL (show x < nA by omega) (fun _ h => h) g4 (by omega)
      have hsw : f_X11_sweep fu (nI x) S = some (z1, S1) := by
        unfold f_X11_sweep
        rw [mI_in (a := x) (n := 24000) (by omega) (by omega), nI_clamp (show x < 2 ^ 31 by omega), h120, mI_in (a := ρ (hdR (A x))) (n := 640) (by omega) g1, nI_clamp (show ρ (hdR (A x)) < 2 ^ 31 by omega)]
        exact s1
      rw [hsw]
      simp only [Option.bind_some]
      rw [hx1]
      have X1 := RX_rf X s3
      rcases s4 with ⟨e1, e2, e3, e4, e5⟩ | ⟨e1, nA', nS', nT', A', b', vals', lk', M', Lv', f1', f2', e2, e3, e4, e5, e6⟩
      · rw [e1, show z ||| 0 = z by rcases hz with rfl | rfl <;> rfl]
        obtain ⟨z', S', p1, p2, p3, p4⟩ := ih nf (x + 1) S1 nA nS nT A b vals lk M Lv f1 f2 z (by omega) (by omega) hz X1 e2 e3 hL
        refine ⟨z', S', p1, p2, RF.trans' s3 p3, ?_⟩
        rcases p4 with ⟨d1, d2, d3, d4, d5⟩ | ⟨d1, nA2, nS2, nT2, A2, b2, vals2, lk2, M2, Lv2, f12, f22, d2, d3, d4, d5, d6⟩
        · refine .inl ⟨d1, d2, d3, d4.trans e4, fun hh x' h1 h2 => ?_⟩
          by_cases hx' : x' = x
          · rw [hx']
            intro zz hzz hzr
            obtain ⟨k, hk⟩ := rgL_sc R.1 hzz
            rw [hzr] at hk
            exact e5 hh zz hzz hzr (List.mem_of_getElem? hk)
          · exact d5 hh x' (by omega) h2
        · exact .inr ⟨d1, nA2, nS2, nT2, A2, b2, vals2, lk2, M2, Lv2, f12, f22, d2, d3, d4, d5, by omega⟩
      · rw [e1, show z ||| 1 = 1 by rcases hz with rfl | rfl <;> rfl]
        obtain ⟨z', S', p1, p2, p3, p4⟩ := ih nf (x + 1) S1 nA' nS' nT' A' b' vals' lk' M' Lv' f1' f2' 1 (by omega) (by omega) (.inr rfl) X1 e2 e3 e5
        refine ⟨z', S', p1, p2, RF.trans' s3 p3, .inr ?_⟩
        rcases p4 with ⟨d1, d2, d3, d4, d5⟩ | ⟨d1, nA2, nS2, nT2, A2, b2, vals2, lk2, M2, Lv2, f12, f22, d2, d3, d4, d5, d6⟩
        · exact ⟨d1, nA', nS', nT', A', b', vals', lk', M', Lv', f1', f2', d2, d3, e4, e5, by omega⟩
        · exact ⟨d1, nA2, nS2, nT2, A2, b2, vals2, lk2, M2, Lv2, f12, f22, d2, d3, by omega, d5, by omega⟩
theorem hp_L2 (hfu : 700000 ≤ fu) : ∀ (d nf : Nat) (S : im_S) (nA nS nT : Nat) (A : Nat → TPth) (b : Nat → Nat) (vals : TPth → Nat → Option TVal) (lk : TPth → Nat → Option TPth) (M : Nat → TPth × Nat) (Lv : List TEv) (f1 f2 : Nat → Nat), 600000 ≤ muv S nA nS + d → d + 1 < nf → RX K pl V m fr y e n' r' q0 ar ν ρ W S → RI K V y q0 ar ν ρ S nA nS nT A b vals lk M Lv f1 f2 → CNt y S nA A b → Lv.length ≤ 1021 →
    ∃ S', f_X11_happen_L2 fu nf 1 S = some ((), S') ∧ RF S S' ∧ ∃ (nA' nS' nT' : Nat) (A' : Nat → TPth) (b' : Nat → Nat) (vals' : TPth → Nat → Option TVal) (lk' : TPth → Nat → Option TPth) (M' : Nat → TPth × Nat) (Lv' : List TEv) (f1' f2' : Nat → Nat), RI K V y q0 ar ν ρ S' nA' nS' nT' A' b' vals' lk' M' Lv' f1' f2' ∧ Lv'.length ≤ 1021 ∧ (Lv'.length ≤ 1000 → ∀ x', x' < nA' → StA V y ar A' vals' lk' x') := by
  intro d
  induction d with
  | zero =>
    intro nf S nA nS nT A b vals lk M Lv f1 f2 hmu hnf X I hC hL
    obtain ⟨nf, rfl⟩ : ∃ q, nf = q + 1 := ⟨nf - 1, by omega⟩
    have hbig : 1000 < Lv.length := by
      refine Classical.byContradiction (fun q => ?_)
      have hb := RI_b I (by omega)
      have := tot_le (f := fun s => if S.1 126 s = 0 then 0 else 1) nS (fun i _ => by split <;> omega)
      unfold muv at hmu
      omega
    refine ⟨S, ?_, RF.rfl', nA, nS, nT, A, b, vals, lk, M, Lv, f1, f2, I, hL, fun q => absurd q (by omega)⟩
    rw [f_X11_happen_L2, if_neg (by decide), if_pos ((lt72 I.1.2.2.2 hL).mpr hbig)]
  | succ d ih =>
    intro nf S nA nS nT A b vals lk M Lv f1 f2 hmu hnf X I hC hL
    obtain ⟨nf, rfl⟩ : ∃ q, nf = q + 1 := ⟨nf - 1, by omega⟩
    rw [f_X11_happen_L2, if_neg (by decide)]
    by_cases hbig : 1000 < Lv.length
    · rw [if_pos ((lt72 I.1.2.2.2 hL).mpr hbig)]
      exact ⟨S, rfl, RF.rfl', nA, nS, nT, A, b, vals, lk, M, Lv, f1, f2, I, hL, fun q => absurd q (by omega)⟩
    · rw [if_neg (fun q => hbig ((lt72 I.1.2.2.2 hL).mp q))]
      obtain ⟨z', S1, p1, p2, p3, p4⟩ := hp_L20 (fu := fu) hfu (f_X11_happen_L2 fu nf) 30000 fu 0 S nA nS nT A b vals lk M Lv f1 f2 0 (by omega) (by omega) (.inl rfl) X I hC hL
      have p1 : f_X11_happen_L20 fu (f_X11_happen_L2 fu nf) fu 0 0 S = f_X11_happen_L2 fu nf z' S1 := p1
      rw [p1]
      rcases p4 with ⟨d1, d2, d3, d4, d5⟩ | ⟨d1, nA2, nS2, nT2, A2, b2, vals2, lk2, M2, Lv2, f12, f22, d2, d3, d4, d5, d6⟩
      · rw [d1]
        obtain ⟨nf, rfl⟩ : ∃ q, nf = q + 1 := ⟨nf - 1, by omega⟩
        refine ⟨S1, ?_, p3, nA, nS, nT, A, b, vals, lk, M, Lv, f1, f2, d2, hL, fun hh x' hx' => d5 hh x' (Nat.zero_le _) hx'⟩
        rw [f_X11_happen_L2, if_pos rfl]
      · rw [d1]
        obtain ⟨S2, q1, q2, q3⟩ := ih nf S1 nA2 nS2 nT2 A2 b2 vals2 lk2 M2 Lv2 f12 f22 (by omega) (by omega) (RX_rf X p3) d2 d3 d5
        exact ⟨S2, q1, RF.trans' p3 q2, q3⟩
/-- a run that has ended is closed -/
theorem r_clo {S : im_S} {nA nS nT : Nat} {A : Nat → TPth} {b : Nat → Nat} {vals : TPth → Nat → Option TVal} {lk : TPth → Nat → Option TPth} {M : Nat → TPth × Nat} {Lv : List TEv} {f1 f2 : Nat → Nat} (X : RX K pl V m fr y e n' r' q0 ar ν ρ W S) (I : RI K V y q0 ar ν ρ S nA nS nT A b vals lk M Lv f1 f2) (h : ∀ x', x' < nA → StA V y ar A vals lk x') : CloA K V y q0 ar (EnA nA A) (Vf vals) (fun e => e ∈ Lv) := by
  have T := X.1
  have R := X.2.1
  have w := R.1
  have R' := R
  obtain ⟨h1, h2, h3, h4, h5, h6, h7, h8, h9, h10, h11, h12, h13, h14, h15⟩ := R'
  refine ⟨⟨0, I.2.1.1, I.2.1.2⟩, fun r i Q z hE hz hr => ?_⟩
  obtain ⟨x, hx, hA⟩ := hE
  have hr' : z.2.2 = hdR (A x) := by rw [hA]; exact hr
  have hn := (I.2.2.2.2.2.2.1 x hx z hz hr').1
  have := NI_clo w hz hn (fun b' o o' q q' => VrP_fun (W := W) (ν := ν) (f := fr) w (by omega) h11 (fun z hz => ⟨by have := (rs_P T R z hz).2.1; omega, fun z' hz' => nu_inj T R z hz z' hz'⟩) (fun j fs c ns g γ r hz => by
    obtain ⟨⟨-, ⟨i0, -, -, -, L⟩, -⟩, -⟩ := rs_P T R _ hz
    exact L) q q') (h x hx z hz hr')
  rw [hA] at this
  exact this
end HAP
