/-! the reference starts a run -/
def arF (v0 v1 v2 v3 : Int64) : Nat → Int64 := fun z => if z = 0 then v0 else if z = 1 then v1 else if z = 2 then v2 else v3
def stS (S : im_S) (v0 v1 v2 v3 : Int64) : im_S := uI (uI (uI (uI (uI (uI (uI (uJ (uJ (uJ (uJ S 131 0 v0) 131 1 v1) 131 2 v2) 131 3 v3) 75 57 0) 75 64 0) 75 68 0) 75 72 0) 75 74 0) 75 73 1) 75 76 ((S.1 75 76) + 1)
section STA
variable {K pl : Nat → Nat} {V : Nat → Int64} {m fr e n' r' fu : Nat} {y : TR} {q0 : Nat} {ν ρ : Nat → Nat} {W : Nat → Int32 × Int32 × Int32} {S : im_S} {v0 v1 v2 v3 : Int64}
theorem stS_i {a i : Nat} (h : a = 75 → i ≠ 57 ∧ i ≠ 64 ∧ i ≠ 68 ∧ i ≠ 72 ∧ i ≠ 74 ∧ i ≠ 73 ∧ i ≠ 76) : (stS S v0 v1 v2 v3).1 a i = S.1 a i := by
  unfold stS
  rw [uI_ne (by omega), uI_ne (by omega), uI_ne (by omega), uI_ne (by omega), uI_ne (by omega), uI_ne (by omega), uI_ne (by omega)]
  rfl
theorem stS_j {a i : Nat} (h : a ≠ 131) : (stS S v0 v1 v2 v3).2.1 a i = S.2.1 a i := by
  show (uJ (uJ (uJ (uJ S 131 0 v0) 131 1 v1) 131 2 v2) 131 3 v3).2.1 a i = _
  rw [uJ_ne (by omega), uJ_ne (by omega), uJ_ne (by omega), uJ_ne (by omega)]
theorem stS_ar {z : Nat} (h : z < 4) : (stS S v0 v1 v2 v3).2.1 131 z = arF v0 v1 v2 v3 z := by
  show (uJ (uJ (uJ (uJ S 131 0 v0) 131 1 v1) 131 2 v2) 131 3 v3).2.1 131 z = _
  have hz : z = 0 ∨ z = 1 ∨ z = 2 ∨ z = 3 := by omega
  rcases hz with rfl | rfl | rfl | rfl
  · rw [uJ_ne (by omega), uJ_ne (by omega), uJ_ne (by omega), uJ_eq]; rfl
  · rw [uJ_ne (by omega), uJ_ne (by omega), uJ_eq]; rfl
  · rw [uJ_ne (by omega), uJ_eq]; rfl
  · rw [uJ_eq]; rfl
theorem stS_75 : (stS S v0 v1 v2 v3).1 75 57 = 0 ∧ (stS S v0 v1 v2 v3).1 75 64 = 0 ∧ (stS S v0 v1 v2 v3).1 75 68 = 0 ∧ (stS S v0 v1 v2 v3).1 75 72 = 0 ∧ (stS S v0 v1 v2 v3).1 75 74 = 0 ∧ (stS S v0 v1 v2 v3).1 75 73 = 1 ∧ (stS S v0 v1 v2 v3).1 75 76 = S.1 75 76 + 1 := by
  unfold stS
  refine ⟨?_, ?_, ?_, ?_, ?_, ?_, ?_⟩
  · rw [uI_ne (by omega), uI_ne (by omega), uI_ne (by omega), uI_ne (by omega), uI_ne (by omega), uI_ne (by omega), uI_eq]
  · rw [uI_ne (by omega), uI_ne (by omega), uI_ne (by omega), uI_ne (by omega), uI_ne (by omega), uI_eq]
  · rw [uI_ne (by omega), uI_ne (by omega), uI_ne (by omega), uI_ne (by omega), uI_eq]
  · rw [uI_ne (by omega), uI_ne (by omega), uI_ne (by omega), uI_eq]
  · rw [uI_ne (by omega), uI_ne (by omega), uI_eq]
  · rw [uI_ne (by omega), uI_eq]
  · rw [uI_eq]
theorem fu_nam (T : TH K pl V m) {p e : Nat} (w : PW K y p e) : e ≤ m → ∀ q cnt x, (q, cnt, x) ∈ fuP y → ∀ z, z < cnt → Nam (V (q + 2 + 2 * z)) := by
  refine PW_ind (K := K) (P := fun y p e => e ≤ m → ∀ q cnt x, (q, cnt, x) ∈ fuP y → ∀ z, z < cnt → Nam (V (q + 2 + 2 * z))) ?_ ?_ (tsz y) y p e (Nat.le_refl _) w
  · intro p cnt x b0 e0 hK hc hz w1 hb he q cnt' x' h z hzz
    have l1 := Wt_lt w1
    have h := List.mem_singleton.mp h
    cases h
    exact T.nam (by omega) (hz z hzz)
  · intro p cnt x r b0 e0 e hK hc hz w1 hb _ w2 ih he q cnt' x' h z hzz
    have l1 := Wt_lt w1
    have l2 := PW_lt w2
    rcases List.mem_cons.mp h with h | h
    · cases h
      exact T.nam (by omega) (hz z hzz)
    · exact ih he q cnt' x' h z hzz
/-- the types of the parameters -/
theorem r_st1 (T : TH K pl V m) (hfu : 30000 ≤ fu) (R : RHd K pl V m fr y e n' r' ν ρ W S) {i q cnt : Nat} {x : TR} (hi : (fuP y)[i]? = some (q, cnt, x)) : ∀ (d z nf : Nat), z + d = cnt → d < nf → (∀ z', z' < z → tvV (V (q + 2 + 2 * z')) = 1) → ((∀ z', z' < cnt → tvV (V (q + 2 + 2 * z')) = 1) → f_X11_start_L33 fu nf (nI i) v0 v1 v2 v3 (nI (fr + i)) (nI z) S = (f_X11_enter fu (S.1 96 i) (-1) (-1) (-1) (stS S v0 v1 v2 v3)).bind (fun qS2 => (f_X11_happen fu qS2.2).bind (fun qS5 => some (1, qS5.2)))) ∧ (¬ (∀ z', z' < cnt → tvV (V (q + 2 + 2 * z')) = 1) → f_X11_start_L33 fu nf (nI i) v0 v1 v2 v3 (nI (fr + i)) (nI z) S = some (0, S)) := by
  have w := R.1
  obtain ⟨f1, f2, -⟩ := FA_fu w fr R.2.2.2.2.2.2.2.2.2.1 i q cnt x hi
  obtain ⟨fa, fb, f99, f100, -⟩ := f1
  have h8 := R.2.2.2.2.2.2.1
  have h5 := R.2.2.2.2.1
  have hc4 := PW_cnt w q cnt x (List.mem_of_getElem? hi)
  have hnam : ∀ z, z < cnt → Nam (V (q + 2 + 2 * z)) := fu_nam T w R.2.1 q cnt x (List.mem_of_getElem? hi)
  intro d
  induction d with
  | zero =>
    intro z nf hz hnf hall
    obtain ⟨nf, rfl⟩ : ∃ q, nf = q + 1 := ⟨nf - 1, by omega⟩
    have hzc : z = cnt := by omega
    subst hzc
    refine ⟨fun _ => ?_, fun q1 => absurd hall q1⟩
    rw [f_X11_start_L33, mI_in (a := fr + i) (n := 16) (by omega) (by omega), nI_clamp (show fr + i < 2 ^ 31 by omega), f99, if_pos ((mI_le (a := z) (b := z) (by omega) (by omega)).mpr (Nat.le_refl _)), mI_in (a := i) (n := 16) (by omega) (by omega), nI_clamp (show i < 2 ^ 31 by omega), show in_b (0 : Int32) 4 = true from rfl, show in_b (1 : Int32) 4 = true from rfl, show in_b (2 : Int32) 4 = true from rfl, show in_b (3 : Int32) 4 = true from rfl, show (0 : Int32).toNatClampNeg = 0 from rfl, show (1 : Int32).toNatClampNeg = 1 from rfl, show (2 : Int32).toNatClampNeg = 2 from rfl, show (3 : Int32).toNatClampNeg = 3 from rfl]
    simp only [gd_t]
    unfold stS
    rfl
  | succ d ih =>
    intro z nf hz hnf hall
    obtain ⟨nf, rfl⟩ : ∃ q, nf = q + 1 := ⟨nf - 1, by omega⟩
    have hty : f_X11_typeOf fu (V (q + 2 + 2 * z)) S = some (nI (tvV (V (q + 2 + 2 * z))), S) := r_ty (by omega) (hnam z (by omega)) S
    rw [f_X11_start_L33, mI_in (a := fr + i) (n := 16) (by omega) (by omega), nI_clamp (show fr + i < 2 ^ 31 by omega), f99, if_neg (fun c => by have := (mI_le (a := cnt) (b := z) (by omega) (by omega)).mp c; omega), show (4 : Int32) * nI (fr + i) = nI (4 * (fr + i)) from nI_mul 4 (fr + i), nI_add, mI_in (a := 4 * (fr + i) + z) (n := 64) (by omega) (by omega), nI_clamp (show 4 * (fr + i) + z < 2 ^ 31 by omega), (f100 z (by omega)).1, hty]
    simp only [gd_t, Option.bind_some]
    have htv := tvV_r (V (q + 2 + 2 * z))
    by_cases c : tvV (V (q + 2 + 2 * z)) = 1
    · rw [c, if_pos (by decide), show nI z + 1 = nI (z + 1) from nI_add z 1]
      exact ih (z + 1) nf (by omega) (by omega) (fun z' hz' => by
        by_cases cz : z' = z
        · rw [cz]; exact c
        · exact hall z' (by omega))
    · have hne : ¬ nI (tvV (V (q + 2 + 2 * z))) = (1 : Int32) := fun q1 => c ((nI_eq (a := tvV (V (q + 2 + 2 * z))) (b := 1) (by omega) (by omega)).mp q1)
      rw [if_neg hne]
      exact ⟨fun q1 => absurd (q1 z (by omega)) c, fun _ => rfl⟩
theorem RHd_st (R : RHd K pl V m fr y e n' r' ν ρ W S) : RHd K pl V m fr y e n' r' ν ρ W (stS S v0 v1 v2 v3) :=
  RHd_ag R (fun a i q1 q2 => ⟨stS_i (by omega), stS_j (by omega)⟩) (fun a i q => ⟨stS_i (by omega), stS_j (by omega)⟩) (fun a i q => stS_i (by omega)) (fun i q => stS_i (by omega))
/-- the run as it begins -/
theorem RI_0 (T : TH K pl V m) (hfu : 30000 ≤ fu) (R : RHd K pl V m fr y e n' r' ν ρ W S) (hLB : LB V y) {ar : Nat → Int64} {cnt : Nat} {x : TR} (hq : (q0, cnt, x) ∈ fuP y) (h57 : S.1 75 57 = 0) (h64 : S.1 75 64 = 0) (h68 : S.1 75 68 = 0) (h72 : S.1 75 72 = 0) : ∃ S3 nS f1 f2, f_X11_enter fu (nI (ρ (4 * q0))) (-1) (-1) (-1) S = some (0, S3) ∧ RF S S3 ∧ RI K V y q0 ar ν ρ S3 1 nS 0 (fun _ => [(4 * q0, 0)]) (fun _ => 0) (fun _ _ => none) (fun _ _ => none) (fun _ => ([], 0)) [] f1 f2 ∧ CNt y S3 1 (fun _ => [(4 * q0, 0)]) (fun _ => 0) := by
  have w := R.1
  have hm := T.m_
  have hem := R.2.1
  have hP : POk V y [(4 * q0, 0)] := ⟨q0, cnt, x, hq, rfl⟩
  have hlen := rgL_le w (by omega) hP
  have hc1 := cwR_le w (by omega) hP
  have hc2 := hLB.1 _ hP
  have hE0 : EnL y ρ S S 0 0 0 0 (fun _ => [(4 * q0, 0)]) (fun _ => 0) (fun _ => -1) (fun _ => -1) (fun _ => -1) (fun _ => 0) (fun _ => 0) 0 0 := EnL_nil h57 h64
  obtain ⟨S3, v1', v2'⟩ := EnL_sn (fu := fu) T (by omega) R hE0 hP (o := -1) (x3 := -1) (x4 := -1) (by omega) (by omega)
  obtain ⟨i1, i2, i3, i4, i5, i6, i7, i8, i9, i10⟩ := v2'
  obtain ⟨a1, a2, a3, a4, a5, a6, a7, a8, a9⟩ := i4 0 (by omega) (by omega)
  have eA : upN (fun _ => [(4 * q0, 0)]) (0 + 0) [(4 * q0, 0)] 0 = [(4 * q0, 0)] := if_pos rfl
  have eb : upN (fun _ => (0 : Nat)) (0 + 0) 0 0 = 0 := if_pos rfl
  have ec : upN (fun _ => (-1 : Int32)) (0 + 0) (-1) 0 = -1 := if_pos rfl
  rw [eA] at a1 a4 a8 a9
  rw [eb] at a3 a8 a9
  rw [ec] at a2 a5 a6
  have hft : 4 * q0 / 4 ∈ (ftP y).map Prod.fst := by
    rw [show 4 * q0 / 4 = q0 by omega]
    exact fu_ft w hq
  refine ⟨S3, _, exF 1 0 y (fun _ => 0) 0 (hdR [(4 * q0, 0)]), exF 0 1 y (fun _ => 0) 0 (hdR [(4 * q0, 0)]), v1', ⟨fun a i q1 q2 => i7 a i (by omega) (by omega) (by omega), fun a i q1 q2 => by rw [i8]⟩, ⟨⟨i1, i2, (i7 75 68 (by omega) (by omega) (by omega)).trans h68, (i7 75 72 (by omega) (by omega) (by omega)).trans h72⟩, ⟨by omega, rfl⟩, fun x1 hx1 => ?_, fun x1 x2 h1 h2 => absurd h2 (by omega), fun P t q => ?_, fun T hT => absurd hT (by omega), fun x1 hx1 z hz hzr => ?_, List.nodup_nil, fun En' Va' De' hcl => ⟨fun x1 _ => hcl.1, fun P t a q => (by cases q), fun e he => absurd he List.not_mem_nil⟩, ?_, ?_, Nat.le_refl _⟩, fun x1 hx1 => ?_⟩
  · have hx : x1 = 0 := by omega
    subst hx
    refine ⟨hP, a1, a3, a8, fun c Q hc => ?_, .inl rfl, fun k t hk => ⟨(a9 k t hk).1, (a9 k t hk).2.1⟩⟩
    cases hc
    refine ⟨fun _ => ⟨fun _ => a5, fun q => absurd rfl q⟩, fun q => absurd hft q, fun z hz q1 q2 => ?_, fun j2 a b γ2 r2 hz2 q2 => ?_⟩
    · have q2 : 4 * q0 = 4 * otk z.1 := q2
      exact absurd (show otk z.1 = q0 by omega) ((ft_fu w).2.2 q0 (fu_ft w hq) z hz)
    · have q2 : 4 * q0 = 4 * j2 := q2
      have q3 : otk (.tag 11 (.tag j2 (.append a b))) = q0 := by
        show j2 = q0
        omega
      exact absurd q3 ((ft_fu w).2.2 q0 (fu_ft w hq) _ hz2)
  · rcases q with q | q | ⟨i, q⟩
    · exact absurd rfl q
    · exact absurd rfl q
    · exact absurd q List.not_mem_nil
  · have hs := ((tl_P w) z hz).2.1
    refine ⟨NI_init hs rfl (fun P' c1 c2 => ?_) (fun i c1 => absurd c1 List.not_mem_nil), fun a q => ?_, fun _ k hk => ?_⟩
    · obtain ⟨x2, d1, d2⟩ := c1
      have d2 : [(4 * q0, 0)] = P' := d2
      rw [← d2] at c2
      have := (own_one (y := y) (4 * q0, 0)).symm.trans (congrArg Prod.fst c2)
      cases this
    · cases q
    · have hk : (rgL y (hdR [(4 * q0, 0)]))[k]? = some (otk z.1) := hk
      obtain ⟨-, -, k3, k4⟩ := a9 k _ hk
      rw [pcT_at w hz] at k3 k4
      exact ⟨by show _ ≤ exF 1 0 y (fun _ => 0) 0 (hdR [(4 * q0, 0)]) (0 + k); omega, by show _ ≤ exF 0 1 y (fun _ => 0) 0 (hdR [(4 * q0, 0)]) (0 + k); omega⟩
  · have e0 : tot (exF 1 0 y (fun _ => 0) 0 (hdR [(4 * q0, 0)])) 0 = 0 := rfl
    rw [i9, e0]
    show 0 + 0 + (0 + cwR 1 0 y (hdR [(4 * q0, 0)])) ≤ 496 * (0 + 1)
    omega
  · have e0 : tot (exF 0 1 y (fun _ => 0) 0 (hdR [(4 * q0, 0)])) 0 = 0 := rfl
    rw [i10, e0]
    show 1 + (0 + (0 + cwR 0 1 y (hdR [(4 * q0, 0)]))) ≤ 21 * (0 + 1)
    omega
  · have hx : x1 = 0 := by omega
    subst hx
    rw [a4]
    congr 1
    exact (uvc_all _ (fun k hk => by
      have hk : k < (rgL y (hdR [(4 * q0, 0)])).length := hk
      exact i6 (0 + k) (by omega) (by omega))).symm
/-- the reference's start -/
theorem r_start (T : TH K pl V m) (hfu : 700000 ≤ fu) (R : RHd K pl V m fr y e n' r' ν ρ W S) (hG : ∀ z, z ∈ scP y → GdN K V (ftP y) z) (hF : ∀ q cnt x, (q, cnt, x) ∈ fuP y → tyV K V x = tvV (V q)) (hLB : LB V y) {i cnt : Nat} {x : TR} (hi : (fuP y)[i]? = some (q0, cnt, x)) :
    ((∀ z', z' < cnt → tvV (V (q0 + 2 + 2 * z')) = 1) → ∃ S', f_X11_start fu (nI i) v0 v1 v2 v3 S = some (1, S') ∧ RF (stS (uI S 75 0 0) v0 v1 v2 v3) S' ∧ RX K pl V m fr y e n' r' q0 (arF v0 v1 v2 v3) ν ρ W S' ∧ ∃ (nA nS nT : Nat) (A : Nat → TPth) (b : Nat → Nat) (vals : TPth → Nat → Option TVal) (lk : TPth → Nat → Option TPth) (M : Nat → TPth × Nat) (Lv : List TEv) (f1 f2 : Nat → Nat), RI K V y q0 (arF v0 v1 v2 v3) ν ρ S' nA nS nT A b vals lk M Lv f1 f2 ∧ Lv.length ≤ 1021 ∧ (Lv.length ≤ 1000 → CloA K V y q0 (arF v0 v1 v2 v3) (EnA nA A) (Vf vals) (fun e => e ∈ Lv))) ∧
    (¬ (∀ z', z' < cnt → tvV (V (q0 + 2 + 2 * z')) = 1) → f_X11_start fu (nI i) v0 v1 v2 v3 S = some (0, uI S 75 0 0)) := by
  have w := R.1
  obtain ⟨-, f2, fc⟩ := FA_fu w fr R.2.2.2.2.2.2.2.2.2.1 i q0 cnt x hi
  have h6 := R.2.2.2.2.2.1
  have h7 := R.2.2.2.2.2.2.1
  have h8 := R.2.2.2.2.2.2.2.1
  have h9 := R.2.2.2.2.2.2.2.2.1
  obtain ⟨S0, hS0⟩ : ∃ S0, S0 = uI S 75 0 0 := ⟨_, rfl⟩
  have R0 : RHd K pl V m fr y e n' r' ν ρ W S0 := by
    rw [hS0]
    exact RHd_ag R (fun a i q1 q2 => ⟨uI_ne (by omega), rfl⟩) (fun a i q => ⟨uI_ne (by omega), rfl⟩) (fun a i q => uI_ne (by omega)) (fun i q => uI_ne (by omega))
  have hun : f_X11_start fu (nI i) v0 v1 v2 v3 S = f_X11_start_L33 fu fu (nI i) v0 v1 v2 v3 (nI (fr + i)) (nI 0) S0 := by
    unfold f_X11_start
    rw [if_neg (fun c => by have := (mI_lt (a := i) (b := 0) (by omega) (by omega)).mp c; omega), h8, if_pos ((mI_lt (a := i) (b := (ftP y).length) (by omega) (by omega)).mpr (by omega)), h9, nI_add, hS0]
    rfl
  obtain ⟨k1, k2⟩ := r_st1 (fu := fu) (v0 := v0) (v1 := v1) (v2 := v2) (v3 := v3) T (by omega) R0 hi cnt 0 fu (by omega) (by have := PW_cnt w q0 cnt x (List.mem_of_getElem? hi); omega) (fun z' hz' => absurd hz' (by omega))
  rw [hun]
  refine ⟨fun hall => ?_, fun hno => by rw [k2 hno, hS0]⟩
  rw [k1 hall]
  have h96 : S0.1 96 i = nI (ρ (4 * q0)) := by
    rw [R0.2.2.2.2.2.2.2.2.2.2.2.2.2.2 i (by omega), List.getD_eq_getElem?_getD, fc]
    rfl
  obtain ⟨c1, c2, c3, c4, c5, c6, c7⟩ := stS_75 (S := S0) (v0 := v0) (v1 := v1) (v2 := v2) (v3 := v3)
  obtain ⟨S3, nS, g1, g2, e1, e2, e3, e4⟩ := RI_0 (fu := fu) (ar := arF v0 v1 v2 v3) T (by omega) (RHd_st (v0 := v0) (v1 := v1) (v2 := v2) (v3 := v3) R0) hLB (List.mem_of_getElem? hi) c1 c2 c3 c4
  rw [h96, e1]
  simp only [Option.bind_some]
  have X3 : RX K pl V m fr y e n' r' q0 (arF v0 v1 v2 v3) ν ρ W S3 := by
    refine ⟨T, RHd_rf (RHd_st R0) e2, hG, hF, hLB, fun z hz => (e2.2 131 z (by omega) (by omega)).trans (stS_ar hz), fun cnt' x' hq' z hz => ?_⟩
    have := fu_uq w q0 _ _ (List.mem_of_getElem? hi) hq'
    have hcc : cnt = cnt' := congrArg Prod.fst this
    exact hall z (by omega)
  obtain ⟨S', p1, p2, nA, nS', nT, A, b, vals, lk, M, Lv, f1, f2, p3, p4, p5⟩ := hp_L2 (fu := fu) hfu 600000 fu S3 1 nS 0 _ _ _ _ _ _ _ _ (by omega) (by omega) X3 e3 e4 (Nat.zero_le _)
  unfold f_X11_happen
  rw [p1]
  have X' := RX_rf X3 p2
  rw [← hS0]
  exact ⟨S', rfl, RF.trans' e2 p2, X', nA, nS', nT, A, b, vals, lk, M, Lv, f1, f2, p3, p4, fun hh => r_clo X' p3 (p5 hh)⟩
end STA
