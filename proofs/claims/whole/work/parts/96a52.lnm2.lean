/-! the reference finds a loop's name, 2 -/
section LN2
variable {K pl : Nat → Nat} {V : Nat → Int64} {m fr e n' r' fu : Nat} {y : TR} {q0 : Nat} {ar : Nat → Int64} {ν ρ : Nat → Nat} {W : Nat → Int32 × Int32 × Int32} {S : im_S} {nA nS nT : Nat} {A : Nat → TPth} {b : Nat → Nat} {vals : TPth → Nat → Option TVal} {lk : TPth → Nat → Option TPth} {M : Nat → TPth × Nat} {Lv : List TEv} {f1 f2 : Nat → Nat}
/-- a node's place in an activation -/
def AtN (K : Nat → Nat) (V : Nat → Int64) (y : TR) (A : Nat → TPth) (x k t ty : Nat) (Q : TPth) : Prop := A x = Q ∧ (rgL y (hdR (A x)))[k]? = some t ∧ ∃ z, z ∈ scP y ∧ otk z.1 = t ∧ z.2.2 = hdR (A x) ∧ tyV K V z.1 = ty
def fdS (S : im_S) (s : Nat) : im_S := uJ (uI S 75 81 (S.1 126 s)) 75 82 (S.2.1 127 s)
theorem sub_AtN (w : PW K y 0 e) {x : Nat} {xk : TR} {γ : List Nat} {r ty : Nat} {Q : TPth} (hz : (xk, γ, r) ∈ scP y) (hA : A x = Q) (hr : hdR Q = r) (ht : tyV K V xk = ty) : ∃ k, AtN K V y A x k (otk xk) ty Q := by
  obtain ⟨k, hk⟩ := rgL_sc w hz
  exact ⟨k, hA, by rw [hA, hr]; exact hk, _, hz, rfl, by rw [hA, hr], ht⟩
theorem sl_fd (T : TH K pl V m) (R : RHd K pl V m fr y e n' r' ν ρ W S) (I : RI K V y q0 ar ν ρ S nA nS nT A b vals lk M Lv f1 f2) (h : Lv.length ≤ 1000) {x k t ty : Nat} {Q : TPth} (hx : x < nA) (ha : AtN K V y A x k t ty Q) : (f_X11_slot (nI x) (nI (ν t)) S).bind (fun q => (f_X11_foundAt q.1 q.2).bind (fun q9 => some ((), q9.2))) = some ((), fdS S (b x + k)) ∧ FV S M nT vals (.inl (Q, t)) (S.1 126 (b x + k)) (S.2.1 127 (b x + k)) ∧ ∀ a, vals Q t = some a → tyO ty a := by
  obtain ⟨a1, a2, z, a3, a4, a5, a6⟩ := ha
  obtain ⟨u1, u2, u3, u4, u5⟩ := sl_at T R I h hx a2
  rw [u1]
  simp only [Option.bind_some]
  rw [r_found (by omega)]
  simp only [Option.bind_some]
  refine ⟨rfl, ?_, fun a q => ?_⟩
  · rw [a1] at u4
    exact fv_sl u4
  · obtain ⟨-, -, -, -, -, -, r7, -⟩ := I
    have := (r7 x hx z a3 a5).2.1 a (by rw [a1, a4]; exact q)
    rw [a6] at this
    exact this
theorem r_ln (T : TH K pl V m) (hfu : 30000 ≤ fu) (R : RHd K pl V m fr y e n' r' ν ρ W S) (I : RI K V y q0 ar ν ρ S nA nS nT A b vals lk M Lv f1 f2) (h : Lv.length ≤ 1000) {j r q kq : Nat} {fs c ns g : TR} {γ : List Nat} (hz : (.tag 7 (.tag j (.append fs (.append c (.append ns g)))), γ, r) ∈ scP y) (hG : GdN K V (ftP y) (.tag 7 (.tag j (.append fs (.append c (.append ns g)))), γ, r)) (hq : (tks fs)[kq]? = some q) {Q : TPth} {z1 : Int32} :
    ∀ (x nf i : Nat), x < nA → x < nf → A x = (4 * j, i) :: Q → ∃ pl', LnP V j fs ns q Q i = some pl' ∧ ∃ x' k', x' < nA ∧ AtN K V y A x' k' pl'.2 (tvV (V q)) pl'.1 ∧ f_X11_loopName_L3 fu nf z1 (nI (ν j)) (nI kq) (nI x) S = some ((), fdS S (b x' + k')) := by
  have hb := RI_b I h
  have w := R.1
  have hm := T.m_
  have he := R.2.1
  obtain ⟨⟨p', e', wz⟩, -, htr⟩ := (tl_P w) _ hz
  obtain ⟨-, b1, d1, g1, n1, n2, w1, w2, w3, w4⟩ := wz
  obtain ⟨t1, t2, t3, t4, t5⟩ := hG
  obtain ⟨⟨hnd, ⟨i0, j89, j90, jfs, Lfs⟩, j83, ⟨i1, j91, j92, jns, Lns⟩, j84⟩, hν, hIN, -⟩ := rs_P T R _ hz
  have hν : ν j < 1200 := hν
  obtain ⟨N1, N2⟩ := RwB_N fs Lfs i0 jfs
  obtain ⟨N3, N4⟩ := RwB_N ns Lns i1 jns
  have hr'' : r' ≤ 1200 := by
    have := R.2.2.2.1
    have := R.2.2.2.2.1
    omega
  have hfl : i0 + tln fs ≤ 1200 := by
    have := RwB_le fs Lfs i0 jfs n1
    omega
  have hnl : i1 + tln ns ≤ 1200 := by
    have := RwB_le ns Lns i1 jns n2
    omega
  have hds := ds_at fs Lfs [] t3 kq q hq
  have hidx : idx V (tks fs) q = some kq := idx_fst _ _ _ hq hds.1
  have hkq : kq < (tks fs).length := idx_lt _ _ _ hidx
  have hk1 : ∀ k', k' < kq → (tks fs)[k']? ≠ some q := fun k' c1 c2 => hds.1 k' q c1 c2 rfl
  obtain ⟨xk, rx1, rx2, rx3⟩ := rw_at fs Lfs i0 kq q jfs hq hk1
  obtain ⟨rx4, rx5⟩ := rwX_in fs Lfs _ _ (.inr w1) t2 xk rx1
  have hzk : (xk, γ, r) ∈ scP y := htr _ (mc _ (ml _ (rx4 γ r)))
  have r3 := I.2.2.1
  intro x
  induction x using Nat.strongRecOn with
  | ind x ih =>
    intro nf i hx hnf hA
    obtain ⟨nf, rfl⟩ : ∃ z, nf = z + 1 := ⟨nf - 1, by omega⟩
    obtain ⟨x1, x2, x3, x4, x5, x6, x7⟩ := r3 x hx
    obtain ⟨-, a2, a3, -⟩ := x5 _ _ hA
    have hnf' : ¬ 4 * j / 4 ∈ (ftP y).map Prod.fst := by
      rw [show 4 * j / 4 = j by omega]
      exact fun q => (ft_fu w).2.2 _ q _ hz rfl
    obtain ⟨a31, a32⟩ := a3 _ hz rfl rfl
    rw [f_X11_loopName_L3, mI_in (a := x) (n := 24000) (by omega) (by omega), nI_clamp (show x < 2 ^ 31 by omega)]
    simp only [gd_t]
    cases i with
    | zero =>
      rw [if_pos (a31 rfl)]
      obtain ⟨xq, q1, q2, q3⟩ := a2 hnf'
      rw [q3, mI_in (a := ν j) (n := 1200) (by omega) hν, nI_clamp (show ν j < 2 ^ 31 by omega), j89, nI_add, mI_in (a := i0 + kq) (n := 1200) (by omega) (by omega), nI_clamp (show i0 + kq < 2 ^ 31 by omega), rx2]
      simp only [gd_t]
      have hP := x1
      rw [hA] at hP
      obtain ⟨c', Q', p1, p2, p3, p4⟩ := P_par w hz (k := 0) (i := 0) (by omega) hP
      have hrQ : hdR Q = r := by
        rw [p1]
        rcases p2 with p2 | p2
        · exact p2.2
        · exact absurd p2.1 (by show ¬ (4 * j + 0 = 4 * j + 1 ∨ 4 * j + 0 = 4 * j + 2); omega)
      obtain ⟨kk, hkk⟩ := sub_AtN (A := A) w hzk q2 hrQ rx5
      refine ⟨(Q, otk xk), ?_, xq, kk, by omega, hkk, (sl_fd T R I h (by omega) hkk).1⟩
      show (rwX fs q).map (fun x => (Q, otk x)) = _
      rw [rx1]
      rfl
    | succ i =>
      obtain ⟨xp, xn, y1, y2, y3, y4, y5, y6⟩ := a32 i rfl
      have hne : ¬ S.1 124 x = -1 := by
        rw [y5]
        exact fun c => nI_m1 (by omega) c
      have hl17 := l17 (fu := fu) (K3 := f_X11_loopName_L3 fu nf) (z1 := z1) (nx := x) (pl := pl) (ν := ν) (rlo := 75 * fr) (rhi := r') (l := tks fs) (i0 := i0) (i1 := i1) (n1 := tln ns) (q := q) hν (by omega) hr'' j89 (by rw [N2]; exact j90) (by omega) (by omega) N1 j91 j92 hidx ns Lns 0 fu jns (by omega) (by omega) hnl (.inl t5)
      have hl17 : f_X11_loopName_L17 fu (f_X11_loopName_L3 fu nf) fu z1 (nI (ν j)) (nI kq) (nI x) 0 S = _ := hl17
      rw [if_neg hne, hl17]
      cases hh : nxX V ns q with
      | some x' =>
        obtain ⟨rn1, rn2⟩ := nxX_in ns Lns _ _ (.inr w3) t4 x' hh
        have hzx : (x', bnd fs γ, 4 * j + 1) ∈ scP y := htr _ (mc _ (mr _ (mr _ (ml _ (rn1 _ _)))))
        obtain ⟨kk, hkk⟩ := sub_AtN (A := A) w hzx y4 rfl rn2
        refine ⟨((4 * j + 1, 0) :: (4 * j, i) :: Q, otk x'), ?_, xn, kk, by omega, hkk, ?_⟩
        · show (match nxX V ns q with | some x => some ((4 * j + 1, 0) :: (4 * j, i) :: Q, otk x) | none => LnP V j fs ns q Q i) = _
          rw [hh]
        · show (f_X11_slot (S.1 125 x) (nI (ν (otk x'))) S).bind _ = _
          rw [y6]
          exact (sl_fd T R I h (by omega) hkk).1
      | none =>
        obtain ⟨pl', v1, v2⟩ := ih xp y1 nf i (by omega) (by omega) y3
        refine ⟨pl', ?_, ?_⟩
        · show (match nxX V ns q with | some x => some ((4 * j + 1, 0) :: (4 * j, i) :: Q, otk x) | none => LnP V j fs ns q Q i) = _
          rw [hh]
          exact v1
        · show ∃ x' k', x' < nA ∧ _ ∧ f_X11_loopName_L3 fu nf z1 (nI (ν j)) (nI kq) (S.1 124 x) S = _
          rw [y5]
          exact v2
end LN2
