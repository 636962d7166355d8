/-! steps of the reference: a cell is taken -/
theorem ix20 : ∀ i : Nat, i < 20 → (Int64.ofNat i).toInt32 = nI i := by decide
theorem ix_nat {v : Int64} {n : Nat} (hn : n ≤ 20) (h0 : ¬ (lg_cmp v 0 : Int32) < 0) (h1 : (lg_cmp v (nI n).toInt64 : Int32) < 0) : ∃ i, i < n ∧ v = Int64.ofNat i ∧ v.toInt32 = nI i ∧ i64N v = i := by
  rw [lg_cmp_lt, Int64.lt_iff_toInt_lt] at h0 h1
  have e0 : (0 : Int64).toInt = 0 := rfl
  rw [nI64 (by omega), Int64.toInt_ofNat_of_lt (show n < 2 ^ 63 by omega)] at h1
  rw [e0] at h0
  obtain ⟨i, hi⟩ : ∃ i : Nat, v.toInt = i := ⟨v.toInt.toNat, by omega⟩
  have hin : i < n := by omega
  have hv : v = Int64.ofNat i := by
    apply Int64.toInt_inj.mp
    rw [hi, Int64.toInt_ofNat_of_lt (show i < 2 ^ 63 by omega)]
  have hq := ix20 i (by omega)
  refine ⟨i, hin, hv, by rw [hv]; exact hq, ?_⟩
  unfold i64N
  rw [hv, hq, nI_clamp (by omega)]
theorem nI_64_32 (i : Nat) : ((nI i).toInt64).toInt32 = nI i := by simp
section STC
variable {K pl : Nat → Nat} {V : Nat → Int64} {m fr e n' r' fu : Nat} {y : TR} {q0 : Nat} {ar : Nat → Int64} {ν ρ : Nat → Nat} {W : Nat → Int32 × Int32 × Int32} {S S1 : im_S} {nA nS nT : Nat} {A : Nat → TPth} {b : Nat → Nat} {vals : TPth → Nat → Option TVal} {lk : TPth → Nat → Option TPth} {M : Nat → TPth × Nat} {Lv evs : List TEv} {f1 f2 : Nat → Nat} {x0 k0 j r : Nat} {γ : List Nat}
/-- the slot of a region's root -/
theorem rt_at (T : TH K pl V m) (R : RHd K pl V m fr y e n' r' ν ρ W S) (I : RI K V y q0 ar ν ρ S nA nS nT A b vals lk M Lv f1 f2) (h : Lv.length ≤ 1000) {x1 r1 : Nat} {x : TR} {γ' : List Nat} {l : List Nat} (hx : x1 < nA) (hz : (x, γ', r1) ∈ scP y) (hr : r1 = hdR (A x1)) (hg : (r1, l, some (otk x)) ∈ rgP y) : ∃ s, f_X11_rootSlot (nI x1) S = some (nI s, S) ∧ s < 496496 ∧ Sl S M nT s (vals (A x1) (otk x)) ∧ ∀ a, vals (A x1) (otk x) = some a → tyO (tyV K V x) a := by
  obtain ⟨s, v1, v2, v3, v4⟩ := op_at T R I h hx hz hr
  have hb := RI_b I h
  obtain ⟨a1, a2, -⟩ := I.2.2.1 x1 hx
  obtain ⟨-, g1, g2, g3, -⟩ := rg_at R T hg
  refine ⟨s, ?_, v2, v3, v4⟩
  rw [← hr] at a2
  unfold f_X11_rootSlot
  rw [mI_in (a := x1) (n := 24000) (by omega) (by omega), nI_clamp (show x1 < 2 ^ 31 by omega), a2, mI_in (a := ρ r1) (n := 640) (by omega) g1, nI_clamp (show ρ r1 < 2 ^ 31 by omega), g3]
  show gd true (gd true ((f_X11_slot (nI x1) (nI (ν (otk x))) S).bind _)) = _
  rw [v1]
  rfl
set_option maxHeartbeats 4000000 in
theorem st_10 (T : TH K pl V m) (R : RHd K pl V m fr y e n' r' ν ρ W S) (I : RI K V y q0 ar ν ρ S nA nS nT A b vals lk M Lv f1 f2) (h : Lv.length ≤ 1000) (hG : ∀ z, z ∈ scP y → GdN K V (ftP y) z) (hx0 : x0 < nA) {x x' : TR} (hz : (.tag 10 (.tag j (.append x x')), γ, r) ∈ scP y) (hr : r = hdR (A x0)) (hk0 : (rgL y (hdR (A x0)))[k0]? = some j) (hv0 : vals (A x0) j = none) : ∃ ans S', f_X11_step fu (nI x0) (nI (ν j)) S = some (ans, S') ∧ SO K V y q0 ar ν ρ S nA nS nT A b vals lk M Lv f1 f2 x0 k0 (.tag 10 (.tag j (.append x x')), γ, r) ans S' := by
  have hb := RI_b I h
  obtain ⟨u1, u2, u3, u4, u5⟩ := sl_at T R I h hx0 hk0
  obtain ⟨⟨⟨h81, -⟩, h83, h84, -⟩, -⟩ := rs_P T R _ hz
  have hP := (I.2.2.1 x0 hx0).1
  obtain ⟨⟨p', e', wz⟩, -, htr⟩ := (tl_P R.1) _ hz
  obtain ⟨w1, bb, w2, -⟩ := wz
  have hzx : (x, γ, r) ∈ scP y := htr _ (mc _ (ml _ (hd_in w1 _ _)))
  have hzx' : (x', γ, r) ∈ scP y := htr _ (mc _ (mr _ (hd_in w2 _ _)))
  obtain ⟨s1, v1, v2, v3, v4⟩ := op_at T R I h hx0 hzx hr
  obtain ⟨s2, v1', v2', v3', v4'⟩ := op_at T R I h hx0 hzx' hr
  obtain ⟨gt, gt'⟩ := hG _ hz
  have hNIe : vals (A x0) j = none → EB (fun e => e ∈ Lv) (A x0) j (fun _ => False) := ((I.2.2.2.2.2.2.1 x0 hx0 _ hz hr).1).1
  have hnv : ¬ (A x0, j, 0) ∈ Lv := fun q => hNIe hv0 0 q
  have hun : f_X11_step fu (nI x0) (nI (ν j)) S = (f_X11_cellOf (nI (b x0 + k0)) (nI s1) (nI s2) S).bind (fun q => gd (z_b q.1) (some (q.1, q.2))) := by
    unfold f_X11_step
    rw [u1]
    simp only [Option.bind_some]
    rw [mI_in (a := ν j) (n := 1200) (by omega) u3, nI_clamp (show ν j < 2 ^ 31 by omega), h81, h83, v1]
    simp only [gd_t, Option.bind_some]
    rw [h84, v1']
    simp only [gd_t, Option.bind_some]
    rw [if_neg (by decide), if_neg (by decide), if_neg (by decide), if_neg (by decide), if_neg (by decide), if_neg (by decide), if_neg (by decide), if_neg (by decide), if_neg (by decide), if_pos (by decide)]
  rw [hun]
  cases hv : vals (A x0) (otk x) with
  | none =>
    have : f_X11_cellOf (nI (b x0 + k0)) (nI s1) (nI s2) S = some (0, S) := by
      unfold f_X11_cellOf
      rw [mI_in (a := s1) (n := 520000) (by omega) (by omega), nI_clamp (show s1 < 2 ^ 31 by omega)]
      simp only [gd_t]
      rw [if_pos ((sl_0 v3).mpr hv)]
    rw [this]
    exact ⟨0, S, rfl, so_zero R.1 I hx0 hz hr hk0 (rgL_nd R) hv0 (fun _ _ _ => rfl) (fun _ _ _ => rfl) (.inl hv)⟩
  | some a =>
    cases hv' : vals (A x0) (otk x') with
    | none =>
      have : f_X11_cellOf (nI (b x0 + k0)) (nI s1) (nI s2) S = some (0, S) := by
        unfold f_X11_cellOf
        rw [mI_in (a := s1) (n := 520000) (by omega) (by omega), nI_clamp (show s1 < 2 ^ 31 by omega), mI_in (a := s2) (n := 520000) (by omega) (by omega), nI_clamp (show s2 < 2 ^ 31 by omega)]
        simp only [gd_t]
        rw [if_neg (fun q => by have := (sl_0 v3).mp q; rw [hv] at this; cases this), if_neg (fun q => q ((sl_0 v3').mpr hv'))]
      rw [this]
      exact ⟨0, S, rfl, so_zero R.1 I hx0 hz hr hk0 (rgL_nd R) hv0 (fun _ _ _ => rfl) (fun _ _ _ => rfl) (.inr (.inl hv'))⟩
    | some a' =>
      have t1 := v4 a hv
      have t2 := v4' a' hv'
      rw [hv] at v3
      rw [hv'] at v3'
      have n1 : ¬ S.1 126 s1 = 0 := fun q => by have := (sl_0 v3).mp q; cases this
      have n2 : S.1 126 s2 ≠ 0 := fun q => by have := (sl_0 v3').mp q; cases this
      -- what comes of a value
      have fin : ∀ {k : Int32} {v : Int64} {a2 : TVal}, k = nI a2.1 → EcV S M nT a2 v → tyO 1 a2 → ((∀ e, erV a a' = some e → a2 = mkE e) ∧ (erV a a' = none → badI a'.2.1 a.2.1 → a2 = mkE 2) ∧ (erV a a' = none → ¬ badI a'.2.1 a.2.1 → ∃ q q' γ r, (.tag 11 (.tag a.2.2.2 (.append q q')), γ, r) ∈ scP y ∧ vals ((4 * a.2.2.2, i64N a'.2.1) :: a.2.2.1) (otk q') = some a2)) → ∃ ans S', ((f_X11_event (nI (b x0 + k0)) k v S).bind (fun q => gd (z_b q.1) (some (q.1, q.2)))).bind (fun q => gd (z_b q.1) (some (q.1, q.2))) = some (ans, S') ∧ SO K V y q0 ar ν ρ S nA nS nT A b vals lk M Lv f1 f2 x0 k0 (.tag 10 (.tag j (.append x x')), γ, r) ans S' := fun {k v a2} g1 g2 g3 g4 => by
        have hNI : NI K V y ar (EnA nA A) (upV vals (A x0) j (some a2)) (fun e => e ∈ (A x0, j, 0) :: Lv) (A x0) (lk (A x0) j) (.tag 10 (.tag j (.append x x')), γ, r) := by
          refine ⟨fun q => ?_, fun a1 q => ?_⟩
          · rw [upV_eq] at q
            cases q
          · rw [upV_eq] at q
            have q := Option.some.inj q
            subst q
            refine ⟨List.mem_cons_self, a, a', upV_mono hv0 hv, upV_mono hv0 hv', g4.1, g4.2.1, fun c1 c2 => ?_⟩
            obtain ⟨q, q', γ1, r1, d1, d2⟩ := g4.2.2 c1 c2
            exact ⟨q, q', γ1, r1, d1, upV_mono hv0 d2⟩
        obtain ⟨S', p1, p2⟩ := so_ev (i := 0) R.1 T R I h hx0 hz hr hk0 hv0 g1 g2 hnv hNI g3 (fun En' Va' De' hcl s1 s2 => by
          have hc := clo_at hcl (s1 x0 hx0) hP hz hr a a' (s2 _ _ _ hv) (s2 _ _ _ hv')
          cases he : erV a a' with
          | some e =>
            have := hc.1 e he
            rw [g4.1 e he]
            exact ⟨this.2, this.1⟩
          | none =>
            by_cases hbd : badI a'.2.1 a.2.1
            · have := hc.2.1 he hbd
              rw [g4.2.1 he hbd]
              exact ⟨this.2, this.1⟩
            · obtain ⟨q, q', γ1, r1, d1, d2⟩ := g4.2.2 he hbd
              have := hc.2.2 he hbd q q' γ1 r1 a2 d1 (s2 _ _ _ d2)
              exact ⟨this.2, this.1⟩)
        rw [p1]
        exact ⟨1, S', rfl, p2⟩
      have hce : f_X11_cellOf (nI (b x0 + k0)) (nI s1) (nI s2) S = (if (lg_cmp ((erV a a').getD 0) 0 : Int32) ≤ 0 then (if (lg_cmp (S.2.1 127 s2) 0 : Int32) < 0 then ((f_X11_event (nI (b x0 + k0)) 4 2 S).bind (fun qS8 => gd (z_b qS8.1) (some (qS8.1, qS8.2)))) else (gd (in_b ((S.2.1 127 s1).toInt32) 1002) (if (lg_cmp (S.2.1 127 s2) ((S.1 130 (((S.2.1 127 s1).toInt32).toNatClampNeg)).toInt64) : Int32) < 0 then (gd (in_b ((S.2.1 127 s1).toInt32) 1002) ((f_X11_rootSlot ((S.1 129 (((S.2.1 127 s1).toInt32).toNatClampNeg)) + ((S.2.1 127 s2).toInt32)) S).bind (fun qS12 => gd (in_b qS12.1 520000) (if ((qS12.2.1 126) qS12.1.toNatClampNeg : Int32) = 0 then (some (0, qS12.2)) else ((f_X11_event (nI (b x0 + k0)) ((qS12.2.1 126) qS12.1.toNatClampNeg) ((qS12.2.2.1 127) qS12.1.toNatClampNeg) qS12.2).bind (fun qS16 => if (qS16.1 : Int32) = 0 then (some (0, qS16.2)) else (some (1, qS16.2)))))))) else ((f_X11_event (nI (b x0 + k0)) 4 2 S).bind (fun qS20 => gd (z_b qS20.1) (some (qS20.1, qS20.2))))))) else ((f_X11_event (nI (b x0 + k0)) 4 ((erV a a').getD 0) S).bind (fun qS23 => gd (z_b qS23.1) (some (qS23.1, qS23.2))))) := by
        unfold f_X11_cellOf
        rw [r_err (by omega) (by omega) v3 v3', mI_in (a := s1) (n := 520000) (by omega) (by omega), mI_in (a := s2) (n := 520000) (by omega) (by omega), nI_clamp (show s1 < 2 ^ 31 by omega), nI_clamp (show s2 < 2 ^ 31 by omega)]
        simp only [gd_t, Option.bind_some]
        rw [if_neg n1, if_pos n2]
        congr 1
        congr 1
        congr 1
        congr 1
        congr 1
        congr 1
        funext q
        cases hq : in_b q.1 520000 with
        | true => simp only [gd_t]
        | false => rfl
      rw [hce]
      cases he : erV a a' with
      | some v =>
        rw [if_neg (show ¬ (lg_cmp ((some v).getD 0) 0 : Int32) ≤ 0 from er_pos (erV_3 t1 t2 he))]
        exact fin (a2 := mkE v) rfl ec_e (ty_e (erV_3 t1 t2 he)) ⟨fun e q => by rw [he] at q; cases q; rfl, fun q => (by rw [he] at q; cases q), fun q => (by rw [he] at q; cases q)⟩
      | none =>
        rw [if_pos (show (lg_cmp ((none : Option Int64).getD 0) 0 : Int32) ≤ 0 from by rw [lg_cmp_le]; decide)]
        obtain ⟨c1, c2⟩ := erV_n he
        have k1 : a.1 = 3 := by rw [t1.2 c1]; exact gt
        have k2 : a'.1 = 1 := by rw [t2.2 c2]; exact gt'
        obtain ⟨T', T1, T2, T3, T4⟩ := v3.2.2.2.2 k1
        have e2 : S.2.1 127 s2 = a'.2.1 := (v3'.2.2.2.1 (by omega)).1
        obtain ⟨f, n, F1, F2, F3, F4, q, q', γ1, r1, F5⟩ := I.2.2.2.2.2.1 T' T1
        rw [T2, e2, nI_64_32, mI_in (a := T') (n := 1002) (by omega) (by omega), nI_clamp (show T' < 2 ^ 31 by omega), F1, F2]
        simp only [gd_t]
        have ea : a.2.1 = (nI n).toInt64 := by rw [T4, F2]
        have bad : badI a'.2.1 a.2.1 → ∃ ans S', ((f_X11_event (nI (b x0 + k0)) 4 2 S).bind (fun q => gd (z_b q.1) (some (q.1, q.2)))).bind (fun q => gd (z_b q.1) (some (q.1, q.2))) = some (ans, S') ∧ SO K V y q0 ar ν ρ S nA nS nT A b vals lk M Lv f1 f2 x0 k0 (.tag 10 (.tag j (.append x x')), γ, r) ans S' := fun hbd => fin (a2 := mkE 2) rfl ec_e (ty_e (.inr (.inl rfl))) ⟨fun e q => (by rw [he] at q; cases q), fun _ _ => rfl, fun _ q => absurd hbd q⟩
        by_cases d1 : (lg_cmp a'.2.1 0 : Int32) < 0
        · rw [if_pos d1]
          exact bad (.inl d1)
        · rw [if_neg d1]
          by_cases d2 : (lg_cmp a'.2.1 (nI n).toInt64 : Int32) < 0
          · rw [if_pos d2]
            have hnb : ¬ badI a'.2.1 a.2.1 := fun q => by
              rcases q with q | q
              · exact d1 q
              · rw [ea] at q
                exact q d2
            obtain ⟨i, i1, i2, i3, i4⟩ := ix_nat F3 d1 d2
            obtain ⟨j1, j2⟩ := F4 i i1
            rw [i3, nI_add]
            have hin : (4 * (M T').2, nds q', some (otk q')) ∈ rgP y := in_P R.1 _ F5
            obtain ⟨⟨p1, e1, wz1⟩, -, htr1⟩ := (tl_P R.1) _ F5
            obtain ⟨-, -, -, b1, wq, wq'⟩ := wz1
            have hzq : (q', ((M T').2 + 3) :: ((M T').2 + 1) :: γ1, 4 * (M T').2) ∈ scP y := htr1 _ (mc _ (mr _ (hd_in wq' _ _)))
            have hgq := hG _ F5
            obtain ⟨s3, z1, z2, z3, z4⟩ := rt_at T R I h j1 hzq (by rw [j2]; rfl) hin
            rw [z1]
            simp only [Option.bind_some]
            rw [mI_in (a := s3) (n := 520000) (by omega) (by omega), nI_clamp (show s3 < 2 ^ 31 by omega)]
            simp only [gd_t]
            rw [j2] at z3 z4
            have hpth : (4 * a.2.2.2, i64N a'.2.1) :: a.2.2.1 = (4 * (M T').2, i) :: (M T').1 := by rw [i4, T3]
            cases hv3 : vals ((4 * (M T').2, i) :: (M T').1) (otk q') with
            | none =>
              rw [if_pos ((sl_0 z3).mpr hv3)]
              refine ⟨0, S, rfl, so_zero R.1 I hx0 hz hr hk0 (rgL_nd R) hv0 (fun _ _ _ => rfl) (fun _ _ _ => rfl) (.inr (.inr ⟨a, a', hv, hv', he, hnb, fun u u' γ2 r2 hu => ?_⟩))⟩
              rw [hpth]
              have hu' := (ou_P R.1).2 _ hu _ F5 (by rw [← T3]; rfl)
              have hu2 : u' = q' := congrArg (fun z : TR × List Nat × Nat => match z.1 with | .tag _ (.tag _ (.append _ w)) => w | _ => .nil) hu'
              rw [hu2]
              exact hv3
            | some a3 =>
              have z4 := z4 a3 hv3
              rw [if_neg (fun q => by have := (sl_0 z3).mp q; rw [hv3] at this; cases this)]
              rw [hv3] at z3
              have hqt : tyV K V q' = 1 := hgq.2.2.2
              rw [hqt] at z4
              have := fin (a2 := a3) (k := S.1 126 s3) (v := S.2.1 127 s3) z3.1 (Ec_Sl z3) z4 ⟨fun e q => (by rw [he] at q; cases q), fun _ q => absurd q hnb, fun _ _ => ⟨q, q', γ1, r1, by rw [← T3]; exact F5, by rw [hpth]; exact hv3⟩⟩
              obtain ⟨ans, S', g1, g2⟩ := this
              refine ⟨ans, S', ?_, g2⟩
              rw [← g1]
              obtain ⟨hevt⟩ : Nonempty (∃ E, f_X11_event (nI (b x0 + k0)) (S.1 126 s3) (S.2.1 127 s3) S = some (1, E)) := ⟨_, r_event (by omega)⟩
              obtain ⟨E, hE⟩ := hevt
              rw [hE]
              rfl
          · rw [if_neg d2]
            refine bad (.inr ?_)
            rw [ea]
            exact d2
end STC
