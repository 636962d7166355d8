/-! a sweep of the reference over an activation, 2 -/
/-- what comes out of a walk over nodes -/
def WO (K pl : Nat → Nat) (V : Nat → Int64) (m fr : Nat) (y : TR) (e n' r' q0 : Nat) (ar : Nat → Int64) (ν ρ : Nat → Nat) (W : Nat → Int32 × Int32 × Int32) (S : im_S) (nA nS nT : Nat) (A : Nat → TPth) (b : Nat → Nat) (vals : TPth → Nat → Option TVal) (lk : TPth → Nat → Option TPth) (M : Nat → TPth × Nat) (Lv : List TEv) (f1 f2 : Nat → Nat) (Q : Prop) (z z' : Int32) (S' : im_S) : Prop :=
  RF S S' ∧ ((z' = z ∧ RI K V y q0 ar ν ρ S' nA nS nT A b vals lk M Lv f1 f2 ∧ CNt y S' nA A b ∧ muv S' nA nS = muv S nA nS ∧ (Lv.length ≤ 1000 → Q)) ∨
   (z' = 1 ∧ ∃ (nA' nS' nT' : Nat) (A' : Nat → TPth) (b' : Nat → Nat) (vals' : TPth → Nat → Option TVal) (lk' : TPth → Nat → Option TPth) (M' : Nat → TPth × Nat) (Lv' : List TEv) (f1' f2' : Nat → Nat), RI K V y q0 ar ν ρ S' nA' nS' nT' A' b' vals' lk' M' Lv' f1' f2' ∧ CNt y S' nA' A' b' ∧ nA ≤ nA' ∧ Lv'.length ≤ 1021 ∧ muv S nA nS < muv S' nA' nS'))
section SWL
variable {K pl : Nat → Nat} {V : Nat → Int64} {m fr e n' r' fu : Nat} {y : TR} {q0 : Nat} {ar : Nat → Int64} {ν ρ : Nat → Nat} {W : Nat → Int32 × Int32 × Int32}
theorem lt72 {S : im_S} {n : Nat} (h : S.1 75 72 = nI n) (hn : n ≤ 1021) : (1000 : Int32) < S.1 75 72 ↔ 1000 < n := by
  rw [h]
  exact mI_lt (a := 1000) (b := n) (by omega) (by omega)
theorem sw_L (hfu : 30000 ≤ fu) {x : Nat} : ∀ (l' : List Nat) (nf : Nat) (S : im_S) (nA nS nT : Nat) (A : Nat → TPth) (b : Nat → Nat) (vals : TPth → Nat → Option TVal) (lk : TPth → Nat → Option TPth) (M : Nat → TPth × Nat) (Lv : List TEv) (f1 f2 : Nat → Nat) (z w : Int32), z = 0 ∨ z = 1 → RX K pl V m fr y e n' r' q0 ar ν ρ W S → RI K V y q0 ar ν ρ S nA nS nT A b vals lk M Lv f1 f2 → CNt y S nA A b → Lv.length ≤ 1021 → x < nA → (∀ t, t ∈ l' → t ∈ rgL y (hdR (A x))) → SgN S w (l'.map ν) (-1) → l'.length < nf →
    ∃ z' S', f_X11_sweep_L14 fu nf (nI x) z w S = some (z', S') ∧ (z' = 0 ∨ z' = 1) ∧ WO K pl V m fr y e n' r' q0 ar ν ρ W S nA nS nT A b vals lk M Lv f1 f2 (∀ zz, zz ∈ scP y → zz.2.2 = hdR (A x) → otk zz.1 ∈ l' → vals (A x) (otk zz.1) ≠ none ∨ StN V y ar vals (A x) (lk (A x) (otk zz.1)) zz) z z' S' := by
  intro l'
  induction l' with
  | nil =>
    intro nf S nA nS nT A b vals lk M Lv f1 f2 z w hz X I hC hL hx hin hw hnf
    obtain ⟨nf, rfl⟩ : ∃ q, nf = q + 1 := ⟨nf - 1, by omega⟩
    have hw : w = -1 := hw
    refine ⟨z, S, ?_, hz, RF.rfl', .inl ⟨rfl, I, hC, rfl, fun _ zz _ _ h => absurd h List.not_mem_nil⟩⟩
    rw [f_X11_sweep_L14, if_pos hw]
    rcases hz with rfl | rfl <;> rfl
  | cons t l' ih =>
    intro nf S nA nS nT A b vals lk M Lv f1 f2 z w hz X I hC hL hx hin hw hnf
    obtain ⟨nf, rfl⟩ : ∃ q, nf = q + 1 := ⟨nf - 1, by omega⟩
    obtain ⟨hw1, hw2⟩ := hw
    have hw1 : w = nI (ν t) := hw1
    have hT := X.1
    have R := X.2.1
    have hzb : z_b z = true := by rcases hz with rfl | rfl <;> rfl
    obtain ⟨k, hk⟩ := List.getElem?_of_mem (hin t List.mem_cons_self)
    obtain ⟨zz, hzz, ht, hzr⟩ := rgL_at R.1 hk
    have hlt := lt72 I.1.2.2.2 hL
    have hνt : ν t < 1200 := by
      rw [← ht]
      exact (rs_P hT R _ hzz).2.1
    rw [f_X11_sweep_L14, hw1, if_neg (nI_m1 (show ν t < 2 ^ 31 by omega))]
    by_cases h1 : 1000 < Lv.length
    · rw [if_pos (hlt.mpr h1), hzb]
      exact ⟨z, S, rfl, hz, RF.rfl', .inl ⟨rfl, I, hC, rfl, fun q => absurd q (by omega)⟩⟩
    · have h : Lv.length ≤ 1000 := by omega
      rw [if_neg (fun q => h1 (hlt.mp q))]
      obtain ⟨u1, u2, u3, u4, u5⟩ := sl_at hT R I h hx hk
      have hb := RI_b I h
      rw [u1]
      simp only [Option.bind_some]
      rw [mI_in (a := b x + k) (n := 520000) (by omega) (by omega), nI_clamp (show b x + k < 2 ^ 31 by omega), mI_in (a := ν t) (n := 1200) (by omega) hνt, nI_clamp (show ν t < 2 ^ 31 by omega), mI_in (a := x) (n := 24000) (by omega) (by omega), nI_clamp (show x < 2 ^ 31 by omega)]
      simp only [gd_t]
      have hin' : ∀ t, t ∈ l' → t ∈ rgL y (hdR (A x)) := fun t h => hin t (List.mem_cons_of_mem _ h)
      have hnf' : l'.length < nf := Nat.lt_of_succ_lt_succ hnf
      cases hv : vals (A x) t with
      | some a =>
        rw [if_neg (fun q => by have := (sl_0 u4).mp q; rw [hv] at this; cases this)]
        obtain ⟨z', S', p1, p2, p3, p4⟩ := ih nf S nA nS nT A b vals lk M Lv f1 f2 z _ hz X I hC hL hx hin' hw2 hnf'
        refine ⟨z', S', p1, p2, p3, ?_⟩
        rcases p4 with ⟨c1, c2, c3, c4, c5⟩ | p4
        · refine .inl ⟨c1, c2, c3, c4, fun hh z2 hz2 hr2 hm2 => ?_⟩
          rcases List.mem_cons.mp hm2 with hm2 | hm2
          · left
            rw [hm2, hv]
            exact Option.some_ne_none a
          · exact c5 hh z2 hz2 hr2 hm2
        · exact .inr p4
      | none =>
        have hs0 := (sl_0 u4).mpr hv
        rw [if_pos hs0]
        obtain ⟨ans, S1, s1, s2, s3, s4, s5⟩ := st_all (fu := fu) hfu X I h hx hzz hzr (by rw [ht]; exact hk) (by rw [ht]; exact hv)
        rw [ht] at s1
        rw [s1]
        simp only [Option.bind_some]
        have X1 := RX_rf X s2
        have h108 : ∀ S2 : im_S, RF S S2 → SgN S2 (S2.1 108 (ν t)) (l'.map ν) (-1) := fun S2 hf => by
          rw [hf.1 108 (ν t) (by omega) (by omega)]
          exact SgN_cg (fun k => hf.1 108 k (by omega) (by omega)) _ _ _ hw2
        rcases s5 with ⟨a0, I1, st, s0'⟩ | ⟨a1, nA', nS', nT', A', b', vals', lk', M', Lv', f1', f2', I1, g1, g2, g3, g4, g5, g6, g7⟩
        · rw [if_pos s0', a0]
          have hz0 : z ||| 0 = z := by rcases hz with rfl | rfl <;> rfl
          rw [hz0]
          have e126 : ∀ s, s < nS → S1.1 126 s = S.1 126 s := fun s hs => by
            by_cases c : s = b x + k
            · rw [c, s0', hs0]
            · exact s4 s hs c
          have hC1 : CNt y S1 nA A b := fun x' hx' => by
            rw [s3 x' hx', hC x' hx']
            congr 1
            refine (uvc_cg (fun k' hk' => e126 _ ?_)).symm
            have := (I.2.2.1 x' hx').2.2.2.1
            omega
          obtain ⟨z', S', p1, p2, p3, p4⟩ := ih nf S1 nA nS nT A b vals lk M Lv f1 f2 z _ hz X1 I1 hC1 hL hx hin' (h108 S1 s2) hnf'
          have hmu : muv S1 nA nS = muv S nA nS := by
            unfold muv
            congr 1
            exact tot_cg _ (fun s hs => by rw [e126 s hs])
          refine ⟨z', S', p1, p2, RF.trans' s2 p3, ?_⟩
          rcases p4 with ⟨c1, c2, c3, c4, c5⟩ | ⟨c1, nA2, nS2, nT2, A2, b2, vals2, lk2, M2, Lv2, f12, f22, c2, c3, c4, c5, c6⟩
          · refine .inl ⟨c1, c2, c3, c4.trans hmu, fun hh z2 hz2 hr2 hm2 => ?_⟩
            rcases List.mem_cons.mp hm2 with hm2 | hm2
            · right
              have := (ou_P R.1).2 z2 hz2 zz hzz (hm2.trans ht.symm)
              rw [this]
              exact st
            · exact c5 hh z2 hz2 hr2 hm2
          · exact .inr ⟨c1, nA2, nS2, nT2, A2, b2, vals2, lk2, M2, Lv2, f12, f22, c2, c3, c4, c5, by omega⟩
        · have hL' : Lv'.length ≤ 1021 := by omega
          have hcn := so_cn I hC hx hk hs0 I1 s3 s4 g1 g2 g3 g4 g5
          have hA' := (g3 x hx).1
          have hz1 : z ||| 1 = 1 := by rcases hz with rfl | rfl <;> rfl
          rw [a1, hz1]
          have hin2 : ∀ t, t ∈ l' → t ∈ rgL y (hdR (A' x)) := by rw [hA']; exact hin'
          have go : ∀ S2 : im_S, RF S S2 → RI K V y q0 ar ν ρ S2 nA' nS' nT' A' b' vals' lk' M' Lv' f1' f2' → CNt y S2 nA' A' b' → muv S nA nS < muv S2 nA' nS' → ∃ z' S', f_X11_sweep_L14 fu nf (nI x) 1 (S2.1 108 (ν t)) S2 = some (z', S') ∧ (z' = 0 ∨ z' = 1) ∧ WO K pl V m fr y e n' r' q0 ar ν ρ W S nA nS nT A b vals lk M Lv f1 f2 (∀ zz, zz ∈ scP y → zz.2.2 = hdR (A x) → otk zz.1 ∈ t :: l' → vals (A x) (otk zz.1) ≠ none ∨ StN V y ar vals (A x) (lk (A x) (otk zz.1)) zz) z z' S' := by
            intro S2 hf I2 hC2 hmu
            obtain ⟨z', S', p1, p2, p3, p4⟩ := ih nf S2 nA' nS' nT' A' b' vals' lk' M' Lv' f1' f2' 1 _ (.inr rfl) (RX_rf X hf) I2 hC2 hL' (by omega) hin2 (h108 S2 hf) hnf'
            refine ⟨z', S', p1, p2, RF.trans' hf p3, .inr ?_⟩
            rcases p4 with ⟨c1, c2, c3, c4, c5⟩ | ⟨c1, nA2, nS2, nT2, A2, b2, vals2, lk2, M2, Lv2, f12, f22, c2, c3, c4, c5, c6⟩
            · exact ⟨c1, nA', nS', nT', A', b', vals', lk', M', Lv', f1', f2', c2, c3, g1, hL', by omega⟩
            · exact ⟨c1, nA2, nS2, nT2, A2, b2, vals2, lk2, M2, Lv2, f12, f22, c2, c3, by omega, c5, by omega⟩
          by_cases c0 : S1.1 126 (b x + k) = 0
          · rw [if_pos c0]
            obtain ⟨d1, d2⟩ := hcn.1 c0
            have : nA < nA' := g7.resolve_left (fun q => q c0)
            exact go S1 s2 I1 d1 (by omega)
          · rw [if_neg c0]
            obtain ⟨d1, d2⟩ := hcn.2 c0
            have hf2 : RF S1 (uI S1 123 x (S1.1 123 x - 1)) := ⟨fun a i q1 q2 => uI_ne (by omega), fun _ _ _ _ => rfl⟩
            have h108e : S1.1 108 (ν t) = (uI S1 123 x (S1.1 123 x - 1)).1 108 (ν t) := (uI_ne (by omega)).symm
            rw [h108e]
            exact go _ (RF.trans' s2 hf2) (RI_cg I1 (fun a i q1 q2 => uI_ne (by omega)) (fun _ => rfl)) d1 (by omega)
end SWL
