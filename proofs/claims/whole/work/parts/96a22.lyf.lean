/-! the reference's functions and their regions -/
section LYF
variable {K pl : Nat → Nat} {V : Nat → Int64} {m fu fr : Nat} {lo hi rlo rhi : Nat} {ν ρ : Nat → Nat}
theorem nds_ot {y : TR} {p e : Nat} (w : Wt K y p e 0) : otk y ∈ nds y := by
  refine Wt_ind (K := K) (P := fun y p e md => md = 0 → otk y ∈ nds y) ?_ ?_ ?_ ?_ ?_ ?_ ?_ ?_ ?_ ?_ ?_ ?_ ?_ ?_ ?_ (tsz y) y p e 0 (Nat.le_refl _) w rfl
  · intro p md _ _; exact List.mem_cons_self
  · intro p md _ _; exact List.mem_cons_self
  · intro p md _ _; exact List.mem_cons_self
  · intro p md _ _; exact List.mem_cons_self
  · intros; exact List.mem_append_right _ List.mem_cons_self
  · intros; exact List.mem_append_right _ (List.mem_append_right _ List.mem_cons_self)
  · intros; exact List.mem_append_right _ List.mem_cons_self
  · intros; exact List.mem_append_right _ List.mem_cons_self
  · intros; exact List.mem_append_right _ List.mem_cons_self
  · intros; exact List.mem_append_right _ (List.mem_append_right _ List.mem_cons_self)
  · intros; exact List.mem_append_right _ (List.mem_append_right _ List.mem_cons_self)
  · intros; exact List.mem_append_right _ List.mem_cons_self
  · intros; exact List.mem_append_right _ List.mem_cons_self
  · intro p x b md h1 _ _ _ h; omega
  · intro p x l b e md h1 _ _ _ _ _ _ h; omega
theorem rgs_rt {x : TR} {p e md : Nat} (w : Wt K x p e md) : ∀ g, g ∈ rgs x → ∀ t, g.2.2 = some t → t ∈ g.2.1 := by
  have hs : ∀ {y : TR} {p e : Nat}, Wt K y p e 0 → ∀ t, some (otk y) = some t → t ∈ nds y := fun {y p e} w t h => by cases h; exact nds_ot w
  refine Wt_ind (K := K) (P := fun x p e md => ∀ g, g ∈ rgs x → ∀ t, g.2.2 = some t → t ∈ g.2.1) ?_ ?_ ?_ ?_ ?_ ?_ ?_ ?_ ?_ ?_ ?_ ?_ ?_ ?_ ?_ (tsz x) x p e md (Nat.le_refl _) w
  · intro p md _ g hg; exact absurd hg List.not_mem_nil
  · intro p md _ g hg; exact absurd hg List.not_mem_nil
  · intro p md _ g hg; exact absurd hg List.not_mem_nil
  · intro p md _ g hg; exact absurd hg List.not_mem_nil
  · intro p as b md _ _ w1 ih; exact ih
  · intro p x y b e md _ w1 w2 i1 i2; exact fm_a.mpr ⟨i1, i2⟩
  · intro p x y z b c e md w1 w2 w3 i1 i2 i3; exact fm_a.mpr ⟨i1, fm_a.mpr ⟨fm_c.mpr ⟨hs w2, i2⟩, fm_c.mpr ⟨hs w3, i3⟩⟩⟩
  · intro p fs c ns g b d f e md _ _ w1 w2 w3 w4 i1 i2 i3 i4; exact fm_a.mpr ⟨i1, fm_a.mpr ⟨fm_c.mpr ⟨hs w2, i2⟩, fm_a.mpr ⟨fm_c.mpr ⟨(fun t h => by cases h), i3⟩, fm_c.mpr ⟨hs w4, i4⟩⟩⟩⟩
  · intro p x e md _ w1 ih; exact ih
  · intro p j x y e md _ w1 w2 i1 i2; exact fm_a.mpr ⟨i1, i2⟩
  · intro p j x y b md w1 w2 i1 i2; exact fm_a.mpr ⟨i1, i2⟩
  · intro p x y b e md _ _ w1 w2 i1 i2; exact fm_a.mpr ⟨i1, fm_c.mpr ⟨hs w2, i2⟩⟩
  · intro p x b md w1 ih; exact ih
  · intro p x b md hmd _ w1 ih; exact fm_a.mpr ⟨ih, fun g hg => absurd hg List.not_mem_nil⟩
  · intro p x l b e md hmd _ _ w1 w2 i1 i2; exact fm_a.mpr ⟨i1, i2⟩
theorem rgP_rt {y : TR} {p e : Nat} (w : PW K y p e) : ∀ g, g ∈ rgP y → ∀ t, g.2.2 = some t → t ∈ g.2.1 := by
  refine PW_ind (K := K) (P := fun y p e => ∀ g, g ∈ rgP y → ∀ t, g.2.2 = some t → t ∈ g.2.1) ?_ ?_ (tsz y) y p e (Nat.le_refl _) w
  · intro p cnt x b e0 _ _ _ w1 h
    exact fm_a.mpr ⟨fm_c.mpr ⟨(fun t h => by cases h; exact nds_ot w1), rgs_rt w1⟩, fun g hg => absurd hg List.not_mem_nil⟩
  · intro p cnt x r b e0 e _ _ _ w1 h _ w2 ih
    exact fm_a.mpr ⟨fm_c.mpr ⟨(fun t h => by cases h; exact nds_ot w1), rgs_rt w1⟩, ih⟩
/-- codes of a program's regions are own, and how many -/
theorem rgP_cd {y : TR} {p e : Nat} (w : PW K y p e) : (∀ g, g ∈ rgP y → 4 * p ≤ g.1 ∧ g.1 < 4 * e) ∧ ((rgP y).map Prod.fst).Nodup ∧ (rgP y).length + p ≤ e := by
  have one : ∀ (p cnt b e0 : Nat) (x : TR), Wt K x b e0 0 → p + 4 + 2 * cnt ≤ b + 1 → (∀ g, g ∈ (4 * p, nds x, some (otk x)) :: rgs x → 4 * p ≤ g.1 ∧ g.1 < 4 * (e0 + 1)) ∧ (((4 * p, nds x, some (otk x)) :: rgs x).map Prod.fst).Nodup ∧ ((4 * p, nds x, some (otk x)) :: rgs x).length + p ≤ e0 + 1 := by
    intro p cnt b e0 x w1 h
    obtain ⟨c1, c2⟩ := rg_cd w1
    have := Wt_lt w1
    have hl := (nd_S w1).2.2.2
    refine ⟨fm_c.mpr ⟨by show 4 * p ≤ 4 * p ∧ 4 * p < _; omega, fun g hg => by have := c1 g hg; omega⟩, List.nodup_cons.mpr ⟨fun hm => ?_, c2⟩, by show (rgs x).length + 1 + p ≤ _; omega⟩
    obtain ⟨g, hg, he⟩ := List.mem_map.mp hm
    have := c1 g hg
    have he : g.1 = 4 * p := he
    omega
  refine PW_ind (K := K) (P := fun y p e => (∀ g, g ∈ rgP y → 4 * p ≤ g.1 ∧ g.1 < 4 * e) ∧ ((rgP y).map Prod.fst).Nodup ∧ (rgP y).length + p ≤ e) ?_ ?_ (tsz y) y p e (Nat.le_refl _) w
  · intro p cnt x b e0 _ _ _ w1 h
    have := one p cnt b e0 x w1 h
    have e1 : rgP (.append (.tag p (.append (.tag cnt .nil) x)) .nil) = (4 * p, nds x, some (otk x)) :: rgs x := by
      show ((4 * p, nds x, some (otk x)) :: rgs x) ++ [] = _
      rw [List.append_nil]
    rw [e1]; exact this
  · intro p cnt x r b e0 e _ _ _ w1 h _ w2 ih
    obtain ⟨a1, a2, a3⟩ := one p cnt b e0 x w1 h
    have l2 := PW_lt w2
    have := Wt_lt w1
    refine ⟨fm_a.mpr ⟨fun g hg => by have := a1 g hg; omega, fun g hg => by have := ih.1 g hg; omega⟩, ?_, ?_⟩
    · show ((((4 * p, nds x, some (otk x)) :: rgs x) ++ rgP r).map Prod.fst).Nodup
      rw [List.map_append, List.nodup_append]
      refine ⟨a2, ih.2.1, fun a ha b hb => ?_⟩
      obtain ⟨g, hg, rfl⟩ := List.mem_map.mp ha
      obtain ⟨h, hh, rfl⟩ := List.mem_map.mp hb
      have := a1 g hg
      have := ih.1 h hh
      omega
    · show (((4 * p, nds x, some (otk x)) :: rgs x) ++ rgP r).length + p ≤ e
      rw [List.length_append]
      have := ih.2.2
      omega
theorem l114 {K104 : Int32 → im_S → Option (Int32 × im_S)} {k fn : Nat} (hk : k < 640) (hf : fr + fn ≤ 16) : ∀ (d i nf : Nat) (S : im_S), i + d = fn → d < nf → S.1 75 35 = nI fn → 8 * S.1 75 37 = nI fr → ∃ S' : im_S, f_X11_compile_L114 fu K104 nf (nI k) (nI i) S = K104 (nI (k + 1)) S' ∧ (∀ a j : Nat, (a ≠ 96 ∨ j < i) → S'.1 a j = S.1 a j) ∧ S'.2.1 = S.2.1 ∧ ∀ c, i ≤ c → c < fn → S'.1 96 c = if S.1 105 k = S.1 102 (fr + c) then nI k else S.1 96 c := by
  intro d
  induction d with
  | zero =>
    intro i nf S hi hnf h35 h37
    obtain ⟨nf, rfl⟩ : ∃ z, nf = z + 1 := ⟨nf - 1, by omega⟩
    refine ⟨S, ?_, fun _ _ _ => rfl, rfl, fun c h1 h2 => by omega⟩
    rw [f_X11_compile_L114, h35, if_pos ((mI_le (a := fn) (b := i) (by omega) (by omega)).mpr (by omega)), show nI k + 1 = nI (k + 1) from nI_add _ _]
  | succ d ih =>
    intro i nf S hi hnf h35 h37
    obtain ⟨nf, rfl⟩ : ∃ z, nf = z + 1 := ⟨nf - 1, by omega⟩
    obtain ⟨v, hv⟩ : ∃ v : Int32, v = if S.1 105 k = S.1 102 (fr + i) then nI k else S.1 96 i := ⟨_, rfl⟩
    obtain ⟨S1, g1, g2, g3, g4⟩ := ih (i + 1) nf (uI S 96 i v) (by omega) (by omega) (by rw [uI_ne (by omega)]; exact h35) (by rw [uI_ne (by omega)]; exact h37)
    refine ⟨S1, ?_, fun a j q => ?_, g3.trans rfl, fun c h1 h2 => ?_⟩
    · rw [f_X11_compile_L114, h35, if_neg (fun z => by have := (mI_le (a := fn) (b := i) (by omega) (by omega)).mp z; omega), h37, show nI fr + nI i = nI (fr + i) from nI_add _ _, mI_in (a := k) (n := 640) (by omega) hk, nI_clamp (show k < 2 ^ 31 by omega), mI_in (a := fr + i) (n := 16) (by omega) (by omega), nI_clamp (show fr + i < 2 ^ 31 by omega), mI_in (a := i) (n := 16) (by omega) (by omega), nI_clamp (show i < 2 ^ 31 by omega), show nI i + 1 = nI (i + 1) from nI_add _ _]
      simp only [gd_t]
      by_cases h : S.1 105 k = S.1 102 (fr + i)
      · rw [if_pos h] at hv
        rw [if_neg (fun z => z h)]
        rw [hv] at g1
        exact g1
      · rw [if_neg h] at hv
        rw [if_pos h]
        rw [hv] at g1
        exact g1
    · rw [g2 a j (by omega), uI_ne (by omega)]
    · by_cases hc : c = i
      · rw [hc, g2 96 i (Or.inr (by omega)), uI_eq, hv]
      · rw [g4 c (by omega) h2, uI_ne (by omega), uI_ne (by omega), uI_ne (by omega)]
theorem l104 {fn n : Nat} (hfu : 600 ≤ fu) (hn : n ≤ 500) (hf : fr + fn ≤ 16) {rc : Nat → Nat} : ∀ (d k nf : Nat) (S : im_S), k + d = n → d < nf → S.1 75 40 = nI n → S.1 75 35 = nI fn → 8 * S.1 75 37 = nI fr → (∀ c, c < fn → rc c < n ∧ ∀ k, k < n → (S.1 105 k = S.1 102 (fr + c) ↔ k = rc c)) → (∀ c, c < fn → rc c < k → S.1 96 c = nI (rc c)) → ∃ S' : im_S, f_X11_compile_L104 fu nf (nI k) S = some (nI fn, S') ∧ (∀ a j : Nat, a ≠ 96 → (a = 75 → j ≠ 72 ∧ j ≠ 73 ∧ j ≠ 74) → S'.1 a j = S.1 a j) ∧ S'.2.1 = S.2.1 ∧ (∀ c, c < fn → S'.1 96 c = nI (rc c)) ∧ S'.1 75 72 = 0 ∧ S'.1 75 73 = 0 ∧ S'.1 75 74 = 0 := by
  intro d
  induction d with
  | zero =>
    intro k nf S hk hnf h40 h35 h37 hu hq
    obtain ⟨nf, rfl⟩ : ∃ z, nf = z + 1 := ⟨nf - 1, by omega⟩
    refine ⟨uI (uI (uI S 75 73 0) 75 72 0) 75 74 0, ?_, fun a j q1 q2 => ?_, rfl, fun c hc => ?_, ?_, ?_, ?_⟩
    · rw [f_X11_compile_L104, h40, if_pos ((mI_le (a := n) (b := k) (by omega) (by omega)).mpr (by omega)), h35]
    · rw [uI_ne (by omega), uI_ne (by omega), uI_ne (by omega)]
    · rw [uI_ne (by omega), uI_ne (by omega), uI_ne (by omega)]
      exact hq c hc (by have := (hu c hc).1; omega)
    · rw [uI_ne (by omega), uI_eq]
    · rw [uI_ne (by omega), uI_ne (by omega), uI_eq]
    · rw [uI_eq]
  | succ d ih =>
    intro k nf S hk hnf h40 h35 h37 hu hq
    obtain ⟨nf, rfl⟩ : ∃ z, nf = z + 1 := ⟨nf - 1, by omega⟩
    obtain ⟨S1, g1, g2, g3, g4⟩ := l114 (fu := fu) (K104 := f_X11_compile_L104 fu nf) (k := k) (fn := fn) (fr := fr) (by omega) hf fn 0 fu S (by omega) (by omega) h35 h37
    obtain ⟨S2, u1, u2, u3, u4, u5⟩ := ih (k + 1) nf S1 (by omega) (by omega) (by rw [g2 75 40 (by omega)]; exact h40) (by rw [g2 75 35 (by omega)]; exact h35) (by rw [g2 75 37 (by omega)]; exact h37) (fun c hc => ⟨(hu c hc).1, fun k' hk' => by rw [g2 105 k' (by omega), g2 102 _ (by omega)]; exact (hu c hc).2 k' hk'⟩) (fun c hc hr => by
      rw [g4 c (by omega) hc]
      by_cases h : k = rc c
      · rw [if_pos (((hu c hc).2 k (by omega)).mpr h), h]
      · rw [if_neg (fun z => h (((hu c hc).2 k (by omega)).mp z))]
        exact hq c hc (by omega))
    refine ⟨S2, ?_, fun a j q1 q2 => by rw [u2 a j q1 q2, g2 a j (Or.inl q1)], u3.trans g3, u4, u5⟩
    rw [f_X11_compile_L104, h40, if_neg (fun z => by have := (mI_le (a := n) (b := k) (by omega) (by omega)).mp z; omega)]
    exact g1.trans u1
end LYF
