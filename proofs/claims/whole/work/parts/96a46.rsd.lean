/-! the reference's program, node by node and region by region -/
def RSd (K pl : Nat → Nat) (V : Nat → Int64) (fr : Nat) (y : TR) (n' r' : Nat) (ν ρ : Nat → Nat) (W : Nat → Int32 × Int32 × Int32) (S : im_S) (z : TR × List Nat × Nat) : Prop :=
  RN K pl V S (75 * fr) r' ν z.1 ∧ ν (otk z.1) < 1200 ∧ IN S ν ρ z.1 ∧ BN V W fr (ftP y) ν S z
section RSD
variable {K pl : Nat → Nat} {V : Nat → Int64} {m fr e n' r' : Nat} {y : TR} {ν ρ : Nat → Nat} {W : Nat → Int32 × Int32 × Int32} {S : im_S}
theorem FA_fu {P : Nat → Nat → Nat → TR → Prop} {p e : Nat} (w : PW K y p e) : ∀ c0, FA P y c0 → ∀ i q cnt x, (fuP y)[i]? = some (q, cnt, x) → P (c0 + i) q cnt x ∧ i < tln y ∧ (ftP y)[i]? = some (q, cnt) := by
  refine PW_ind (K := K) (P := fun y p e => ∀ c0, FA P y c0 → ∀ i q cnt x, (fuP y)[i]? = some (q, cnt, x) → P (c0 + i) q cnt x ∧ i < tln y ∧ (ftP y)[i]? = some (q, cnt)) ?_ ?_ (tsz y) y p e (Nat.le_refl _) w
  · intro p cnt x b e0 _ _ _ w1 hb c0 h i q cnt' x' hi
    cases i with
    | zero =>
      cases hi
      exact ⟨h.1, Nat.zero_lt_succ _, rfl⟩
    | succ i => cases hi
  · intro p cnt x r b e0 e _ _ _ w1 hb _ w2 ih c0 h i q cnt' x' hi
    cases i with
    | zero =>
      cases hi
      exact ⟨h.1, Nat.zero_lt_succ _, rfl⟩
    | succ i =>
      obtain ⟨a, b, c⟩ := ih _ h.2 i q cnt' x' hi
      refine ⟨?_, Nat.succ_lt_succ b, c⟩
      rw [show c0 + (i + 1) = c0 + 1 + i by omega]
      exact a
theorem rs_P (T : TH K pl V m) (R : RHd K pl V m fr y e n' r' ν ρ W S) : ∀ z, z ∈ scP y → RSd K pl V fr y n' r' ν ρ W S z := by
  obtain ⟨h1, h2, h3, h4, h5, h6, h7, h8, h9, h10, h11, h12, h13, h14, h15⟩ := R
  intro z hz
  obtain ⟨q, cnt, x, a1, a2⟩ := sc_fu h1 z hz
  obtain ⟨⟨b, e0, w⟩, -, -⟩ := fu_sc h1 q cnt x a1
  obtain ⟨i, hi⟩ := List.getElem?_of_mem a1
  obtain ⟨f1, f2, -⟩ := FA_fu h1 fr h10 i q cnt x hi
  obtain ⟨g1, -, -⟩ := FA_fu h1 fr h12 i q cnt x hi
  have o := f1.2.2.2.2.2 z.1 (sbc_sbs w _ _ z a2)
  exact ⟨o.1, by omega, h14.2.2 z.1 (sc_sb h1 z hz), g1 _ z a2⟩
/-- different X, different nodes -/
theorem nu_inj (T : TH K pl V m) (R : RHd K pl V m fr y e n' r' ν ρ W S) : ∀ z, z ∈ scP y → ∀ z', z' ∈ scP y → ν (otk z.1) = ν (otk z'.1) → otk z.1 = otk z'.1 := by
  obtain ⟨h1, h2, h3, h4, h5, h6, h7, h8, h9, h10, h11, h12, h13, h14, h15⟩ := R
  intro z hz z' hz' q
  have key : ∀ z, z ∈ scP y → ∃ x b e0, Wt K x b e0 0 ∧ e0 ≤ e ∧ OKs K pl V S (75 * fr) n' (75 * fr) r' ν x ∧ z.1 ∈ sbs x := by
    intro z hz
    obtain ⟨q, cnt, x, a1, a2⟩ := sc_fu h1 z hz
    obtain ⟨i, hi⟩ := List.getElem?_of_mem a1
    have h10' : FA (fun c p cnt x => FD K pl V (75 * fr) n' (75 * fr) r' ν S c p cnt x ∧ ∃ b e0, Wt K x b e0 0 ∧ e0 ≤ e) y fr := FA_ag h1 fr (fun c q cnt x b e0 w _ _ he f => ⟨f, b, e0, w, by omega⟩) h10
    obtain ⟨⟨f1, b, e0, w, he⟩, f2, -⟩ := FA_fu h1 fr h10' i q cnt x hi
    exact ⟨x, b, e0, w, he, f1.2.2.2.2.2, sbc_sbs w _ _ z a2⟩
  obtain ⟨x, b, e0, w, he, o, hs⟩ := key z hz
  obtain ⟨x', b', e0', w', he', o', hs'⟩ := key z' hz'
  exact inj_2 T (by omega) w w' o o' (by omega) (by omega) hs hs' q
theorem rgL_eq (w : PW K y 0 e) {r : Nat} {l : List Nat} {rt : Option Nat} (h : (r, l, rt) ∈ rgP y) : rgL y r = l := by
  have hn := (rgP_cd w).2.1
  unfold rgL
  have : ∀ L : List (Nat × List Nat × Option Nat), (L.map Prod.fst).Nodup → (r, l, rt) ∈ L → L.find? (fun g => g.1 == r) = some (r, l, rt) := by
    intro L
    induction L with
    | nil => intro _ h; exact absurd h List.not_mem_nil
    | cons g L ih =>
      intro hn h
      have hn := List.nodup_cons.mp hn
      rcases List.mem_cons.mp h with h | h
      · rw [← h]
        exact List.find?_cons_of_pos (by exact beq_self_eq_true r)
      · have hne : ¬ (g.1 == r) = true := fun q => hn.1 (by rw [eq_of_beq q]; exact List.mem_map.mpr ⟨_, h, rfl⟩)
        exact (List.find?_cons_of_neg (p := fun g : Nat × List Nat × Option Nat => g.1 == r) hne).trans (ih hn.2 h)
  rw [this _ hn h]
  rfl
theorem rgL_sc (w : PW K y 0 e) {z : TR × List Nat × Nat} (hz : z ∈ scP y) : ∃ k : Nat, (rgL y z.2.2)[k]? = some (otk z.1) := by
  obtain ⟨g, h1, h2, h3⟩ := (rg_P w).1 z hz
  have : rgL y g.1 = g.2.1 := rgL_eq w (rt := g.2.2) h1
  rw [← h2, this]
  exact List.getElem?_of_mem h3
theorem rgL_no {r : Nat} (h : rgL y r ≠ []) : ∃ l rt, (r, l, rt) ∈ rgP y := by
  unfold rgL at h
  cases hh : (rgP y).find? (fun g => g.1 == r) with
  | none => rw [hh] at h; exact absurd rfl h
  | some g =>
    have h1 := List.mem_of_find?_eq_some hh
    have h2 := List.find?_some hh
    have h2 : g.1 = r := eq_of_beq h2
    refine ⟨g.2.1, g.2.2, ?_⟩
    rw [← h2]
    exact h1
theorem rgL_at (w : PW K y 0 e) {r k t : Nat} (h : (rgL y r)[k]? = some t) : ∃ z, z ∈ scP y ∧ otk z.1 = t ∧ z.2.2 = r := by
  have hne : rgL y r ≠ [] := fun q => by rw [q] at h; cases h
  obtain ⟨l, rt, h1⟩ := rgL_no hne
  rw [rgL_eq w h1] at h
  exact (rg_P w).2 t r ⟨_, h1, rfl, List.mem_of_getElem? h⟩
theorem nd_inj : ∀ l : List Nat, l.Nodup → ∀ i j t : Nat, l[i]? = some t → l[j]? = some t → i = j := by
  intro l
  induction l with
  | nil => intro _ i j t h; cases h
  | cons a l ih =>
    intro hn i j t h1 h2
    have hn := List.nodup_cons.mp hn
    cases i with
    | zero =>
      cases j with
      | zero => rfl
      | succ j =>
        cases h1
        exact absurd (List.mem_of_getElem? (show l[j]? = some a from h2)) hn.1
    | succ i =>
      cases j with
      | zero =>
        cases h2
        exact absurd (List.mem_of_getElem? (show l[i]? = some a from h1)) hn.1
      | succ j => rw [ih hn.2 i j t h1 h2]
theorem rgL_nd (R : RHd K pl V m fr y e n' r' ν ρ W S) : ∀ r k k' t : Nat, (rgL y r)[k]? = some t → (rgL y r)[k']? = some t → k = k' := by
  obtain ⟨h1, h2, h3, h4, h5, h6, h7, h8, h9, h10, h11, h12, h13, h14, h15⟩ := R
  intro r k k' t q1 q2
  have hne : rgL y r ≠ [] := fun q => by rw [q] at q1; cases q1
  obtain ⟨l, rt, g1⟩ := rgL_no hne
  rw [rgL_eq h1 g1] at q1 q2
  have hnd := (h14.2.1 _ g1).1.2.2.2.1
  exact nd_inj _ hnd k k' (ν t) (by rw [List.getElem?_map, q1]; rfl) (by rw [List.getElem?_map, q2]; rfl)
/-- a region in the reference's memory -/
theorem rg_at (R : RHd K pl V m fr y e n' r' ν ρ W S) (T : TH K pl V m) {r : Nat} {l : List Nat} {rt : Option Nat} (h : (r, l, rt) ∈ rgP y) : rgL y r = l ∧ ρ r < 640 ∧ S.1 106 (ρ r) = nI l.length ∧ S.1 105 (ρ r) = rtI ν rt ∧ SgN S (S.1 107 (ρ r)) (l.map ν) (-1) ∧ (∀ k t, l[k]? = some t → S.1 104 (ν t) = nI k ∧ S.1 103 (ν t) = nI (ρ r) ∧ ν t < 1200) := by
  have R' := R
  obtain ⟨h1, h2, h3, h4, h5, h6, h7, h8, h9, h10, h11, h12, h13, h14, h15⟩ := R
  have a := (h14.2.1 _ h)
  obtain ⟨⟨b1, b2, b3, b4, b5, b6⟩, b7⟩ := a
  rw [List.length_map] at b1
  have hl := (rgP_cd h1).2.2
  have hm := T.m_
  have hlt := mp_lt h13 h
  refine ⟨rgL_eq h1 h, by have hlt : ρ r < _ := hlt; omega, b1, b7, b2, fun k t hk => ?_⟩
  have q : (l.map ν)[k]? = some (ν t) := by rw [List.getElem?_map, hk]; rfl
  exact ⟨(b5 k _ q).2, (b5 k _ q).1, b6 _ (List.mem_of_getElem? q)⟩
theorem POk_rg (w : PW K y 0 e) {P : TPth} (h : POk V y P) : ∃ rt, (hdR P, rgL y (hdR P), rt) ∈ rgP y := by
  have fin : ∀ {r : Nat} {l : List Nat} {rt : Option Nat}, (r, l, rt) ∈ rgP y → ∃ rt, (r, rgL y r, rt) ∈ rgP y := fun {r l rt} q => ⟨rt, by rw [rgL_eq w q]; exact q⟩
  cases P with
  | nil => exact absurd h id
  | cons c Q =>
    have fn : ∀ {q cnt : Nat} {x : TR}, (q, cnt, x) ∈ fuP y → c.1 = 4 * q → ∃ rt, (hdR (c :: Q), rgL y (hdR (c :: Q)), rt) ∈ rgP y := fun {q cnt x} h1 h2 => by
      show ∃ rt, (c.1, rgL y c.1, rt) ∈ rgP y
      rw [h2]
      exact fin (fu_sc w _ _ _ h1).2.2
    cases Q with
    | nil =>
      obtain ⟨q, cnt, x, h1, h2⟩ := h
      exact fn h1 (congrArg Prod.fst h2)
    | cons c' Q =>
      rcases h.1 with ⟨as, γ, i, q, cnt, x, h1, h2, h3, h4⟩ | ⟨z, h1, h2⟩
      · exact fn (List.mem_of_getElem? h3) h4
      · have hi := in_P w z h1
        have hs := ((tl_P w) z h1).2.1
        obtain ⟨x, γ, r⟩ := z
        have hs : shp x := hs
        show ∃ rt, (c.1, rgL y c.1, rt) ∈ rgP y
        rcases hs with ⟨j, rfl⟩ | ⟨j, rfl⟩ | ⟨j, rfl⟩ | ⟨j, as, rfl⟩ | ⟨j, a, b, rfl⟩ | ⟨j, a, b, d, rfl⟩ | ⟨j, fs, d, ns, g, rfl⟩ | ⟨j, a, rfl⟩ | ⟨j, a, b, rfl⟩ | ⟨j, a, b, rfl⟩ | ⟨j, a, b, rfl⟩ | ⟨j, a, rfl⟩
        · exact absurd h2 id
        · exact absurd h2 id
        · exact absurd h2 id
        · exact absurd h2 id
        · exact absurd h2 id
        · rcases h2 with ⟨q | q, -⟩
          · rw [q]; exact fin hi.1
          · rw [q]; exact fin hi.2
        · rcases h2 with ⟨q, -⟩ | ⟨q | q, -⟩
          · rw [q]; exact fin hi.1
          · rw [q]; exact fin hi.2.1
          · rw [q]; exact fin hi.2.2
        · exact absurd h2 id
        · exact absurd h2 id
        · exact absurd h2 id
        · obtain ⟨q, -⟩ := h2
          rw [q]; exact fin hi
        · exact absurd h2 id
end RSD
