/-! what the regions cost -/
def cwR (u v : Nat) (y : TR) (r : Nat) : Nat := u * (rgL y r).length + sumL ((rgL y r).map (pcT u v (scP y)))
def cwN (u v : Nat) (y : TR) : TR → Prop
  | .tag 6 (.tag j (.append _ (.append b c))) => cwR u v y (4 * j) = cw u v b ∧ cwR u v y (4 * j + 1) = cw u v c
  | .tag 7 (.tag j (.append _ (.append c (.append ns g)))) => cwR u v y (4 * j) = cw u v c ∧ cwR u v y (4 * j + 1) = cw u v ns ∧ cwR u v y (4 * j + 2) = cw u v g
  | .tag 11 (.tag j (.append _ b)) => cwR u v y (4 * j) = cw u v b
  | _ => True
section CWR
variable {K : Nat → Nat} {V : Nat → Int64} {u v e : Nat} {y : TR}
theorem cwR_x (w : PW K y 0 e) {x : TR} {p' e' md : Nat} (wx : Wt K x p' e' md) {γ : List Nat} {r r0 : Nat} {rt : Option Nat} (hs : ∀ z, z ∈ sbc x γ r → z ∈ scP y) (hg : (r0, nds x, rt) ∈ rgP y) : cwR u v y r0 = cw u v x := by
  unfold cwR
  rw [rgL_eq w hg]
  exact cw_nd wx γ r (fun z hz => pcT_at w (hs z hz))
theorem cwR_f (w : PW K y 0 e) {q cnt : Nat} {x : TR} (h : (q, cnt, x) ∈ fuP y) : cwR u v y (4 * q) = cw u v x := by
  obtain ⟨⟨b, e0, wx⟩, h2, h3⟩ := fu_sc w q cnt x h
  exact cwR_x w wx h2 h3
theorem cwR_n (w : PW K y 0 e) {z : TR × List Nat × Nat} (hz : z ∈ scP y) : cwN u v y z.1 := by
  obtain ⟨⟨p', e', wz⟩, hs, htr⟩ := (tl_P w) z hz
  have hi := in_P w z hz
  obtain ⟨x, γ, r⟩ := z
  have hs : shp x := hs
  rcases hs with ⟨j, rfl⟩ | ⟨j, rfl⟩ | ⟨j, rfl⟩ | ⟨j, as, rfl⟩ | ⟨j, a, b, rfl⟩ | ⟨j, a, b, c, rfl⟩ | ⟨j, fs, c, ns, g, rfl⟩ | ⟨j, a, rfl⟩ | ⟨j, a, b, rfl⟩ | ⟨j, a, b, rfl⟩ | ⟨j, a, b, rfl⟩ | ⟨j, a, rfl⟩
  · trivial
  · trivial
  · trivial
  · trivial
  · trivial
  · obtain ⟨-, b1, c1, w1, w2, w3⟩ := wz
    exact ⟨cwR_x w w2 (fun z hz => htr z (mc _ (mr _ (ml _ hz)))) hi.1, cwR_x w w3 (fun z hz => htr z (mc _ (mr _ (mr _ hz)))) hi.2⟩
  · obtain ⟨-, b1, c1, d1, n1, n2, w1, w2, w3, w4⟩ := wz
    exact ⟨cwR_x w w2 (fun z hz => htr z (mc _ (mr _ (ml _ hz)))) hi.1, cwR_x w w3 (fun z hz => htr z (mc _ (mr _ (mr _ (ml _ hz))))) hi.2.1, cwR_x w w4 (fun z hz => htr z (mc _ (mr _ (mr _ (mr _ hz))))) hi.2.2⟩
  · trivial
  · trivial
  · trivial
  · obtain ⟨-, k1, k2, b1, w1, w2⟩ := wz
    exact cwR_x w w2 (fun z hz => htr z (mc _ (mr _ hz))) hi
  · trivial
theorem wb_f {p : Nat} (w : PW K y p e) : ∀ q cnt x, (q, cnt, x) ∈ fuP y → ∃ b e0, Wt K x b e0 0 ∧ 3 ≤ b ∧ e0 + 1 ≤ e := by
  refine PW_ind (K := K) (P := fun y p e => ∀ q cnt x, (q, cnt, x) ∈ fuP y → ∃ b e0, Wt K x b e0 0 ∧ 3 ≤ b ∧ e0 + 1 ≤ e) ?_ ?_ (tsz y) y p e (Nat.le_refl _) w
  · intro p cnt x b e0 _ _ _ w1 hb q cnt' x' hq
    have hq := List.mem_singleton.mp hq
    cases hq
    exact ⟨b, e0, w1, by omega, by omega⟩
  · intro p cnt x r b e0 e _ _ _ w1 hb _ w2 ih q cnt' x' hq
    have := PW_lt w2
    rcases List.mem_cons.mp hq with hq | hq
    · cases hq
      exact ⟨b, e0, w1, by omega, by omega⟩
    · exact ih q cnt' x' hq
theorem wb_z (w : PW K y 0 e) {z : TR × List Nat × Nat} (hz : z ∈ scP y) : ∃ p' e', Wt K z.1 p' e' 0 ∧ 3 ≤ p' ∧ e' + 1 ≤ e := by
  obtain ⟨q, cnt, x, h1, h2⟩ := sc_fu w z hz
  obtain ⟨b, e0, wx, b3, b4⟩ := wb_f w q cnt x h1
  obtain ⟨p', e', u1, u2, u3, -⟩ := sub_W wx z.1 (sbc_sbs wx _ _ z h2)
  exact ⟨p', e', u3, by omega, by omega⟩
/-- no region costs more than 496 -/
theorem cwR_le (w : PW K y 0 e) (he : e ≤ 500) {P : TPth} (h : POk V y P) : cwR 1 0 y (hdR P) ≤ 496 := by
  cases P with
  | nil => exact absurd h id
  | cons c Q =>
    have fn : ∀ {q cnt : Nat} {x : TR}, (q, cnt, x) ∈ fuP y → c.1 = 4 * q → cwR 1 0 y (hdR (c :: Q)) ≤ 496 := fun {q cnt x} h1 h2 => by
      show cwR 1 0 y c.1 ≤ 496
      rw [h2, cwR_f w h1]
      obtain ⟨b, e0, wx, b3, b4⟩ := wb_f w q cnt x h1
      have := cw_le wx
      omega
    cases Q with
    | nil =>
      obtain ⟨q, cnt, x, h1, h2⟩ := h
      exact fn h1 (congrArg Prod.fst h2)
    | cons c' Q =>
      rcases h.1 with ⟨as, γ, i, q, cnt, x, h1, h2, h3, h4⟩ | ⟨z, h1, h2⟩
      · exact fn (List.mem_of_getElem? h3) h4
      · have hi := cwR_n (u := 1) (v := 0) w h1
        have hs := ((tl_P w) z h1).2.1
        obtain ⟨p', e', wz, z3, z4⟩ := wb_z w h1
        obtain ⟨x, γ, r⟩ := z
        have hs : shp x := hs
        show cwR 1 0 y c.1 ≤ 496
        rcases hs with ⟨j, rfl⟩ | ⟨j, rfl⟩ | ⟨j, rfl⟩ | ⟨j, as, rfl⟩ | ⟨j, a, b, rfl⟩ | ⟨j, a, b, d, rfl⟩ | ⟨j, fs, d, ns, g, rfl⟩ | ⟨j, a, rfl⟩ | ⟨j, a, b, rfl⟩ | ⟨j, a, b, rfl⟩ | ⟨j, a, b, rfl⟩ | ⟨j, a, rfl⟩
        · exact absurd h2 id
        · exact absurd h2 id
        · exact absurd h2 id
        · exact absurd h2 id
        · exact absurd h2 id
        · obtain ⟨-, b1, c1, w1, w2, w3⟩ := wz
          have := cw_le w2; have := cw_le w3; have := Wt_lt w1; have := Wt_lt w2; have := Wt_lt w3
          rcases h2 with ⟨q | q, -⟩
          · rw [q, hi.1]; omega
          · rw [q, hi.2]; omega
        · obtain ⟨-, b1, c1, d1, n1, n2, w1, w2, w3, w4⟩ := wz
          have := cw_le w2; have := cw_le w3; have := cw_le w4; have := Wt_lt w1; have := Wt_lt w2; have := Wt_lt w3; have := Wt_lt w4
          rcases h2 with ⟨q, -⟩ | ⟨q | q, -⟩
          · rw [q, hi.1]; omega
          · rw [q, hi.2.1]; omega
          · rw [q, hi.2.2]; omega
        · exact absurd h2 id
        · exact absurd h2 id
        · exact absurd h2 id
        · obtain ⟨-, k1, k2, b1, w1, w2⟩ := wz
          have := cw_le w2; have := Wt_lt w1; have := Wt_lt w2
          obtain ⟨q, -⟩ := h2
          rw [q, show cwR 1 0 y (4 * j) = cw 1 0 b from hi]; omega
        · exact absurd h2 id
theorem rgL_le (w : PW K y 0 e) (he : e ≤ 500) {P : TPth} (h : POk V y P) : (rgL y (hdR P)).length ≤ 496 := by
  have := cwR_le w he h
  unfold cwR at this
  omega
end CWR
