/-! the class's frames and paths -/
def tbK : TR → Bool
  | .tag 11 _ => true
  | _ => false
def tbP (y : TR) : List Nat := ((scP y).filter (fun z => tbK z.1)).map (fun z => otk z.1)
/-- regions that have frames of their own: functions, rounds, cells -/
def ifr (y : TR) (r : Nat) : Prop := r / 4 ∈ (ftP y).map Prod.fst ∨ (r / 4 ∈ lpP y ∧ r % 4 = 0) ∨ r / 4 ∈ tbP y
/-- the path of the frame in which a path lies -/
noncomputable def fpt (y : TR) : TPth → TPth
  | [] => []
  | c :: Q => @ite _ (ifr y c.1) (Classical.propDecidable _) (c :: Q) (fpt y Q)
/-- what has no frame has number 0 -/
def Z0 (y : TR) (P : TPth) : Prop := ∀ c, c ∈ P → ¬ ifr y c.1 → c.2 = 0
section FPT
variable {K pl : Nat → Nat} {V : Nat → Int64} {y : TR} {e : Nat}
theorem fpt_y {c : Nat × Nat} {Q : TPth} (h : ifr y c.1) : fpt y (c :: Q) = c :: Q := if_pos h
theorem fpt_n {c : Nat × Nat} {Q : TPth} (h : ¬ ifr y c.1) : fpt y (c :: Q) = fpt y Q := if_neg h
theorem tb_in {z : TR × List Nat × Nat} (h : z ∈ scP y) (hk : tbK z.1 = true) : otk z.1 ∈ tbP y := List.mem_map.mpr ⟨z, List.mem_filter.mpr ⟨h, hk⟩, rfl⟩
theorem tb_no {p e : Nat} (w : PW K y p e) {z : TR × List Nat × Nat} (h : z ∈ scP y) (hk : tbK z.1 = false) : ¬ otk z.1 ∈ tbP y := fun q => by
  obtain ⟨z', h1, h2⟩ := List.mem_map.mp q
  obtain ⟨h1, h3⟩ := List.mem_filter.mp h1
  have := (ou_P w).2 z' h1 z h h2
  rw [this] at h3
  rw [hk] at h3
  cases h3
theorem ifr_fn {p : Nat} (w : PW K y p e) {q cnt : Nat} {x : TR} (h : (q, cnt, x) ∈ fuP y) : ifr y (4 * q) := by
  refine .inl ?_
  rw [show 4 * q / 4 = q by omega]
  exact fu_ft w h
theorem ifr_nd {p : Nat} (w : PW K y p e) {z : TR × List Nat × Nat} (h : z ∈ scP y) {k : Nat} (hk : k < 4) : ifr y (4 * otk z.1 + k) ↔ (lpK z.1 = true ∧ k = 0) ∨ tbK z.1 = true := by
  unfold ifr
  rw [show (4 * otk z.1 + k) / 4 = otk z.1 by omega, show (4 * otk z.1 + k) % 4 = k by omega]
  refine ⟨fun q => ?_, fun q => ?_⟩
  · rcases q with q | ⟨q, q'⟩ | q
    · exact absurd rfl ((ft_fu w).2.2 _ q z h)
    · left
      refine ⟨?_, q'⟩
      cases hl : lpK z.1 with
      | true => rfl
      | false => exact absurd q (lp_no w h hl)
    · right
      cases hl : tbK z.1 with
      | true => rfl
      | false => exact absurd q (tb_no w h hl)
  · rcases q with ⟨q, q'⟩ | q
    · exact .inr (.inl ⟨lp_in h q, q'⟩)
    · exact .inr (.inr (tb_in h q))
/-- the class's node by node -/
theorem cn_P {N M L : Nat → Nat} {n ρ τ : Nat} {G : im_S} (C : CGd K pl V y e N M L n ρ τ G) : ∀ z, z ∈ scP y → CN K pl V G N M L z.1 z.2.1 (Rg M z.2.2) := by
  intro z hz
  have w := C.1
  obtain ⟨q, cnt, x, h1, h2⟩ := sc_fu w z hz
  obtain ⟨i, hi⟩ := List.getElem?_of_mem h1
  have hF := C.2.2.2.2.2.2.2.2.2.2.2.2.2.1
  obtain ⟨f1, -, -⟩ := FA_fu w 0 hF i q cnt x hi
  exact f1.2.2.2.2.2.2.2.2.2.2.2 z h2
theorem cf_P {N M L : Nat → Nat} {n ρ τ : Nat} {G : im_S} (C : CGd K pl V y e N M L n ρ τ G) {i q cnt : Nat} {x : TR} (hi : (fuP y)[i]? = some (q, cnt, x)) : CFn K pl V N M L G i q cnt x := by
  have hF := C.2.2.2.2.2.2.2.2.2.2.2.2.2.1
  obtain ⟨f1, -, -⟩ := FA_fu C.1 0 hF i q cnt x hi
  rw [Nat.zero_add] at f1
  exact f1
/-- the template of a path, by the frame in which it lies -/
theorem tp_P {N M L : Nat → Nat} {n ρ τ : Nat} {G : im_S} (C : CGd K pl V y e N M L n ρ τ G) : ∀ P, POk V y P → G.1 27 (Rg M (hdR P)) = nI (L (hdR (fpt y P) / 4)) ∧ POk V y (fpt y P) ∧ ifr y (hdR (fpt y P)) := by
  have w := C.1
  intro P
  induction P with
  | nil => intro h; exact absurd h id
  | cons c Q ih =>
    intro h
    have fn : ∀ {q cnt : Nat} {x : TR}, (q, cnt, x) ∈ fuP y → c.1 = 4 * q → G.1 27 (Rg M (hdR (c :: Q))) = nI (L (hdR (fpt y (c :: Q)) / 4)) ∧ POk V y (fpt y (c :: Q)) ∧ ifr y (hdR (fpt y (c :: Q))) := fun {q cnt x} h1 h2 => by
      have hi : ifr y c.1 := by rw [h2]; exact ifr_fn w h1
      rw [fpt_y hi]
      refine ⟨?_, h, hi⟩
      obtain ⟨i, hi⟩ := List.getElem?_of_mem h1
      have := (cf_P C hi).2.2.2.2.1
      show G.1 27 (Rg M c.1) = nI (L (c.1 / 4))
      rw [h2]
      unfold Rg
      rw [show 4 * q / 4 = q by omega, show 4 * q % 4 = 0 by omega]
      exact this
    cases Q with
    | nil =>
      obtain ⟨q, cnt, x, h1, h2⟩ := h
      exact fn h1 (congrArg Prod.fst h2)
    | cons c' Q =>
      rcases h.1 with ⟨as, γ, i, q, cnt, x, h1, h2, h3, h4⟩ | ⟨z, h1, h2⟩
      · exact fn (List.mem_of_getElem? h3) h4
      · have hcn := cn_P C z h1
        have hs := ((tl_P w) z h1).2.1
        have hQ := ih h.2
        have hifr := fun k (hk : k < 4) => ifr_nd w h1 (k := k) hk
        obtain ⟨x, γ, r⟩ := z
        have hs : shp x := hs
        obtain ⟨c1, c2⟩ := c
        rcases hs with ⟨j, rfl⟩ | ⟨j, rfl⟩ | ⟨j, rfl⟩ | ⟨j, as, rfl⟩ | ⟨j, a, b, rfl⟩ | ⟨j, a, b, d, rfl⟩ | ⟨j, fs, d, ns, g, rfl⟩ | ⟨j, a, rfl⟩ | ⟨j, a, b, rfl⟩ | ⟨j, a, b, rfl⟩ | ⟨j, a, b, rfl⟩ | ⟨j, a, rfl⟩
        · exact absurd h2 id
        · exact absurd h2 id
        · exact absurd h2 id
        · exact absurd h2 id
        · exact absurd h2 id
        · obtain ⟨hc, hrr⟩ := h2
          have hrr : c'.1 = r := hrr
          obtain ⟨-, -, -, -, -, m1, m2, -⟩ := hcn
          have key : ∀ k, k < 2 → c1 = 4 * j + k → G.1 27 (M j + k) = G.1 27 (Rg M r) → G.1 27 (Rg M (hdR ((c1, c2) :: c' :: Q))) = nI (L (hdR (fpt y ((c1, c2) :: c' :: Q)) / 4)) ∧ POk V y (fpt y ((c1, c2) :: c' :: Q)) ∧ ifr y (hdR (fpt y ((c1, c2) :: c' :: Q))) := fun k hk e1 e2 => by
            have hni : ¬ ifr y c1 := fun q => by
              rw [e1] at q
              rcases (hifr k (by omega)).mp q with ⟨q, -⟩ | q <;> cases q
            rw [fpt_n (c := (c1, c2)) hni]
            refine ⟨?_, hQ.2⟩
            show G.1 27 (Rg M c1) = _
            have : Rg M c1 = M j + k := by
              unfold Rg
              rw [e1, show (4 * j + k) / 4 = j by omega, show (4 * j + k) % 4 = k by omega]
            rw [this, e2, ← hrr]
            exact hQ.1
          rcases hc with hc | hc
          · exact key 0 (by omega) hc m1
          · exact key 1 (by omega) hc m2
        · obtain ⟨-, -, -, -, -, -, -, -, m1, m2, m3, -⟩ := hcn
          rcases h2 with ⟨hc, hrr⟩ | ⟨hc, hrr⟩
          · have hi : ifr y c1 := by
              have hc : c1 = 4 * j := hc
              rw [hc]
              exact (hifr 0 (by omega)).mpr (.inl ⟨rfl, rfl⟩)
            rw [fpt_y (c := (c1, c2)) hi]
            refine ⟨?_, h, hi⟩
            show G.1 27 (Rg M c1) = nI (L (c1 / 4))
            have hc : c1 = 4 * j := hc
            unfold Rg
            rw [hc, show 4 * j / 4 = j by omega, show 4 * j % 4 = 0 by omega]
            exact m1
          · have hrr : c'.1 = 4 * j := hrr
            have hi' : ifr y c'.1 := by
              rw [hrr]
              exact (hifr 0 (by omega)).mpr (.inl ⟨rfl, rfl⟩)
            have key : ∀ k, k < 3 → 0 < k → c1 = 4 * j + k → G.1 27 (M j + k) = nI (L j) → G.1 27 (Rg M (hdR ((c1, c2) :: c' :: Q))) = nI (L (hdR (fpt y ((c1, c2) :: c' :: Q)) / 4)) ∧ POk V y (fpt y ((c1, c2) :: c' :: Q)) ∧ ifr y (hdR (fpt y ((c1, c2) :: c' :: Q))) := fun k hk hk0 e1 e2 => by
              have hni : ¬ ifr y c1 := fun q => by
                rw [e1] at q
                rcases (hifr k (by omega)).mp q with ⟨-, q⟩ | q
                · omega
                · cases q
              rw [fpt_n (c := (c1, c2)) hni]
              refine ⟨?_, hQ.2⟩
              rw [fpt_y hi']
              show G.1 27 (Rg M c1) = nI (L (c'.1 / 4))
              have : Rg M c1 = M j + k := by
                unfold Rg
                rw [e1, show (4 * j + k) / 4 = j by omega, show (4 * j + k) % 4 = k by omega]
              rw [this, e2, hrr, show 4 * j / 4 = j by omega]
            rcases hc with hc | hc
            · exact key 1 (by omega) (by omega) hc m2
            · exact key 2 (by omega) (by omega) hc m3
        · exact absurd h2 id
        · exact absurd h2 id
        · exact absurd h2 id
        · obtain ⟨hc, hrr⟩ := h2
          have hc : c1 = 4 * j := hc
          have hi : ifr y c1 := by
            rw [hc]
            exact (hifr 0 (by omega)).mpr (.inr rfl)
          rw [fpt_y (c := (c1, c2)) hi]
          refine ⟨?_, h, hi⟩
          show G.1 27 (Rg M c1) = nI (L (c1 / 4))
          unfold Rg
          rw [hc, show 4 * j / 4 = j by omega, show 4 * j % 4 = 0 by omega]
          exact hcn.2.2.2.2.2.2.2.2.2.2.2.1
        · exact absurd h2 id
end FPT
