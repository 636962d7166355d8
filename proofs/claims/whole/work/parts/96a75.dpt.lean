/-! the class's frames: how deep they lie, who is around; roots of X; one path a region in a frame -/
noncomputable def dpF (y : TR) : TPth → Nat
  | [] => 0
  | c :: Q => @ite _ (c.1 / 4 ∈ (ftP y).map Prod.fst) (Classical.propDecidable _) 0 (@ite _ (ifr y c.1) (Classical.propDecidable _) (1 + dpF y Q) (dpF y Q))
/-- frames outward -/
noncomputable def itF (y : TR) : Nat → TPth → TPth
  | 0, F => F
  | k + 1, F => itF y k (fpt y F.tail)
section DPT
variable {K pl : Nat → Nat} {V : Nat → Int64} {y : TR} {e : Nat} {N M L : Nat → Nat} {n ρ τ : Nat} {G : im_S}
theorem Nt_inj (h : Mn N M L e) {j j' : Nat} (h1 : N j < N (j + 1)) (h2 : N j' < N (j' + 1)) (hj : j < e) (hj' : j' < e) (q : N j = N j') : j = j' := by
  rcases Nat.lt_trichotomy j j' with c | c | c
  · have := (h (j + 1) j' (by omega) (by omega)).1
    omega
  · exact c
  · have := (h (j' + 1) j (by omega) (by omega)).1
    omega
theorem Nt_lt (h : Mn N M L e) {j : Nat} (h1 : N j < N (j + 1)) (hj : j < e) : N j < N e := by
  have := (h (j + 1) e (by omega) (Nat.le_refl _)).1
  omega
theorem dp_f {c : Nat × Nat} {Q : TPth} (h : c.1 / 4 ∈ (ftP y).map Prod.fst) : dpF y (c :: Q) = 0 := if_pos h
theorem dp_y {c : Nat × Nat} {Q : TPth} (h : ¬ c.1 / 4 ∈ (ftP y).map Prod.fst) (h' : ifr y c.1) : dpF y (c :: Q) = 1 + dpF y Q := (if_neg h).trans (if_pos h')
theorem dp_n {c : Nat × Nat} {Q : TPth} (h : ¬ c.1 / 4 ∈ (ftP y).map Prod.fst) (h' : ¬ ifr y c.1) : dpF y (c :: Q) = dpF y Q := (if_neg h).trans (if_neg h')
theorem nd_nf {p : Nat} (w : PW K y p e) {z : TR × List Nat × Nat} (h : z ∈ scP y) {k : Nat} (hk : k < 4) : ¬ (4 * otk z.1 + k) / 4 ∈ (ftP y).map Prod.fst := by
  rw [show (4 * otk z.1 + k) / 4 = otk z.1 by omega]
  exact fun q => (ft_fu w).2.2 _ q z h rfl
theorem dp_len : ∀ P : TPth, dpF y P ≤ P.length := by
  intro P
  induction P with
  | nil => exact Nat.le_refl _
  | cons c Q ih =>
    show (@ite _ (c.1 / 4 ∈ (ftP y).map Prod.fst) (Classical.propDecidable _) 0 (@ite _ (ifr y c.1) (Classical.propDecidable _) (1 + dpF y Q) (dpF y Q))) ≤ Q.length + 1
    split
    · omega
    · split <;> omega
/-- the template's depth -/
theorem dp_P (C : CGd K pl V y e N M L n ρ τ G) : ∀ P, POk V y P → G.1 29 (L (hdR (fpt y P) / 4)) = nI (dpF y P) ∧ dpF y P ≤ 500 ∧ L (hdR (fpt y P) / 4) < τ := by
  have w := C.1
  have hL500 := C.2.2.2.2.2.2.1
  have hLe := C.2.2.2.2.1
  have hMn := C.2.1
  have hSI := C.2.2.2.2.2.2.2.2.1
  intro P
  induction P with
  | nil => intro h; exact absurd h id
  | cons c Q ih =>
    intro h
    have fn : ∀ {q cnt : Nat} {x : TR}, (q, cnt, x) ∈ fuP y → c.1 = 4 * q → G.1 29 (L (hdR (fpt y (c :: Q)) / 4)) = nI (dpF y (c :: Q)) ∧ dpF y (c :: Q) ≤ 500 ∧ L (hdR (fpt y (c :: Q)) / 4) < τ := fun {q cnt x} h1 h2 => by
      have hi : ifr y c.1 := by rw [h2]; exact ifr_fn w h1
      have hd0 : dpF y (c :: Q) = 0 := dp_f (by rw [h2, show 4 * q / 4 = q by omega]; exact fu_ft w h1)
      rw [fpt_y hi, hd0]
      obtain ⟨i, hi⟩ := List.getElem?_of_mem h1
      have hcf := cf_P C hi
      have hqe := (ft_fu w).2.1 q (fu_ft w h1)
      have h3 := (hMn (q + 1) e (by omega) (Nat.le_refl _)).2.2
      have h4 := hcf.2.2.2.1
      have h5 := hcf.2.2.2.2.2.1
      show G.1 29 (L (c.1 / 4)) = 0 ∧ 0 ≤ 500 ∧ L (c.1 / 4) < τ
      rw [h2, show 4 * q / 4 = q by omega]
      exact ⟨h5, by omega, by omega⟩
    cases Q with
    | nil =>
      obtain ⟨q, cnt, x, h1, h2⟩ := h
      exact fn h1 (congrArg Prod.fst h2)
    | cons c' Q =>
      rcases h.1 with ⟨as, γ, i, q, cnt, x, h1, h2, h3, h4⟩ | ⟨z, h1, h2⟩
      · exact fn (List.mem_of_getElem? h3) h4
      · have hcn := cn_P C z h1
        have hs := ((tl_P w) z h1).2.1
        have hQ := ih h.2
        have hT := (tp_P C _ h.2).1
        have hifr := fun k (hk : k < 4) => ifr_nd w h1 (k := k) hk
        have hnf := fun k (hk : k < 4) => nd_nf w h1 (k := k) hk
        have hrg := (ou_P w).1 _ h1
        obtain ⟨x, γ, r⟩ := z
        have hs : shp x := hs
        have hrg : 0 ≤ otk x ∧ otk x < e := hrg
        obtain ⟨c1, c2⟩ := c
        have inner : ∀ j, otk x = j → c1 = 4 * j → ifr y (4 * j) → c'.1 = r → L j < L (j + 1) → dpt G (Rg M r) (L j) → G.1 29 (L (hdR (fpt y ((c1, c2) :: c' :: Q)) / 4)) = nI (dpF y ((c1, c2) :: c' :: Q)) ∧ dpF y ((c1, c2) :: c' :: Q) ≤ 500 ∧ L (hdR (fpt y ((c1, c2) :: c' :: Q)) / 4) < τ := fun j hj e1 hi e2 hlj hd => by
          have hnj : ¬ 4 * j / 4 ∈ (ftP y).map Prod.fst := by
            have := hnf 0 (by omega)
            have this : ¬ (4 * otk x + 0) / 4 ∈ (ftP y).map Prod.fst := this
            rw [hj] at this
            exact this
          subst e1
          have hlt : L j < τ := by
            have := (hMn (j + 1) e (by omega) (Nat.le_refl _)).2.2
            omega
          have hdp : dpF y ((4 * j, c2) :: c' :: Q) = 1 + dpF y (c' :: Q) := dp_y (c := (4 * j, c2)) hnj hi
          rw [fpt_y (c := (4 * j, c2)) hi, hdp]
          obtain ⟨T, d, d1, d2, d3, d4⟩ := hd
          have hT : G.1 27 (Rg M c'.1) = _ := hT
          rw [e2, d2] at hT
          have hTe : T = L (hdR (fpt y (c' :: Q)) / 4) := (nI_eq (by omega) (by omega)).mp hT
          obtain ⟨d', v1, v2⟩ := SI_dp hSI (show T < τ by omega)
          have hQ1 := hQ.1
          rw [← hTe, v2] at hQ1
          have e3 : d' = dpF y (c' :: Q) := (nI_eq (by omega) (by omega)).mp hQ1
          obtain ⟨d2', u1, u2⟩ := SI_dp hSI hlt
          have e4 : G.1 29 (L j) = nI (1 + dpF y (c' :: Q)) := by
            rw [d4]
            have e5 : nI d = nI d' := by rw [← d3, v2]
            show nI (d + 1) = _
            rw [show nI (d + 1) = nI d + nI 1 from (nI_add d 1).symm, e5, nI_add, e3, Nat.add_comm]
          have e6 : d2' = 1 + dpF y (c' :: Q) := (nI_eq (by omega) (by have := hQ.2.1; omega)).mp (by rw [← u2, e4])
          show G.1 29 (L (4 * j / 4)) = _ ∧ _ ∧ L (4 * j / 4) < τ
          rw [show 4 * j / 4 = j by omega]
          exact ⟨e4, by omega, hlt⟩
        rcases hs with ⟨j, rfl⟩ | ⟨j, rfl⟩ | ⟨j, rfl⟩ | ⟨j, as, rfl⟩ | ⟨j, a, b, rfl⟩ | ⟨j, a, b, d, rfl⟩ | ⟨j, fs, d, ns, g, rfl⟩ | ⟨j, a, rfl⟩ | ⟨j, a, b, rfl⟩ | ⟨j, a, b, rfl⟩ | ⟨j, a, b, rfl⟩ | ⟨j, a, rfl⟩
        · exact absurd h2 id
        · exact absurd h2 id
        · exact absurd h2 id
        · exact absurd h2 id
        · exact absurd h2 id
        · obtain ⟨hc, -⟩ := h2
          have key : ∀ k, k < 2 → c1 = 4 * j + k → G.1 29 (L (hdR (fpt y ((c1, c2) :: c' :: Q)) / 4)) = nI (dpF y ((c1, c2) :: c' :: Q)) ∧ dpF y ((c1, c2) :: c' :: Q) ≤ 500 ∧ L (hdR (fpt y ((c1, c2) :: c' :: Q)) / 4) < τ := fun k hk e1 => by
            have hni : ¬ ifr y c1 := fun q => by
              rw [e1] at q
              rcases (hifr k (by omega)).mp q with ⟨q, -⟩ | q <;> cases q
            rw [fpt_n (c := (c1, c2)) hni, dp_n (c := (c1, c2)) (by show ¬ c1 / 4 ∈ _; rw [e1]; exact hnf k (by omega)) hni]
            exact hQ
          rcases hc with hc | hc
          · exact key 0 (by omega) hc
          · exact key 1 (by omega) hc
        · rcases h2 with ⟨hc, hrr⟩ | ⟨hc, -⟩
          · exact inner j rfl hc ((hifr 0 (by omega)).mpr (.inl ⟨rfl, rfl⟩)) hrr hcn.2.2.2.2.2.2.1 hcn.2.2.2.2.2.2.2.2.2.2.2.1
          · have key : ∀ k, k < 3 → 0 < k → c1 = 4 * j + k → G.1 29 (L (hdR (fpt y ((c1, c2) :: c' :: Q)) / 4)) = nI (dpF y ((c1, c2) :: c' :: Q)) ∧ dpF y ((c1, c2) :: c' :: Q) ≤ 500 ∧ L (hdR (fpt y ((c1, c2) :: c' :: Q)) / 4) < τ := fun k hk hk0 e1 => by
              have hni : ¬ ifr y c1 := fun q => by
                rw [e1] at q
                rcases (hifr k (by omega)).mp q with ⟨-, q⟩ | q
                · omega
                · cases q
              rw [fpt_n (c := (c1, c2)) hni, dp_n (c := (c1, c2)) (by show ¬ c1 / 4 ∈ _; rw [e1]; exact hnf k (by omega)) hni]
              exact hQ
            rcases hc with hc | hc
            · exact key 1 (by omega) (by omega) hc
            · exact key 2 (by omega) (by omega) hc
        · exact absurd h2 id
        · exact absurd h2 id
        · exact absurd h2 id
        · exact inner j rfl h2.1 ((hifr 0 (by omega)).mpr (.inr rfl)) h2.2 hcn.2.2.2.2.2.2.2.2.2.1 hcn.2.2.2.2.2.2.2.2.2.2.2.2.1
        · exact absurd h2 id
/-- the frame of what is around -/
theorem it_up {r0 : Nat} : ∀ P, upF y r0 P ≠ [] → dpF y (upF y r0 P) ≤ dpF y P ∧ itF y (dpF y P - dpF y (upF y r0 P)) (fpt y P) = fpt y (upF y r0 P) := by
  intro P
  induction P with
  | nil => intro h; exact absurd rfl h
  | cons c Q ih =>
    intro h
    by_cases h1 : c.1 = r0
    · have e1 : upF y r0 (c :: Q) = c :: Q := if_pos h1
      rw [e1, Nat.sub_self]
      exact ⟨Nat.le_refl _, rfl⟩
    · by_cases h2 : c.1 / 4 ∈ (ftP y).map Prod.fst
      · exact absurd ((if_neg h1).trans (if_pos h2)) h
      · have e1 : upF y r0 (c :: Q) = upF y r0 Q := (if_neg h1).trans (if_neg h2)
        rw [e1] at h ⊢
        obtain ⟨a, b⟩ := ih h
        by_cases h3 : ifr y c.1
        · rw [dp_y h2 h3, fpt_y h3]
          refine ⟨by omega, ?_⟩
          rw [show 1 + dpF y Q - dpF y (upF y r0 Q) = (dpF y Q - dpF y (upF y r0 Q)) + 1 by omega]
          exact b
        · rw [dp_n h2 h3, fpt_n h3]
          exact ⟨a, b⟩
end DPT
