/-! the reference's reading of an X is the grammar's -/
section RX
variable {K pl : Nat → Nat} {V : Nat → Int64} {m : Nat}
theorem Out_trans {D E G : im_S} {pos dep n r h b n1 r1 k1 : Nat} {res : PR} (m1 : n ≤ n1) (m2 : r ≤ r1) (p1 : pos < b) (m3 : n1 + pos ≤ n + b) (m4 : r1 + pos + 1 ≤ r + b) (kp : Kpt D E n r h) {k : Int32} (s1 : res.2 = none → k = -1 ∧ res.1 ≤ m ∧ G.1 75 3 = 1 ∧ G.1 75 4 = nI (pl res.1) ∧ Ps K V G)
    (s2 : ∀ y, res.2 = some y → ∃ ky n' r' : Nat, k = nI ky ∧ Rd K pl V m G res.1 dep n' r' h ∧ b ≤ res.1 ∧ n1 ≤ n' ∧ r1 ≤ r' ∧ n' + b ≤ n1 + res.1 ∧ r' + b ≤ r1 + res.1 ∧ Kpt E G n1 r1 h ∧ RepD K pl V G n n' r r' y 0 ky) : Out K pl V m D pos dep n r h res k G := by
  refine ⟨s1, fun y hy => ?_⟩
  obtain ⟨ky, n', r', t1, t3, t4, t5, t6, t7, t8, t9, t10⟩ := s2 y hy
  exact ⟨ky, n', r', t1, t3, by omega, by omega, by omega, by omega, by omega, Kpt_trans kp t9 m1 m2 (Nat.le_refl _), t10⟩
/-- label 6 -/
theorem r_signs (hKm : K m = 0 ∨ K m = 3) {F : KT} {R R1 : Nat → PR} {dep p0 : Nat} (hH : HH K pl V m F R R1 dep p0) (hS : HS K pl V m F R R1 dep (p0 + 1)) (fu : Nat) (hfu : 600 ≤ fu) (q least : Nat) (D : im_S) (pos n r h : Nat) (hp0 : p0 ≤ pos) (hl1 : 1 ≤ least) (hl6 : least ≤ 6) (hq : 2 * m + 3 ≤ q + 2 * pos) (H : Rd K pl V m D pos dep n r h) (B : Bd (K 1000) m pos n r h) :
    ∃ (k : Int32) (E : im_S), f_X11_readSigns F fu (nI least) D = some (k, E) ∧ Out K pl V m D pos dep n r h (pSg K R R1 q least 9 none pos) k E := by
  have hm := H.2.1
  have hpm := H.2.2.1
  obtain ⟨q, rfl⟩ : ∃ z, q = z + 1 := ⟨q - 1, by omega⟩
  generalize hres : pSg K R R1 (q + 1) least 9 none pos = res
  rw [pSg] at hres
  unfold f_X11_readSigns
  obtain ⟨k, E, f1, o1⟩ := hH q D pos n r h hp0 (by omega) H B
  rw [f1]
  generalize hra : pAh K R R1 q pos = ra at *
  obtain ⟨b, _ | x⟩ := ra
  · obtain ⟨rfl, q1, q2, q3⟩ := o1.1 rfl
    rw [pbd_none rfl] at hres
    subst hres
    exact ⟨-1, E, rfl, Out_err q1 q2 q3⟩
  · obtain ⟨kk, n1, r1, rfl, R2, p1, m1, m2, m3, m4, kp, rep⟩ := o1.2 x rfl
    rw [pbd_some rfl] at hres
    have p1 : pos < b := p1
    have R2 : Rd K pl V m E b dep n1 r1 h := R2
    have m3 : n1 + pos ≤ n + b := m3
    have m4 : r1 + pos + 1 ≤ r + b := m4
    have hbm := R2.2.2.1
    have hkk := RepD_k rep
    have B2 : Bd (K 1000) m b n1 r1 h := by unfold Bd at B ⊢; omega
    obtain ⟨k, G, s0, s1, s2⟩ := r_sloop hKm hS fu hl1 hl6 q fu 9 x kk E b n1 r1 h n r (by omega) (by omega) R2 B2 rep m2 (by omega) (by omega)
    rw [hres] at s1 s2
    refine ⟨k, G, ?_, Out_trans (k1 := 0) m1 m2 p1 m3 m4 kp s1 s2⟩
    simp only [Option.bind_some, if_pos (show nI kk ≠ -1 from nI_m1 (show kk < 2 ^ 31 by unfold Bd at B2; omega))]
    exact s0
/-- label 7 -/
theorem r_ah (hKm : K m = 0 ∨ K m = 3) {F : KT} {R R1 : Nat → PR} {dep p0 : Nat} (hW : HX K pl V m F 1 R1 dep (p0 + 1)) (hA : HA K pl V m F R R1 dep p0) (fu : Nat) (hfu : 600 ≤ fu) (q : Nat) (D : im_S) (pos n r h : Nat) (hp0 : p0 ≤ pos) (hq : m + 1 < q + pos) (H : Rd K pl V m D pos dep n r h) (B : Bd (K 1000) m pos n r h) :
    ∃ (k : Int32) (E : im_S), f_X11_readAhead F fu D = some (k, E) ∧ Out K pl V m D pos dep n r h (pAh K R R1 q pos) k E := by
  have hm := H.2.1
  have hpm := H.2.2.1
  obtain ⟨s1, s2⟩ := r_ahead hKm hW hA fu hfu q fu (-1) (-1) D pos n r h hp0 H B hq (by omega) (Or.inl rfl)
  unfold f_X11_readAhead
  generalize pAh K R R1 q pos = res at *
  obtain ⟨b, _ | x⟩ := res
  · obtain ⟨E, e1, e2, e3, e4⟩ := s1 rfl
    exact ⟨-1, E, e1, Out_err e2 e3 e4⟩
  · obtain ⟨ky, n', r', E, t0, t1, t3, t4, t5, t6, t7, t8, t9, t10⟩ := s2 x rfl
    refine ⟨nI ky, E, ?_, (fun q => by cases q), fun y hy => ?_⟩
    · rw [t1]; unfold fin; rw [if_pos rfl]
    · cases hy
      exact ⟨ky, n', r', rfl, t3, t4, t5, t6, t7, t8, Kpt_of (by unfold Bd at B; omega) t9, t10⟩
theorem uI_75 (D : im_S) (c k : Nat) (v : Int32) : (uI D 75 c v).1 75 k = if k = c then v else D.1 75 k := by
  rw [uI_at, if_pos rfl]
theorem Rd_dep {D : im_S} {pos dep n r h : Nat} (H : Rd K pl V m D pos dep n r h) (d2 : Nat) : Rd K pl V m (uI D 75 77 (nI d2)) pos d2 n r h := by
  refine Rd_of H (TkE_uI (TkE_refl D) (by omega)) H.2.2.1 ?_ ?_ ?_ ?_ ?_ ?_ (Ps_uI H.ps (Pr_o (by omega)))
  · rw [uI_75, if_neg (by decide)]; exact H.at_
  · rw [uI_75, if_pos rfl]
  · rw [uI_75, if_neg (by decide)]; exact H.nod
  · rw [uI_75, if_neg (by decide)]; exact H.row
  · rw [uI_75, if_neg (by decide)]; exact H.hld
  · rw [uI_75, if_neg (by decide)]; exact H.flt
/-- label 1 -/
theorem r_within {F : KT} {R : Nat → PR} {dep p0 : Nat} (hX : HX K pl V m F 0 R (dep + 1) p0) (fu : Nat) (D : im_S) (pos n r h : Nat) (hp0 : p0 ≤ pos) (H : Rd K pl V m D pos dep n r h) (B : Bd (K 1000) m pos n r h) :
    ∃ (k : Int32) (E : im_S), f_X11_readWithin F fu D = some (k, E) ∧ Out K pl V m D pos dep n r h (R pos) k E := by
  unfold f_X11_readWithin
  rw [H.dep_, show nI dep + 1 = nI (dep + 1) from nI_add dep 1]
  obtain ⟨k, E, f1, o1⟩ := hX _ pos n r h hp0 (Rd_dep H (dep + 1)) B
  rw [f1]
  refine ⟨k, uI E 75 77 (E.1 75 77 - 1), rfl, fun hn => ?_, fun x hx => ?_⟩
  · obtain ⟨q0, q1, q2, q3⟩ := o1.1 hn
    exact ⟨q0, q1, by rw [uI_75, if_neg (by decide)]; exact q2, by rw [uI_75, if_neg (by decide)]; exact q3.1, Ps_uI q3.2 (Pr_o (by omega))⟩
  · obtain ⟨kk, n', r', e0, R1, p1, m1, m2, m3, m4, kp, rep⟩ := o1.2 x hx
    have e77 : E.1 75 77 - 1 = nI dep := by
      rw [R1.dep_, show nI (dep + 1) = nI dep + 1 from (nI_add dep 1).symm]
      exact Int32.add_sub_cancel (nI dep) 1
    rw [e77]
    refine ⟨kk, n', r', e0, Rd_dep R1 dep, p1, m1, m2, m3, m4, ?_, ?_⟩
    · refine Kpt_uI ?_ (Or.inl (Or.inl (by decide)))
      exact Kpt_trans (Kpt_uI (Kpt_refl D n r h) (Or.inl (Or.inl (by decide)))) kp (Nat.le_refl _) (Nat.le_refl _) (Nat.le_refl _)
    · exact RepD_mono (D := E) (Kpt_ag (h := 0) (Kpt_uI (Kpt_refl E n' r' 0) (Or.inl (Or.inl (by decide))))) (Nat.le_refl _) (Nat.le_refl _) (Nat.le_refl _) (Nat.le_refl _) x 0 kk ⟨fun q => by omega, fun q => by omega⟩ rep
/-- what a label that begins with a word reads -/
def HK (K pl : Nat → Nat) (V : Nat → Int64) (m : Nat) (F : KT) (lab w : Nat) (R : Nat → PR) (dep p0 : Nat) : Prop := ∀ (D : im_S) (pos n r h : Nat), p0 ≤ pos → Rd K pl V m D pos dep n r h → Bd (K 1000) m pos n r h → K pos = w → ∃ (k : Int32) (E : im_S), F lab 0 0 D = some (k, E) ∧ Out K pl V m D pos dep n r h (R pos) k E
/-- label 0 -/
theorem r_x {F : KT} {q dep p0 : Nat} (hL : HK K pl V m F 2 4 (pLet K (pX K q dep)) dep p0) (hI : HK K pl V m F 3 6 (pIf K (pX K q dep)) dep p0) (hO : HK K pl V m F 5 9 (pLoop K (pX K q dep) q) dep p0) (hS : dep < 20 → HS K pl V m F (pX K q dep) (pX K q (dep + 1)) dep p0) (hq : 2 * m + 3 ≤ q + 2 * p0) (fu : Nat) (hd : dep ≤ 20) (D : im_S) (pos n r h : Nat) (hp0 : p0 ≤ pos) (H : Rd K pl V m D pos dep n r h) (B : Bd (K 1000) m pos n r h) :
    ∃ (k : Int32) (E : im_S), f_X11_readX F fu D = some (k, E) ∧ Out K pl V m D pos dep n r h (pX K (q + 1) dep pos) k E := by
  unfold f_X11_readX
  have lt : (nI dep < (20 : Int32)) ↔ dep < 20 := mI_lt (a := dep) (b := 20) (by omega) (by omega)
  rw [H.dep_]
  generalize hres : pX K (q + 1) dep pos = res
  rw [pX] at hres
  by_cases hd2 : 20 ≤ dep
  · rw [if_pos hd2] at hres
    rw [if_neg (fun z => by have := lt.mp z; omega), rd_refuse H]
    subst hres
    exact ⟨-1, _, rfl, Out_refuse H⟩
  rw [if_neg hd2] at hres
  rw [if_pos (lt.mpr (by omega))]
  have w1 := rd_word H 1 (by decide) (by decide)
  have w3 := rd_word H 3 (by decide) (by decide)
  have w6 := rd_word H 6 (by decide) (by decide)
  rw [show (1 : Int32) = nI 1 from rfl, w1]
  simp only [Option.bind_some]
  by_cases k4 : K pos = 4
  · rw [if_pos k4] at hres
    obtain ⟨k, E, f1, o1⟩ := hL D pos n r h hp0 H B k4
    rw [hres] at o1
    refine ⟨k, E, ?_, o1⟩
    rw [if_pos k4, if_neg (by decide), f1]
    rfl
  rw [if_neg k4] at hres
  rw [if_neg k4, if_pos rfl, show (3 : Int32) = nI 3 from rfl, w3]
  simp only [Option.bind_some]
  by_cases k6 : K pos = 6
  · rw [if_pos k6] at hres
    obtain ⟨k, E, f1, o1⟩ := hI D pos n r h hp0 H B k6
    rw [hres] at o1
    refine ⟨k, E, ?_, o1⟩
    rw [if_pos k6, if_neg (by decide), f1]
    rfl
  rw [if_neg k6] at hres
  rw [if_neg k6, if_pos rfl, show (6 : Int32) = nI 6 from rfl, w6]
  simp only [Option.bind_some]
  by_cases k9 : K pos = 9
  · rw [if_pos k9] at hres
    obtain ⟨k, E, f1, o1⟩ := hO D pos n r h hp0 H B k9
    rw [hres] at o1
    refine ⟨k, E, ?_, o1⟩
    rw [if_pos k9, if_neg (by decide), f1]
    rfl
  rw [if_neg k9] at hres
  rw [if_neg k9, if_pos rfl]
  obtain ⟨k, E, f1, o1⟩ := hS (by omega) q 1 D pos n r h hp0 (by decide) (by decide) (by omega) H B
  rw [hres] at o1
  refine ⟨k, E, ?_, o1⟩
  rw [f1]
  rfl
/-- what the labels of rc_read read, at depth d -/
def RdAll (K pl : Nat → Nat) (V : Nat → Int64) (m : Nat) (F : KT) (d : Nat) : Prop := ∀ (q dep p0 : Nat), dep ≤ 20 →
  (2 * m + 190 ≤ d + 2 * p0 + 9 * dep → 3 * m + 4 ≤ q + 3 * p0 → HX K pl V m F 0 (pX K q dep) dep p0) ∧
  (dep < 20 → 2 * m + 183 ≤ d + 2 * p0 + 9 * dep → 3 * m + 4 ≤ q + 3 * p0 → HX K pl V m F 1 (pX K q (dep + 1)) dep p0) ∧
  (2 * m + 189 ≤ d + 2 * p0 + 9 * dep → 3 * m + 1 ≤ q + 3 * p0 → HK K pl V m F 2 4 (pLet K (pX K q dep)) dep p0) ∧
  (2 * m + 189 ≤ d + 2 * p0 + 9 * dep → 3 * m + 1 ≤ q + 3 * p0 → HK K pl V m F 3 6 (pIf K (pX K q dep)) dep p0) ∧
  (2 * m + 189 ≤ d + 2 * p0 + 9 * dep → 3 * m + 1 ≤ q + 3 * p0 → ∀ q2 most, m < q2 + p0 → most ≤ 1000 → HB K pl V m F (pX K q dep) q2 dep p0 most) ∧
  (2 * m + 189 ≤ d + 2 * p0 + 9 * dep → 3 * m + 1 ≤ q + 3 * p0 → ∀ q2, m ≤ q2 + p0 → HK K pl V m F 5 9 (pLoop K (pX K q dep) q2) dep p0) ∧
  (dep < 20 → 2 * m + 189 ≤ d + 2 * p0 + 9 * dep → 3 * m + 1 ≤ q + 3 * p0 → HS K pl V m F (pX K q dep) (pX K q (dep + 1)) dep p0) ∧
  (dep < 20 → 2 * m + 188 ≤ d + 2 * p0 + 9 * dep → 3 * m + 1 ≤ q + 3 * p0 → HH K pl V m F (pX K q dep) (pX K q (dep + 1)) dep p0) ∧
  (dep < 20 → 2 * m + 187 ≤ d + 2 * p0 + 9 * dep → 3 * m + 1 ≤ q + 3 * p0 → HA K pl V m F (pX K q dep) (pX K q (dep + 1)) dep p0) ∧
  (dep < 20 → 2 * m + 186 ≤ d + 2 * p0 + 9 * dep → 3 * m + 1 ≤ q + 3 * p0 → HK K pl V m F 9 13 (pTab K (pX K q dep) (pX K q (dep + 1))) dep p0)
theorem HX_up {F : KT} {lab : Nat} {R : Nat → PR} {dep p0 p1 : Nat} (h : HX K pl V m F lab R dep p0) (hp : p0 ≤ p1) : HX K pl V m F lab R dep p1 := fun D pos n r h' hq H B => h D pos n r h' (by omega) H B
theorem rc_all (hKm : K m = 0 ∨ K m = 3) {fu : Nat} (hfu : 600 ≤ fu) : ∀ d : Nat, RdAll K pl V m (rc_read fu d) d := by
  intro d
  induction d with
  | zero =>
    intro q dep p0 hd
    refine ⟨fun c1 c2 => ?_, fun c0 c1 c2 => ?_, fun c1 c2 => ?_, fun c1 c2 => ?_, fun c1 c2 => ?_, fun c1 c2 => ?_, fun c0 c1 c2 => ?_, fun c0 c1 c2 => ?_, fun c0 c1 c2 => ?_, fun c0 c1 c2 => ?_⟩
    · intro D pos n r h hp H B; have := H.2.2.1; omega
    · intro D pos n r h hp H B; have := H.2.2.1; omega
    · intro D pos n r h hp H B; have := H.2.2.1; omega
    · intro D pos n r h hp H B; have := H.2.2.1; omega
    · intro q2 most _ _ D pos n r h hp H B; have := H.2.2.1; omega
    · intro q2 _ D pos n r h hp H B; have := H.2.2.1; omega
    · intro q2 least D pos n r h hp _ _ _ H B; have := H.2.2.1; omega
    · intro q2 D pos n r h hp _ H B; have := H.2.2.1; omega
    · intro q2 D pos n r h hp _ H B; have := H.2.2.1; omega
    · intro D pos n r h hp H B; have := H.2.2.1; omega
  | succ d ih =>
    intro q dep p0 hd
    refine ⟨fun c1 c2 => ?_, fun c0 c1 c2 => ?_, fun c1 c2 => ?_, fun c1 c2 => ?_, fun c1 c2 => ?_, fun c1 c2 => ?_, fun c0 c1 c2 => ?_, fun c0 c1 c2 => ?_, fun c0 c1 c2 => ?_, fun c0 c1 c2 => ?_⟩
    · intro D pos n r h hp H B
      have hpm := H.2.2.1
      obtain ⟨q, rfl⟩ : ∃ z, q = z + 1 := ⟨q - 1, by omega⟩
      obtain ⟨-, -, i2, i3, -, i5, i6, -⟩ := ih q dep pos hd
      exact r_x (i2 (by omega) (by omega)) (i3 (by omega) (by omega)) (i5 (by omega) (by omega) q (by omega)) (fun z => i6 z (by omega) (by omega)) (by omega) fu hd D pos n r h (Nat.le_refl _) H B
    · intro D pos n r h hp H B
      obtain ⟨i0, -⟩ := ih q (dep + 1) pos (by omega)
      exact r_within (i0 (by omega) (by omega)) fu D pos n r h (Nat.le_refl _) H B
    · intro D pos n r h hp H B hk
      obtain ⟨i0, -⟩ := ih q dep (pos + 1) hd
      exact r_let hKm (i0 (by omega) (by omega)) H B hk fu
    · intro D pos n r h hp H B hk
      obtain ⟨i0, -⟩ := ih q dep (pos + 1) hd
      exact r_if hKm (i0 (by omega) (by omega)) H B hk fu
    · intro q2 most hq2 hmost D pos n r h hp H B
      have hm := H.2.1
      obtain ⟨i0, -⟩ := ih q dep (pos + 2) hd
      obtain ⟨k, E, e1, e2, e3, e4⟩ := r_binds hKm (p0 := pos) (i0 (by omega) (by omega)) hmost fu q2 fu 0 D pos n r h (by omega) H B (by omega) (by omega) (by omega)
      exact ⟨k, E, e1, e2, fun f hf => by have := e3 f hf; rw [this, Nat.zero_add], e4⟩
    · intro q2 hq2 D pos n r h hp H B hk
      obtain ⟨i0, -, -, -, i4, -⟩ := ih q dep (pos + 1) hd
      exact r_loop hKm (i0 (by omega) (by omega)) (i4 (by omega) (by omega) q2 4 (by omega) (by omega)) (i4 (by omega) (by omega) q2 1000 (by omega) (by omega)) H B hk fu hfu
    · intro q2 least D pos n r h hp hl1 hl6 hq2 H B
      obtain ⟨-, -, -, -, -, -, -, i7, -⟩ := ih q dep pos hd
      obtain ⟨-, -, -, -, -, -, i6, -⟩ := ih q dep (pos + 1) hd
      exact r_signs hKm (i7 c0 (by omega) (by omega)) (i6 c0 (by omega) (by omega)) fu hfu q2 least D pos n r h (Nat.le_refl _) hl1 hl6 hq2 H B
    · intro q2 D pos n r h hp hq2 H B
      obtain ⟨-, -, -, -, -, -, -, -, i8, -⟩ := ih q dep pos hd
      obtain ⟨-, i1, -⟩ := ih q dep (pos + 1) hd
      exact r_ah hKm (i1 c0 (by omega) (by omega)) (i8 c0 (by omega) (by omega)) fu hfu q2 D pos n r h (Nat.le_refl _) hq2 H B
    · intro q2 D pos n r h hp hq2 H B
      obtain ⟨-, -, -, -, -, -, -, -, -, i9⟩ := ih q dep pos hd
      obtain ⟨-, i1, -⟩ := ih q dep (pos + 1) hd
      exact r_atom hKm (i1 c0 (by omega) (by omega)) (fun z => i9 c0 (by omega) (by omega) D pos n r h (Nat.le_refl _) H B z) H B fu hfu hq2
    · intro D pos n r h hp H B hk
      obtain ⟨i0, -⟩ := ih q dep (pos + 3) hd
      obtain ⟨-, i1, -⟩ := ih q dep (pos + 1) hd
      exact r_tab hKm (i0 (by omega) (by omega)) (i1 c0 (by omega) (by omega)) H B hk fu
end RX
