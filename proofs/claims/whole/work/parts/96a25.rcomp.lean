/-! the reference compiles: its regions; compile as a whole -/
section RCM
variable {K pl : Nat → Nat} {V : Nat → Int64} {m fu fr : Nat} {lo hi rlo rhi : Nat} {ν ρ : Nat → Nat}
theorem sbP_fun {P : Nat → Nat → Nat → TR → Prop} {y : TR} {p e : Nat} (w : PW K y p e) : ∀ c0 : Nat, FA P y c0 → ∀ a, a ∈ sbP y → ∃ c q cnt x b e0, P c q cnt x ∧ Wt K x b e0 0 ∧ e0 + 1 ≤ e ∧ a ∈ sbs x := by
  refine PW_ind (K := K) (P := fun y p e => ∀ c0 : Nat, FA P y c0 → ∀ a, a ∈ sbP y → ∃ c q cnt x b e0, P c q cnt x ∧ Wt K x b e0 0 ∧ e0 + 1 ≤ e ∧ a ∈ sbs x) ?_ ?_ (tsz y) y p e (Nat.le_refl _) w
  · intro p cnt x b e0 _ _ _ w1 _ c0 hf a ha
    have ha : a ∈ sbs x ++ [] := ha
    rw [List.append_nil] at ha
    exact ⟨c0, p, cnt, x, b, e0, hf.1, w1, Nat.le_refl _, ha⟩
  · intro p cnt x r b e0 e _ _ _ w1 _ _ w2 ih c0 hf a ha
    have ha : a ∈ sbs x ++ sbP r := ha
    have l2 := PW_lt w2
    rcases List.mem_append.mp ha with ha | ha
    · exact ⟨c0, p, cnt, x, b, e0, hf.1, w1, by omega, ha⟩
    · exact ih (c0 + 1) hf.2 a ha
theorem FA_at {P : Nat → Nat → Nat → TR → Prop} {y : TR} {p e : Nat} (w : PW K y p e) : ∀ c0 c : Nat, FA P y c0 → c < (ftP y).length → ∃ q cnt x, (ftP y)[c]? = some (q, cnt) ∧ P (c0 + c) q cnt x ∧ (4 * q, nds x, some (otk x)) ∈ rgP y ∧ ∃ b e0, Wt K x b e0 0 := by
  refine PW_ind (K := K) (P := fun y p e => ∀ c0 c : Nat, FA P y c0 → c < (ftP y).length → ∃ q cnt x, (ftP y)[c]? = some (q, cnt) ∧ P (c0 + c) q cnt x ∧ (4 * q, nds x, some (otk x)) ∈ rgP y ∧ ∃ b e0, Wt K x b e0 0) ?_ ?_ (tsz y) y p e (Nat.le_refl _) w
  · intro p cnt x b e0 _ _ _ w1 _ c0 c hf hc
    have hc : c < 0 + 1 := hc
    obtain rfl : c = 0 := by omega
    exact ⟨p, cnt, x, rfl, hf.1, List.mem_append_left _ List.mem_cons_self, b, e0, w1⟩
  · intro p cnt x r b e0 e _ _ _ w1 _ _ w2 ih c0 c hf hc
    have hc : c < (ftP r).length + 1 := hc
    cases c with
    | zero => exact ⟨p, cnt, x, rfl, hf.1, List.mem_append_left _ List.mem_cons_self, b, e0, w1⟩
    | succ c =>
      obtain ⟨q, cnt', x', h1, h2, h3, h4⟩ := ih (c0 + 1) c hf.2 (by omega)
      exact ⟨q, cnt', x', h1, by rw [show c0 + (c + 1) = c0 + 1 + c by omega]; exact h2, List.mem_append_right _ h3, h4⟩
/-- the state in which the regions are laid -/
def lyS (S : im_S) : im_S := uI (uI (uI (uI (uI S 75 2 0) 75 0 0) 75 37 (1 - (S.1 75 37))) 75 35 (S.1 75 36)) 75 40 0
theorem lyS_z {S : im_S} {a j : Nat} (h : a ≠ 75 ∨ (j ≠ 2 ∧ j ≠ 0 ∧ j ≠ 37 ∧ j ≠ 35 ∧ j ≠ 40)) : (lyS S).1 a j = S.1 a j := by
  unfold lyS
  rw [uI_ne (by omega), uI_ne (by omega), uI_ne (by omega), uI_ne (by omega), uI_ne (by omega)]
theorem mpR_at {rg : List (Nat × List Nat × Option Nat)} (h : mpR ρ rg 0) {k : Nat} (hk : k < rg.length) : ∃ g, g ∈ rg ∧ ρ g.1 = k := by
  have : k ∈ List.range' 0 rg.length := by rw [List.mem_range']; exact ⟨k, hk, by omega⟩
  rw [← h] at this
  obtain ⟨g, h1, h2⟩ := List.mem_map.mp this
  exact ⟨g, h1, h2⟩
theorem r_lay (T : TH K pl V m) (hfu : 600 ≤ fu) {y : TR} {e f : Nat} (w : PW K y 0 e) (he : e ≤ m) (hhi : hi ≤ 1200) (hrh : rhi ≤ 1200) {S : im_S} (H : Lk0 V fr (ftP y) S f) (hl : (ftP y).length = tln y) (hF : FA (FD K pl V lo hi rlo rhi ν S) y fr) :
    ∃ (ρ : Nat → Nat) (S' : im_S), f_X11_compile_L69 fu fu 0 (lyS S) = some (nI (ftP y).length, S') ∧ mpR ρ (rgP y) 0 ∧ PLy S' ν ρ (rgP y) (sbP y) ∧ FrL (lyS S) S' ∧ (∀ c, c < (ftP y).length → S'.1 96 c = nI (ρ (4 * ((ftP y).getD c (0, 0)).1))) ∧ S'.1 75 72 = 0 ∧ S'.1 75 73 = 0 ∧ S'.1 75 74 = 0 := by
  have hm := T.m_
  have h16 := H.2.2.2.2.2.1
  obtain ⟨cd1, cd2, cd3⟩ := rgP_cd w
  obtain ⟨ρ, hρ⟩ := mpR_ex (rgP y) 0 cd2
  have hj : ∀ a, a ∈ sbP y → ∀ b, b ∈ sbP y → ν (otk a) = ν (otk b) → otk a = otk b := by
    intro a ha b hb hab
    obtain ⟨_, _, _, x, p1, e1, f1, w1, k1, m1⟩ := sbP_fun w fr hF a ha
    obtain ⟨_, _, _, x', p2, e2, f2, w2, k2, m2⟩ := sbP_fun w fr hF b hb
    exact inj_2 T hhi w1 w2 f1.2.2.2.2.2 f2.2.2.2.2.2 (by omega) (by omega) m1 m2 hab
  have e35 : (lyS S).1 75 35 = nI (ftP y).length := by
    unfold lyS
    rw [uI_ne (by omega), uI_eq]
    exact H.2.2.2.1
  have e37 : 8 * (lyS S).1 75 37 = nI fr := by
    unfold lyS
    rw [uI_ne (by omega), uI_ne (by omega), uI_eq]
    exact H.2.2.2.2.1
  have e40 : (lyS S).1 75 40 = nI 0 := by unfold lyS; rw [uI_eq]; rfl
  obtain ⟨S2, u1, u2, u3⟩ := lyP (ρ := ρ) hfu hhi hrh w (by omega) (lyS S) [] [] 0 (ftP y).length fu ⟨e40, fun g hg => absurd hg List.not_mem_nil, fun z hz => absurd hz List.not_mem_nil⟩ hρ (show (rgP y).length ≤ 640 by omega) (fun g hg => absurd hg List.not_mem_nil) (fun a ha => absurd ha List.not_mem_nil) hj (FA_mp (fun c p cnt x q => ⟨by rw [lyS_z (by omega)]; exact q.2.2.2.2.1, fun z hz => ⟨RN_ag (fun a i v1 v2 => lyS_z (by omega)) rfl (q.2.2.2.2.2 z hz).1, (q.2.2.2.2.2 z hz).2⟩⟩) (tsz y) y fr (Nat.le_refl _) hF) e35 e37 h16 (by omega) (by omega)
  have u2 : PLy S2 ν ρ (rgP y) (sbP y) := u2
  have z35 : S2.1 75 35 = nI (ftP y).length := by rw [u3.1 75 35 (by omega) (by omega) (by omega)]; exact e35
  have z37 : 8 * S2.1 75 37 = nI fr := by rw [u3.1 75 37 (by omega) (by omega) (by omega)]; exact e37
  have hrc : ∀ c, c < (ftP y).length → ρ (4 * ((ftP y).getD c (0, 0)).1) < (rgP y).length ∧ ∀ k, k < (rgP y).length → (S2.1 105 k = S2.1 102 (fr + c) ↔ k = ρ (4 * ((ftP y).getD c (0, 0)).1)) := by
    intro c hc
    obtain ⟨q, cnt, x, h1, h2, h3, b, e0, w1⟩ := FA_at w fr c hF hc
    have hg : ((ftP y).getD c (0, 0)).1 = q := by rw [List.getD_eq_getElem?_getD, h1]; rfl
    rw [hg]
    have hb := mpR_in hρ _ h3
    have hb : 0 ≤ ρ (4 * q) ∧ ρ (4 * q) < 0 + (rgP y).length := hb
    obtain ⟨r1, r2⟩ := u2.2.1 _ h3
    have r1 : RgL S2 (ρ (4 * q)) ((nds x).map ν) := r1
    have r2 : S2.1 105 (ρ (4 * q)) = nI (ν (otk x)) := r2
    have h102 : S2.1 102 (fr + c) = nI (ν (otk x)) := by rw [u3.1 102 _ (by omega) (by omega) (by omega), lyS_z (by omega)]; exact h2.2.2.2.2.1
    have hmem : ν (otk x) ∈ (nds x).map ν := List.mem_map.mpr ⟨_, nds_ot w1, rfl⟩
    have hlt := r1.2.2.2.2.2 _ hmem
    refine ⟨by omega, fun k hk => ⟨fun hkk => ?_, fun hkk => by rw [hkk, r2, h102]⟩⟩
    obtain ⟨g, g1, g2⟩ := mpR_at hρ hk
    obtain ⟨s1, s2⟩ := u2.2.1 g g1
    have hgb := mpR_in hρ g g1
    rw [g2] at s1 s2
    rw [hkk, h102] at s2
    rcases hg2 : g.2.2 with _ | t
    · rw [hg2] at s2
      have s2 : nI (ν (otk x)) = -1 := s2
      exact absurd s2 (nI_m1 (by omega))
    · rw [hg2] at s2
      have s2 : nI (ν (otk x)) = nI (ν t) := s2
      have ht : ν t ∈ g.2.1.map ν := List.mem_map.mpr ⟨t, rgP_rt w g g1 t hg2, rfl⟩
      have htl := s1.2.2.2.2.2 _ ht
      have hν : ν (otk x) = ν t := (nI_eq (by omega) (by omega)).mp s2
      by_cases hkq : k = ρ (4 * q)
      · exact hkq
      · exact absurd (by rw [← hν]; exact hmem) (RgL_dj s1 r1 hkq (by omega) (by omega) (ν t) ht)
  obtain ⟨S3, v1, v2, v3, v4, v5, v6, v7⟩ := l104 (fr := fr) hfu (show (rgP y).length ≤ 500 by omega) h16 (rc := fun c => ρ (4 * ((ftP y).getD c (0, 0)).1)) (rgP y).length 0 fu S2 (by omega) (by omega) u2.1 z35 z37 hrc (fun c _ h => absurd h (by omega))
  refine ⟨ρ, S3, u1.trans v1, hρ, ⟨?_, fun g hg => ?_, fun z hz => ?_⟩, FrL_trans u3 ⟨fun a i q1 q2 q3 => v2 a i q1 (fun q => by have := q3 q; omega), v3⟩, v4, v5, v6, v7⟩
  · rw [v2 75 40 (by omega) (by omega)]; exact u2.1
  · obtain ⟨r1, r2⟩ := u2.2.1 g hg
    exact ⟨RgL_cp r1 (v2 106 _ (by omega) (by omega)) (v2 107 _ (by omega) (by omega)) (v2 109 _ (by omega) (by omega)) (fun k _ => ⟨v2 103 _ (by omega) (by omega), v2 104 _ (by omega) (by omega), v2 108 _ (by omega) (by omega)⟩), by rw [v2 105 _ (by omega) (by omega)]; exact r2⟩
  · exact IN_cp (fun a q1 q2 => v2 a _ (by omega) (by omega)) (u2.2.2 z hz)
/-- what reading and looking leave as it was, whatever the text -/
def kc (a j : Nat) : Prop := (a = 75 → j ≠ 3 ∧ j ≠ 4 ∧ j ≠ 5 ∧ j ≠ 10 ∧ j ≠ 26 ∧ j ≠ 27 ∧ j ≠ 36 ∧ j ≠ 52 ∧ j ≠ 77 ∧ j ≠ 78) ∧ ¬ (77 ≤ a ∧ a ≤ 95) ∧ ¬ (97 ≤ a ∧ a ≤ 102) ∧ ¬ (113 ≤ a ∧ a ≤ 119) ∧ a ≠ 132 ∧ a ≠ 133
theorem kc_tk {a j : Nat} (h : kc a j) : kq_tk a j = true := by
  cases hf : kq_tk a j with
  | true => rfl
  | false =>
  exfalso
  unfold kc at h
  simp only [kq_tk, Bool.not_eq_false', Bool.or_eq_true, Bool.and_eq_true, Nat.beq_eq, Bool.false_eq_true, or_false] at hf
  omega
theorem kc_rd {a j : Nat} (h : kc a j) : kq_rd a j = true := by
  cases hf : kq_rd a j with
  | true => rfl
  | false =>
  exfalso
  unfold kc at h
  simp only [kq_rd, Bool.not_eq_false', Bool.or_eq_true, Bool.and_eq_true, Nat.beq_eq, Bool.false_eq_true, or_false] at hf
  omega
def Fkc (S S' : im_S) : Prop := ∀ a j : Nat, kc a j → S'.1 a j = S.1 a j ∧ S'.2.1 a j = S.2.1 a j
/-- a program that the reference holds, E before its regions were laid -/
def RGd (K pl : Nat → Nat) (V : Nat → Int64) (m fr : Nat) (y : TR) (e n' r' : Nat) (ν ρ : Nat → Nat) (W : Nat → Int32 × Int32 × Int32) (E S' : im_S) : Prop :=
  PW K y 0 e ∧ e ≤ m ∧ n' ≤ 75 * fr + 500 ∧ r' ≤ 75 * fr + 500 ∧ Lk0 V fr (ftP y) E 4000 ∧ (ftP y).length = tln y ∧ tln y ≤ 8 ∧ FA (FD K pl V (75 * fr) n' (75 * fr) r' ν E) y fr ∧ FA (WPs W ν) y fr ∧ FA (fun _ p cnt x => BL V W fr (ftP y) ν E x (pms (p + 2) cnt).reverse) y fr ∧ mpR ρ (rgP y) 0 ∧ PLy S' ν ρ (rgP y) (sbP y) ∧ FrL (lyS E) S' ∧ (∀ c, c < (ftP y).length → S'.1 96 c = nI (ρ (4 * ((ftP y).getD c (0, 0)).1))) ∧ S'.1 75 72 = 0 ∧ S'.1 75 73 = 0 ∧ S'.1 75 74 = 0
theorem r_comp (T : TH K pl V m) (hfu : 600 ≤ fu) {q s : Nat} (hq : 3 * m + 4 ≤ q) (hs : s ≤ 1) (hK0 : K 1000 = 600 * (1 - s)) {S D : im_S} (htok : f_X11_tokenize fu (uI (uI S 75 3 0) 75 4 0) = some ((), D)) (hT : TkD K pl V m D) (h37 : S.1 75 37 = nI s) (hP : Pq (K 1000) V D) :
    ∃ f : Nat, f ≤ 4000 ∧ (∀ e, pP K q 9 0 0 = (e, none) → f = 4 * pl e + 1) ∧ (∀ e y, pP K q 9 0 0 = (e, some y) → f = min 4000 (rP K pl V (ftP y) y [])) ∧
      (f < 4000 → ∃ E : im_S, f_X11_compile fu S = some (0, uI (uI E 75 2 0) 75 0 1) ∧ RFS E f ∧ Pq (K 1000) V E ∧ Fkc S E) ∧
      (f = 4000 → ∃ (e : Nat) (y : TR) (n' r' : Nat) (ν ρ : Nat → Nat) (W : Nat → Int32 × Int32 × Int32) (E S' : im_S), pP K q 9 0 0 = (e, some y) ∧ f_X11_compile fu S = some (nI (ftP y).length, S') ∧ RGd K pl V m (8 * (1 - s)) y e n' r' ν ρ W E S' ∧ Fkc S E) := by
  have hm := T.m_
  have tk := f_X11_tokenize_qtk fu _ () D htok
  have d3 : D.1 75 3 = 0 := by rw [(tk.1 75 3 rfl).1, uI_ne (by omega), uI_eq]
  have d4 : D.1 75 4 = 0 := by rw [(tk.1 75 4 rfl).1, uI_eq]
  have d37 : D.1 75 37 = nI s := by rw [(tk.1 75 37 rfl).1, uI_ne (by omega), uI_ne (by omega)]; exact h37
  obtain ⟨k, E, g1, g2, g3, g4⟩ := r_read T hfu hq hs hK0 hT d37 d3 d4 hP
  have hfr : Fkc S E := by
    intro a j h
    have h0 := h
    unfold kc at h0
    have t1 := tk.1 a j (kc_tk h)
    have t2 := g2 a j (kc_rd h) (by unfold fnY; omega)
    refine ⟨?_, ?_⟩
    · rw [t2.1, rdS_z (by omega), t1.1, uI_ne (by omega), uI_ne (by omega)]
    · rw [t2.2]
      exact t1.2
  have e0 : f_X11_compile fu S = f_X11_compile fu S := rfl
  conv at e0 => rhs; unfold f_X11_compile f_X11_readProgram
  rw [htok] at e0
  simp only [Option.bind_some] at e0
  have g1 : f_X11_readProgram_L52 fu fu (uI (uI (uI (uI (uI (uI D 75 10 0) 75 26 (600 * (1 - (D.1 75 37)))) 75 27 (600 * (1 - (D.1 75 37)))) 75 78 0) 75 77 0) 75 36 0) = some (k, E) := g1
  rw [g1] at e0
  simp only [Option.bind_some] at e0
  obtain ⟨e, res, hpp⟩ : ∃ e res, pP K q 9 0 0 = (e, res) := ⟨_, _, rfl⟩
  cases res with
  | none =>
    obtain ⟨u1, u2, u3, u4⟩ := g3 (by rw [hpp])
    rw [hpp] at u2 u3
    have u2 : e ≤ m := u2
    have hpe := T.pl_ u2
    refine ⟨4 * pl e + 1, by omega, fun e' h => (by rw [hpp] at h; cases h; rfl), fun e' y h => (by rw [hpp] at h; cases h), fun _ => ⟨E, ?_, u3, u4, hfr⟩, fun h => absurd h (by omega)⟩
    have h3 : ¬ E.1 75 3 = 0 := by
      rcases u3 with ⟨z, -⟩ | ⟨k', p', z1, z2, -, z3, -⟩
      · omega
      · rw [z3]; exact fun z => by have := (nI_eq (a := k') (b := 0) (by omega) (by omega)).mp z; omega
    rw [u1, if_pos rfl, if_neg h3] at e0
    rw [e0]
    rfl
  | some y =>
    obtain ⟨n', r', ν, u1, u2, u3, u4, u5, u6, u7, u8, u9⟩ := g4 y (by rw [hpp])
    rw [hpp] at u2 u3
    have u2 : e ≤ m := u2
    have u3 : PW K y 0 e := u3
    obtain ⟨W, E2, v1, v2, v3, v4, v5, v6⟩ := r_look (lo := 600 * (1 - s)) (hi := n') (rlo := 600 * (1 - s)) (rhi := r') T hfu u3 u2 (by omega) (by omega) u6 u7
    have hfr2 : Fkc S E2 := by
      intro a j h
      have h0 := h
      unfold kc at h0
      obtain ⟨t1, t2⟩ := hfr a j h
      exact ⟨by rw [v3.1 a j (by omega) (by omega) (by omega) (by omega) (by omega)]; exact t1, by rw [v3.2 a j (by omega)]; exact t2⟩
    rw [u1, if_neg (by decide), v1] at e0
    simp only [Option.bind_some] at e0
    refine ⟨min 4000 (rP K pl V (ftP y) y []), by omega, fun e' h => (by rw [hpp] at h; cases h), fun e' y' h => (by rw [hpp] at h; cases h; rfl), fun h => ⟨E2, ?_, v2.1, ?_, hfr2⟩, fun h => ?_⟩
    · have h3 : ¬ E2.1 75 3 = 0 := by
        rcases v2.1 with ⟨z, -⟩ | ⟨k', p', z1, z2, -, z3, -⟩
        · omega
        · rw [z3]; exact fun z => by have := (nI_eq (a := k') (b := 0) (by omega) (by omega)).mp z; omega
      rw [if_neg h3] at e0
      rw [e0]
      rfl
    · have := v2.2.2.2.2.2.2
      rw [show 75 * (8 * (1 - s)) = K 1000 by omega] at this
      exact this
    · rw [h] at v2
      have h3 : E2.1 75 3 = 0 := by
        rcases v2.1 with ⟨-, z, -⟩ | ⟨k', p', z1, z2, z4, -, -, z5⟩
        · exact z
        · omega
      rw [if_pos h3] at e0
      obtain ⟨ρ, S', x1, x2, x3, x4, x5, x6, x7, x8⟩ := r_lay T hfu u3 u2 (show n' ≤ 1200 by omega) (show r' ≤ 1200 by omega) v2 u8 v6
      have h75 : 75 * (8 * (1 - s)) = 600 * (1 - s) := by omega
      refine ⟨e, y, n', r', ν, ρ, W, E2, S', hpp, e0.trans x1, ⟨u3, u2, by omega, by omega, v2, u8, u9, by rw [h75]; exact v6, v4, v5, x2, x3, x4, x5, x6, x7, x8⟩, hfr2⟩
end RCM
