/-! the reference compiles: its tokens, its functions, their types -/
/-- the tokens' values, and behind them what must stay -/
def mkV (D : im_S) (h : Nat) : Int64 := if h < 2000 then D.2.1 80 h else if (h - 2000) % 2 = 0 then (D.1 ((h - 2000) / 2 % 200) ((h - 2000) / 2 / 200)).toInt64 else D.2.1 ((h - 2000) / 2 % 200) ((h - 2000) / 2 / 200)
theorem mkV_lo {D : im_S} {h : Nat} (q : h < 2000) : mkV D h = D.2.1 80 h := if_pos q
theorem mkV_P (n0 : Nat) (D : im_S) : Pq n0 (mkV D) D := by
  intro a i h
  have ha := Pr_a h
  constructor
  · unfold mkV
    rw [if_neg (show ¬ 2000 + 2 * (200 * i + a) < 2000 by omega), if_pos (show (2000 + 2 * (200 * i + a) - 2000) % 2 = 0 by omega), show (2000 + 2 * (200 * i + a) - 2000) / 2 % 200 = a by omega, show (2000 + 2 * (200 * i + a) - 2000) / 2 / 200 = i by omega]
  · unfold mkV
    rw [if_neg (show ¬ 2001 + 2 * (200 * i + a) < 2000 by omega), if_neg (show ¬ (2001 + 2 * (200 * i + a) - 2000) % 2 = 0 by omega), show (2001 + 2 * (200 * i + a) - 2000) / 2 % 200 = a by omega, show (2001 + 2 * (200 * i + a) - 2000) / 2 / 200 = i by omega]
def TkD (K pl : Nat → Nat) (V : Nat → Int64) (m : Nat) (D : im_S) : Prop := ∀ j, j ≤ m → TkN (K j) = true ∧ D.1 77 j = nI (tkK (K j)) ∧ (4 ≤ K j → D.1 78 j = nI (tkC (K j))) ∧ D.1 79 j = nI (pl j) ∧ D.2.1 80 j = V j
theorem tok_KV {C D : im_S} {L m : Nat} (h : TokR C D L 0 0 m) (hL : L ≤ 500) (hm : m ≤ L) (n0 : Nat) : ∃ (K pl : Nat → Nat) (V : Nat → Int64), TH K pl V m ∧ Ct K pl V m C ∧ TkD K pl V m D ∧ K 1000 = n0 ∧ Pq n0 V D := by
  obtain ⟨-, tn, pl, h1, h2, h3⟩ := h
  refine ⟨fun j => if j = 1000 then n0 else tn j, pl, mkV D, ⟨by omega, fun j hj => ?_, fun j hj => ?_, ?_⟩, fun j hj => ?_, fun j hj => ?_, if_pos rfl, mkV_P n0 D⟩
  · obtain ⟨⟨r1, -⟩, -, r3⟩ := h1 j (Nat.zero_le _) hj
    show pl j ≤ 500 ∧ TkN (if j = 1000 then n0 else tn j) = true
    rw [if_neg (show ¬ j = 1000 by omega)]
    exact ⟨by omega, r1⟩
  · obtain ⟨a1, a2, a3, a4⟩ := h2 j (Nat.zero_le _) hj
    obtain ⟨⟨-, -, -, -, r5, -⟩, -⟩ := h1 j (Nat.zero_le _) (by omega)
    show pl j + wl (if j = 1000 then n0 else tn j) ≤ pl (j + 1) ∧ (if j = 1000 then n0 else tn j) ≠ 0 ∧ (if j = 1000 then n0 else tn j) ≠ 3 ∧ ((if j = 1000 then n0 else tn j) = 1 → Nam (mkV D j))
    rw [if_neg (show ¬ j = 1000 by omega), mkV_lo (by omega)]
    refine ⟨a3, a1, a2, fun q => ?_⟩
    obtain ⟨N, n1, n2, n3⟩ := a4 q
    exact ⟨N, by rw [← r5 (Or.inl q)]; exact n1, n2, n3⟩
  · show (if m = 1000 then n0 else tn m) = 0 ∨ (if m = 1000 then n0 else tn m) = 3
    rw [if_neg (show ¬ m = 1000 by omega)]
    rcases h3 with h3 | h3
    · exact Or.inl h3.1
    · exact Or.inr h3
  · obtain ⟨⟨r1, r2, r3, r4, r5, r6, r7⟩, -⟩ := h1 j (Nat.zero_le _) hj
    show C.1 31 j = nI (if j = 1000 then n0 else tn j) ∧ C.1 32 j = nI (pl j) ∧ (((if j = 1000 then n0 else tn j) = 1 ∨ (if j = 1000 then n0 else tn j) = 2) → C.2.1 33 j = mkV D j)
    rw [if_neg (show ¬ j = 1000 by omega), mkV_lo (by omega)]
    exact ⟨r2, r6, r5⟩
  · obtain ⟨⟨r1, r2, r3, r4, r5, r6, r7⟩, -⟩ := h1 j (Nat.zero_le _) hj
    show TkN (if j = 1000 then n0 else tn j) = true ∧ D.1 77 j = nI (tkK (if j = 1000 then n0 else tn j)) ∧ (4 ≤ (if j = 1000 then n0 else tn j) → D.1 78 j = nI (tkC (if j = 1000 then n0 else tn j))) ∧ D.1 79 j = nI (pl j) ∧ D.2.1 80 j = mkV D j
    rw [if_neg (show ¬ j = 1000 by omega), mkV_lo (by omega)]
    exact ⟨r1, r3, r4, r7, rfl⟩
section RTK
variable {K pl : Nat → Nat} {V : Nat → Int64} {m fu fr : Nat} {lo hi rlo rhi : Nat} {ν : Nat → Nat}
theorem RpF_ft {D : im_S} : ∀ (s : Nat) (y : TR), tsz y ≤ s → ∀ f, RpF K pl V D lo hi rlo rhi y f → RFt V D f (ftP y) ∧ (ftP y).length = tln y := by
  intro s
  induction s with
  | zero => intro y hs; cases y <;> simp [tsz] at hs
  | succ s ih =>
    intro y hs f h
    unfold RpF at h
    split at h
    · obtain ⟨⟨h1, h2, h3, h4, h5, -⟩, h6⟩ := h
      obtain ⟨i1, i2⟩ := ih _ (by simp only [tsz] at hs; omega) _ h6
      exact ⟨⟨h1, h3, h4, fun z hz => (h5 z hz).1, i1⟩, congrArg Nat.succ i2⟩
    · exact ⟨trivial, rfl⟩
    · exact h.elim
theorem FD_of {D : im_S} : ∀ (s : Nat) (y : TR), tsz y ≤ s → ∀ f, RpF K pl V D lo hi rlo rhi y f → FA (fun c p cnt x => OKs K pl V D lo hi rlo rhi ν x ∧ D.1 102 c = nI (ν (otk x))) y f → FA (FD K pl V lo hi rlo rhi ν D) y f := by
  intro s
  induction s with
  | zero => intro y hs; cases y <;> simp [tsz] at hs
  | succ s ih =>
    intro y hs f h g
    unfold RpF at h
    split at h
    · obtain ⟨⟨h1, h2, h3, h4, h5, -⟩, h6⟩ := h
      exact ⟨⟨h1, h2, h3, h5, g.1.2, g.1.1⟩, ih _ (by simp only [tsz] at hs; omega) _ h6 g.2⟩
    · trivial
    · exact h.elim
theorem mem_pms : ∀ (cnt p b : Nat), b ∈ pms p cnt → ∃ z, z < cnt ∧ b = p + 2 * z := by
  intro cnt
  induction cnt with
  | zero => intro p b h; exact absurd h List.not_mem_nil
  | succ cnt ih =>
    intro p b h
    have h : b ∈ p :: pms (p + 2) cnt := h
    rcases List.mem_cons.mp h with rfl | h
    · exact ⟨0, by omega, by omega⟩
    · obtain ⟨z, h1, h2⟩ := ih (p + 2) b h
      exact ⟨z + 1, by omega, by omega⟩
theorem pmF_nam (T : TH K pl V m) {y : TR} {p e : Nat} (w : PW K y p e) : e ≤ m → ∀ j b, b ∈ (pmF V (ftP y) j).getD [] → Nam (V b) := by
  refine PW_ind (K := K) (P := fun y p e => e ≤ m → ∀ j b, b ∈ (pmF V (ftP y) j).getD [] → Nam (V b)) ?_ ?_ (tsz y) y p e (Nat.le_refl _) w
  · intro p cnt x b0 e0 hK hc hz w1 hb he j b h
    have l1 := Wt_lt w1
    have h : b ∈ (if V p = V j then some (pms (p + 2) cnt) else none).getD [] := h
    by_cases hv : V p = V j
    · rw [if_pos hv] at h
      obtain ⟨z, z1, z2⟩ := mem_pms cnt (p + 2) b h
      rw [z2]
      exact T.nam (by omega) (hz z z1)
    · rw [if_neg hv] at h
      exact absurd h List.not_mem_nil
  · intro p cnt x r b0 e0 e hK hc hz w1 hb _ w2 ih he j b h
    have l1 := Wt_lt w1
    have l2 := PW_lt w2
    have h : b ∈ (if V p = V j then some (pms (p + 2) cnt) else pmF V (ftP r) j).getD [] := h
    by_cases hv : V p = V j
    · rw [if_pos hv] at h
      obtain ⟨z, z1, z2⟩ := mem_pms cnt (p + 2) b h
      rw [z2]
      exact T.nam (by omega) (hz z z1)
    · rw [if_neg hv] at h
      exact ih he j b h
/-- the state in which the functions are read -/
def rdS (D : im_S) : im_S := uI (uI (uI (uI (uI (uI D 75 10 0) 75 26 (600 * (1 - (D.1 75 37)))) 75 27 (600 * (1 - (D.1 75 37)))) 75 78 0) 75 77 0) 75 36 0
theorem rdS_z {D : im_S} {a j : Nat} (h : a ≠ 75 ∨ (j ≠ 10 ∧ j ≠ 26 ∧ j ≠ 27 ∧ j ≠ 78 ∧ j ≠ 77 ∧ j ≠ 36)) : (rdS D).1 a j = D.1 a j := by
  unfold rdS
  rw [uI_ne (by omega), uI_ne (by omega), uI_ne (by omega), uI_ne (by omega), uI_ne (by omega), uI_ne (by omega)]
theorem r_read (T : TH K pl V m) (hfu : 600 ≤ fu) {q s : Nat} (hq : 3 * m + 4 ≤ q) (hs : s ≤ 1) (hK0 : K 1000 = 600 * (1 - s)) {D : im_S} (hT : TkD K pl V m D) (h37 : D.1 75 37 = nI s) (h3 : D.1 75 3 = 0) (h4 : D.1 75 4 = 0) (hP : Pq (K 1000) V D) :
    ∃ (k : Int32) (E : im_S), f_X11_readProgram_L52 fu fu (rdS D) = some (k, E) ∧ KX (fnY (8 * (1 - s))) (rdS D) E ∧
      ((pP K q 9 0 0).2 = none → k = 0 ∧ (pP K q 9 0 0).1 ≤ m ∧ RFS E (4 * pl (pP K q 9 0 0).1 + 1) ∧ Pq (K 1000) V E) ∧
      ∀ y, (pP K q 9 0 0).2 = some y → ∃ (n' r' : Nat) (ν : Nat → Nat), k = 1 ∧ (pP K q 9 0 0).1 ≤ m ∧ PW K y 0 (pP K q 9 0 0).1 ∧ n' ≤ 600 * (1 - s) + 500 ∧ r' ≤ 600 * (1 - s) + 500 ∧ Lk0 V (8 * (1 - s)) (ftP y) E 4000 ∧ FA (FD K pl V (600 * (1 - s)) n' (600 * (1 - s)) r' ν E) y (8 * (1 - s)) ∧ (ftP y).length = tln y ∧ tln y ≤ 8 := by
  have hm := T.m_
  have e600 : (600 : Int32) * (1 - D.1 75 37) = nI (600 * (1 - s)) := by
    rw [h37]
    rcases (show s = 0 ∨ s = 1 by omega) with rfl | rfl <;> decide
  have e8 : (8 : Int32) * (1 - nI s) = nI (8 * (1 - s)) := by
    rcases (show s = 0 ∨ s = 1 by omega) with rfl | rfl <;> decide
  have f36 : (rdS D).1 75 36 = nI 0 := by unfold rdS; rw [uI_eq]; rfl
  have f77 : (rdS D).1 75 77 = nI 0 := by unfold rdS; rw [uI_ne (by omega), uI_eq]; rfl
  have f78 : (rdS D).1 75 78 = nI 0 := by unfold rdS; rw [uI_ne (by omega), uI_ne (by omega), uI_eq]; rfl
  have f27 : (rdS D).1 75 27 = nI (600 * (1 - s)) := by unfold rdS; rw [uI_ne (by omega), uI_ne (by omega), uI_ne (by omega), uI_eq]; exact e600
  have f26 : (rdS D).1 75 26 = nI (600 * (1 - s)) := by unfold rdS; rw [uI_ne (by omega), uI_ne (by omega), uI_ne (by omega), uI_ne (by omega), uI_eq]; exact e600
  have f10 : (rdS D).1 75 10 = nI 0 := by unfold rdS; rw [uI_ne (by omega), uI_ne (by omega), uI_ne (by omega), uI_ne (by omega), uI_ne (by omega), uI_eq]; rfl
  have g37 : (rdS D).1 75 37 = nI s := by rw [rdS_z (by omega)]; exact h37
  have hPs : Ps K V (rdS D) := Pq_ag hP (fun a i q => rdS_z (Or.inl (by have := Pr_a q; omega))) (fun _ _ _ => rfl)
  have H : Rd K pl V m (rdS D) 0 0 (600 * (1 - s)) (600 * (1 - s)) 0 := ⟨fun j hj => by
    obtain ⟨a1, a2, a3, a4, a5⟩ := hT j hj
    exact ⟨a1, by rw [rdS_z (by omega)]; exact a2, fun q => by rw [rdS_z (by omega)]; exact a3 q, by rw [rdS_z (by omega)]; exact a4, a5⟩, hm, Nat.zero_le _, f10, f77, f26, f27, f78, by rw [rdS_z (by omega)]; exact h3, hPs⟩
  have B : Bd (K 1000) m 0 (600 * (1 - s)) (600 * (1 - s)) 0 := by unfold Bd; omega
  obtain ⟨k, E, g1, g2, g3, g4⟩ := r_funs T.2.2.2 hfu hq hs hK0 9 fu 0 (rdS D) 0 (600 * (1 - s)) (600 * (1 - s)) (by omega) (by omega) (by omega) H B f36 g37
  refine ⟨k, E, g1, g4, fun hn => ?_, fun y hy => ?_⟩
  · obtain ⟨u1, u2, u3, u4, u5⟩ := g2 hn
    exact ⟨u1, u2, Or.inr ⟨1, pl (pP K q 9 0 0).1, by omega, by omega, T.pl_ u2, u3, u4, by omega⟩, u5⟩
  · obtain ⟨n', r', u1, u2, u3, u4, u5, u6, u7, u8, u9, u10, u11, u12⟩ := g3 y hy
    have w : PW K y 0 (pP K q 9 0 0).1 := pP_W 9 0 0 _ y (Prod.ext rfl hy)
    have hle := u2.2.2.1
    obtain ⟨t1, t2⟩ := RpF_ft (tsz y) y (Nat.le_refl _) _ u12
    obtain ⟨ν, hν⟩ := nu_P w _ u12
    have hF := FD_of (ν := ν) (tsz y) y (Nat.le_refl _) _ u12 hν
    have z3 := u2.flt
    have z4 := (f_X11_readProgram_L52_qz4 fu fu (rdS D) k E g1 z3).2
    have z37 : E.1 75 37 = nI s := by rw [(g4 75 37 rfl (by unfold fnY; omega)).1]; exact g37
    refine ⟨n', r', ν, u1, hle, w, by omega, by omega, ⟨Or.inl ⟨rfl, z3, by rw [z4, rdS_z (by omega)]; exact h4⟩, Nat.le_refl _, t1, by rw [u9, t2]; congr 1; omega, by rw [z37]; exact e8, by omega, ?_⟩, hF, t2, by omega⟩
    have := u2.ps
    rw [show 75 * (8 * (1 - s)) = K 1000 by omega]
    exact this
/-- the reference looks at a program -/
theorem r_look (T : TH K pl V m) (hfu : 600 ≤ fu) {y : TR} {e : Nat} (w : PW K y 0 e) (he : e ≤ m) (hhi : hi ≤ 1200 ∧ 75 * fr ≤ lo ∧ hi ≤ 75 * fr + 600) (hrh : rhi ≤ 1200) {E : im_S} (H : Lk0 V fr (ftP y) E 4000) (hF : FA (FD K pl V lo hi rlo rhi ν E) y fr) :
    ∃ (W : Nat → Int32 × Int32 × Int32) (S' : im_S), f_X11_lookAll fu E = some ((), S') ∧ Lk0 V fr (ftP y) S' (min 4000 (rP K pl V (ftP y) y [])) ∧ FLk pl E S' 0 e 0 ∧ FA (WPs W ν) y fr ∧ FA (fun _ p cnt x => BL V W fr (ftP y) ν S' x (pms (p + 2) cnt).reverse) y fr ∧ FA (FD K pl V lo hi rlo rhi ν S') y fr := by
  obtain ⟨W, hW⟩ := W_P (ν := ν) w fr
  have h16 := H.2.2.2.2.2.1
  obtain ⟨S', u1, u2, u3, u4⟩ := lk_P (W := W) T hfu hhi hrh (pmF_nam T w he) w he E 4000 fu [] rfl H hF hW (by omega)
  refine ⟨W, S', ?_, u2, u3, hW, u4, FA_mp (fun c p cnt x => FD_fl u3) (tsz y) y _ (Nat.le_refl _) hF⟩
  unfold f_X11_lookAll
  rw [H.2.2.2.2.1]
  exact u1
end RTK
