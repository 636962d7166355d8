/-! how many loops a text has room for -/
/-- more than four names -/
def nq4 (k : Nat) : Nat := if k ≤ 4 then 0 else 100
def nl : TR → Nat
  | .tag 4 (.tag _ as) => nl as
  | .tag 5 (.tag _ (.append x y)) => nl x + nl y
  | .tag 6 (.tag _ (.append x (.append y z))) => nl x + (nl y + nl z)
  | .tag 7 (.tag _ (.append fs (.append c (.append ns g)))) => 1 + nq4 (tln fs) + (nl fs + (nl c + (nl ns + nl g)))
  | .tag 8 (.tag _ x) => nl x
  | .tag 9 (.tag _ (.append x y)) => nl x + nl y
  | .tag 10 (.tag _ (.append x y)) => nl x + nl y
  | .tag 11 (.tag _ (.append x y)) => nl x + nl y
  | .tag 12 (.tag _ x) => nl x
  | .append (.tag _ x) l => nl x + nl l
  | _ => 0
/-- the loops of a program -/
def nlP : TR → Nat
  | .append (.tag _ (.append _ x)) r => nl x + nlP r
  | _ => 0
/-- what R reads has room for its loops -/
def WL (pl : Nat → Nat) (m : Nat) (R : Nat → PR) : Prop := ∀ p e x, R p = (e, some x) → e ≤ m → 24 * nl x + 1 + pl p ≤ pl e
section LPB
variable {K pl : Nat → Nat} {V : Nat → Int64} {m : Nat} {R R1 : Nat → PR}
theorem pB_n : ∀ (q most n p e : Nat) (f : TR), pB K R q most n p = (e, some f) → n ≤ most → n + tln f ≤ most := by
  intro q
  induction q with
  | zero => intro most n p e f h; cases h
  | succ q ih =>
    intro most n p e f h hle
    rw [pB] at h
    by_cases hn : n = most
    · rw [if_pos hn] at h; cases h
    rw [if_neg hn] at h
    obtain ⟨k1, h⟩ := pw_inv h
    obtain ⟨k2, h⟩ := pw_inv h
    obtain ⟨b, x, h1, h⟩ := pbd_inv h
    by_cases hb : K b = 44
    · rw [if_pos hb] at h
      obtain ⟨e2, r2, h2, h⟩ := pbd_inv h
      cases h
      have := ih most (n + 1) (b + 1) _ r2 h2 (by omega)
      show n + (tln r2 + 1) ≤ most
      omega
    · rw [if_neg hb] at h
      cases h
      show n + (0 + 1) ≤ most
      omega
theorem pB_L (T : TH K pl V m) (hW : WR K R) (hR : WL pl m R) : ∀ (q most n p e : Nat) (f : TR), pB K R q most n p = (e, some f) → e ≤ m → 24 * nl f + 3 + pl p ≤ pl e := by
  intro q
  induction q with
  | zero => intro most n p e f h; cases h
  | succ q ih =>
    intro most n p e f h he
    rw [pB] at h
    by_cases hn : n = most
    · rw [if_pos hn] at h; cases h
    rw [if_neg hn] at h
    obtain ⟨k1, h⟩ := pw_inv h
    obtain ⟨k2, h⟩ := pw_inv h
    obtain ⟨b, x, h1, h⟩ := pbd_inv h
    have w1 := Wt_lt (hW _ _ _ h1).1
    by_cases hb : K b = 44
    · rw [if_pos hb] at h
      obtain ⟨e2, r, h2, h⟩ := pbd_inv h
      cases h
      have w2 := Wt_lt (pB_W hW _ _ _ _ _ _ h2).2
      have g := ih _ _ _ _ _ h2 he
      have g1 := hR _ _ _ h1 (by omega)
      have s1 := T.lt_ (show p < m by omega)
      have s2 : pl (p + 1) + 1 ≤ pl (p + 2) := T.lt_ (show p + 1 < m by omega)
      have s3 := T.lt_ (show b < m by omega)
      show 24 * (nl x + nl r) + 3 + pl p ≤ pl e
      omega
    · rw [if_neg hb] at h
      cases h
      have g1 := hR _ _ _ h1 he
      have s1 := T.lt_ (show p < m by omega)
      have s2 : pl (p + 1) + 1 ≤ pl (p + 2) := T.lt_ (show p + 1 < m by omega)
      show 24 * (nl x + 0) + 3 + pl p ≤ pl e
      omega
theorem pC_L (T : TH K pl V m) (hW : WR K R1) (hR : WL pl m R1) : ∀ (q n p e : Nat) (f : TR), pC K R1 q n p = (e, some f) → e ≤ m → 24 * nl f + 1 + pl p ≤ pl e := by
  intro q
  induction q with
  | zero => intro n p e f h; cases h
  | succ q ih =>
    intro n p e f h he
    rw [pC] at h
    by_cases hn : n = 4
    · rw [if_pos hn] at h; cases h
    rw [if_neg hn] at h
    obtain ⟨b, x, h1, h⟩ := pbd_inv h
    have w1 := Wt_lt (hW _ _ _ h1).1
    by_cases hb : K b = 44
    · rw [if_pos hb] at h
      obtain ⟨e2, r, h2, h⟩ := pbd_inv h
      cases h
      have w2 := Wt_lt (pC_W hW _ _ _ _ _ h2).2
      have g := ih _ _ _ _ h2 he
      have g1 := hR _ _ _ h1 (by omega)
      have s3 := T.lt_ (show b < m by omega)
      show 24 * (nl x + nl r) + 1 + pl p ≤ pl e
      omega
    · rw [if_neg hb] at h
      cases h
      have g1 := hR _ _ _ h1 he
      show 24 * (nl x + 0) + 1 + pl p ≤ pl e
      omega
theorem pAtom_L (T : TH K pl V m) (hW : WR K R) (hR : WL pl m R) (hW1 : WR K R1) (hR1 : WL pl m R1) {q p e : Nat} {x : TR} (h : pAtom K R R1 q p = (e, some x)) (he : e ≤ m) : 24 * nl x + 1 + pl p ≤ pl e := by
  unfold pAtom at h
  by_cases h2 : K p = 2
  · rw [if_pos h2] at h; cases h
    have s1 := T.lt_ (show p < m by omega)
    show 24 * 0 + 1 + pl p ≤ pl (p + 1)
    omega
  rw [if_neg h2] at h
  by_cases h15 : K p = 15 ∨ K p = 16
  · rw [if_pos h15] at h; cases h
    have s1 := T.lt_ (show p < m by omega)
    show 24 * 0 + 1 + pl p ≤ pl (p + 1)
    omega
  rw [if_neg h15] at h
  by_cases h13 : K p = 13
  · rw [if_pos h13] at h
    unfold pTab at h
    obtain ⟨k1, h⟩ := pw_inv h
    obtain ⟨k2, h⟩ := pw_inv h
    obtain ⟨k3, h⟩ := pw_inv h
    obtain ⟨k4, h⟩ := pw_inv h
    obtain ⟨b, y, h1, h⟩ := pbd_inv h
    obtain ⟨k5, h⟩ := pw_inv h
    obtain ⟨k6, h⟩ := pw_inv h
    obtain ⟨e2, z, h3, h⟩ := pbd_inv h
    cases h
    have w1 := Wt_lt (hW1 _ _ _ h1).1
    have w2 := Wt_lt (hW _ _ _ h3).1
    have g1 := hR1 _ _ _ h1 (by omega)
    have g2 := hR _ _ _ h3 he
    have m1 := T.mono (show p ≤ p + 5 by omega) (by omega)
    have m2 := T.mono (show b ≤ b + 2 by omega) (by omega)
    show 24 * (nl y + nl z) + 1 + pl p ≤ pl e
    omega
  rw [if_neg h13] at h
  by_cases h1 : K p = 1
  · rw [if_pos h1] at h
    by_cases h40 : K (p + 1) = 40
    · rw [if_pos h40] at h
      by_cases h41 : K (p + 2) = 41
      · rw [if_pos h41] at h; cases h
        have s1 := T.lt_ (show p < m by omega)
        have m1 := T.mono (show p + 1 ≤ p + 3 by omega) he
        show 24 * 0 + 1 + pl p ≤ pl (p + 3)
        omega
      · rw [if_neg h41] at h
        obtain ⟨b, as, g1, h⟩ := pbd_inv h
        obtain ⟨k1, h⟩ := pw_inv h
        cases h
        have w1 := Wt_lt (pC_W hW1 _ _ _ _ _ g1).2
        have g := pC_L T hW1 hR1 _ _ _ _ _ g1 (by omega)
        have m1 := T.mono (show p ≤ p + 2 by omega) (by omega)
        have m2 := T.mono (show b ≤ b + 1 by omega) he
        show 24 * nl as + 1 + pl p ≤ pl (b + 1)
        omega
    · rw [if_neg h40] at h; cases h
      have s1 := T.lt_ (show p < m by omega)
      show 24 * 0 + 1 + pl p ≤ pl (p + 1)
      omega
  · rw [if_neg h1] at h; cases h
theorem pCel_L (T : TH K pl V m) (hW1 : WR K R1) (hR1 : WL pl m R1) : ∀ (q : Nat) (x : TR) (p0 p e : Nat) (y : TR), Wt K x p0 p 0 → (p ≤ m → 24 * nl x + 1 + pl p0 ≤ pl p) → pCel K R1 q x p = (e, some y) → e ≤ m → 24 * nl y + 1 + pl p0 ≤ pl e := by
  intro q
  induction q with
  | zero => intro x p0 p e y _ _ h; cases h
  | succ q ih =>
    intro x p0 p e y w hx h he
    rw [pCel] at h
    by_cases h91 : K p = 91
    · rw [if_pos h91] at h
      obtain ⟨b, z, h1, h⟩ := pbd_inv h
      obtain ⟨k1, h⟩ := pw_inv h
      have w2 : Wt K (aCel p x z) p0 (b + 1) 0 := ⟨w, b, (hW1 _ _ _ h1).1, rfl⟩
      have w1 := Wt_lt (hW1 _ _ _ h1).1
      refine ih _ p0 _ _ _ w2 (fun hb => ?_) h he
      have g1 := hR1 _ _ _ h1 (by omega)
      have g2 := hx (by omega)
      have m1 := T.mono (show p ≤ p + 1 by omega) (by omega)
      have m2 := T.mono (show b ≤ b + 1 by omega) hb
      show 24 * (nl x + nl z) + 1 + pl p0 ≤ pl (b + 1)
      omega
    · rw [if_neg h91] at h; cases h; exact hx he
theorem pAh_L (T : TH K pl V m) (hW : WR K R) (hR : WL pl m R) (hW1 : WR K R1) (hR1 : WL pl m R1) : ∀ (q p e : Nat) (x : TR), pAh K R R1 q p = (e, some x) → e ≤ m → 24 * nl x + 1 + pl p ≤ pl e := by
  intro q
  induction q with
  | zero => intro p e x h; cases h
  | succ q ih =>
    intro p e x h he
    rw [pAh] at h
    by_cases h45 : K p = 45 ∨ K p = 33
    · rw [if_pos h45] at h
      obtain ⟨b, y, h1, h⟩ := pbd_inv h
      cases h
      have w1 := Wt_lt (pAh_W hW hW1 _ _ _ _ h1).1
      have g1 := ih _ _ _ h1 he
      have m1 := T.mono (show p ≤ p + 1 by omega) (by omega)
      show 24 * nl y + 1 + pl p ≤ pl e
      omega
    rw [if_neg h45] at h
    by_cases h40 : K p = 40
    · rw [if_pos h40] at h
      obtain ⟨b, y, h1, h⟩ := pbd_inv h
      obtain ⟨k1, h⟩ := pw_inv h
      have w2 : Wt K (aBrk p y) p (b + 1) 0 := ⟨rfl, b, (hW1 _ _ _ h1).1, rfl⟩
      have w1 := Wt_lt (hW1 _ _ _ h1).1
      refine pCel_L T hW1 hR1 _ _ p _ _ _ w2 (fun hb => ?_) h he
      have g1 := hR1 _ _ _ h1 (by omega)
      have m1 := T.mono (show p ≤ p + 1 by omega) (by omega)
      have m2 := T.mono (show b ≤ b + 1 by omega) hb
      show 24 * nl y + 1 + pl p ≤ pl (b + 1)
      omega
    · rw [if_neg h40] at h
      obtain ⟨b, y, h1, h⟩ := pbd_inv h
      exact pCel_L T hW1 hR1 _ _ p _ _ _ (pAtom_W hW hW1 h1) (fun hb => pAtom_L T hW hR hW1 hR1 h1 hb) h he
theorem pSg_L (T : TH K pl V m) (hW : WR K R) (hR : WL pl m R) (hW1 : WR K R1) (hR1 : WL pl m R1) : ∀ (q least most : Nat) (o : Option TR) (p e : Nat) (y : TR), 1 ≤ least → pSg K R R1 q least most o p = (e, some y) → e ≤ m → (o = none → 24 * nl y + 1 + pl p ≤ pl e) ∧ ∀ x p0, o = some x → Wt K x p0 p 0 → K p ≠ 91 → (p ≤ m → 24 * nl x + 1 + pl p0 ≤ pl p) → 24 * nl y + 1 + pl p0 ≤ pl e := by
  intro q
  induction q with
  | zero => intro least most o p e y _ h; cases o <;> cases h
  | succ q ih =>
    intro least most o p e y hl h he
    cases o with
    | none =>
      rw [pSg] at h
      obtain ⟨b, x, h1, h⟩ := pbd_inv h
      obtain ⟨w1, w2⟩ := pAh_W hW hW1 _ _ _ _ h1
      exact ⟨fun _ => (ih _ _ _ _ _ _ hl h he).2 x p rfl w1 w2 (fun hb => pAh_L T hW hR hW1 hR1 _ _ _ _ h1 hb), (fun x p0 z => by cases z)⟩
    | some x =>
      refine ⟨(fun z => by cases z), fun x0 p0 hx w hk hL => ?_⟩
      cases hx
      rw [pSg] at h
      by_cases hc : least ≤ stg (K p) ∧ stg (K p) ≤ most
      · rw [if_pos hc] at h
        obtain ⟨b, z, h1, h⟩ := pbd_inv h
        obtain ⟨w1, w2⟩ := (pSg_W hW hW1 _ _ _ _ _ _ _ (by omega) h1).1 rfl
        have w3 : Wt K (aBin p x z) p0 b 0 := ⟨by omega, w, w1⟩
        have l1 := Wt_lt w1
        refine (ih _ _ _ _ _ _ hl h he).2 _ p0 rfl w3 w2 (fun hb => ?_)
        have g1 := (ih _ _ _ _ _ _ (by omega) h1 hb).1 rfl
        have g2 := hL (by omega)
        have m1 := T.mono (show p ≤ p + 1 by omega) (by omega)
        show 24 * (nl x + nl z) + 1 + pl p0 ≤ pl b
        omega
      · rw [if_neg hc] at h; cases h; exact hL he
theorem pX_L (T : TH K pl V m) : ∀ (q dep : Nat), WL pl m (pX K q dep) := by
  intro q
  induction q with
  | zero => intro dep p e x h; cases h
  | succ q ih =>
    intro dep p e x h he
    have hW := pX_W K q dep
    have hR := ih dep
    rw [pX] at h
    by_cases hd : 20 ≤ dep
    · rw [if_pos hd] at h; cases h
    rw [if_neg hd] at h
    by_cases h4 : K p = 4
    · rw [if_pos h4] at h
      unfold pLet at h
      obtain ⟨k1, h⟩ := pw_inv h
      obtain ⟨k2, h⟩ := pw_inv h
      obtain ⟨b, y, h1, h⟩ := pbd_inv h
      obtain ⟨k3, h⟩ := pw_inv h
      obtain ⟨e2, z, h3, h⟩ := pbd_inv h
      cases h
      have w1 := Wt_lt (hW _ _ _ h1).1
      have w2 := Wt_lt (hW _ _ _ h3).1
      have g1 := hR _ _ _ h1 (by omega)
      have g2 := hR _ _ _ h3 he
      have m1 := T.mono (show p ≤ p + 3 by omega) (by omega)
      have m2 := T.mono (show b ≤ b + 1 by omega) (by omega)
      show 24 * (nl y + nl z) + 1 + pl p ≤ pl e
      omega
    rw [if_neg h4] at h
    by_cases h6 : K p = 6
    · rw [if_pos h6] at h
      unfold pIf at h
      obtain ⟨b, y, h1, h⟩ := pbd_inv h
      obtain ⟨k3, h⟩ := pw_inv h
      obtain ⟨c, z, h3, h⟩ := pbd_inv h
      obtain ⟨k5, h⟩ := pw_inv h
      obtain ⟨e2, w, h5, h⟩ := pbd_inv h
      cases h
      have w1 := Wt_lt (hW _ _ _ h1).1
      have w2 := Wt_lt (hW _ _ _ h3).1
      have w3 := Wt_lt (hW _ _ _ h5).1
      have g1 := hR _ _ _ h1 (by omega)
      have g2 := hR _ _ _ h3 (by omega)
      have g3 := hR _ _ _ h5 he
      have m1 := T.mono (show p ≤ p + 1 by omega) (by omega)
      have m2 := T.mono (show b ≤ b + 1 by omega) (by omega)
      have m3 := T.mono (show c ≤ c + 1 by omega) (by omega)
      show 24 * (nl y + (nl z + nl w)) + 1 + pl p ≤ pl e
      omega
    rw [if_neg h6] at h
    by_cases h9 : K p = 9
    · rw [if_pos h9] at h
      unfold pLoop at h
      obtain ⟨b, fs, h1, h⟩ := pbd_inv h
      obtain ⟨k3, h⟩ := pw_inv h
      obtain ⟨c, z, h3, h⟩ := pbd_inv h
      obtain ⟨k5, h⟩ := pw_inv h
      obtain ⟨d, ns, h5, h⟩ := pbd_inv h
      obtain ⟨k7, h⟩ := pw_inv h
      obtain ⟨e2, g, h7, h⟩ := pbd_inv h
      cases h
      have w1 := Wt_lt (pB_W hW _ _ _ _ _ _ h1).2
      have w2 := Wt_lt (hW _ _ _ h3).1
      have w3 := Wt_lt (pB_W hW _ _ _ _ _ _ h5).2
      have w4 := Wt_lt (hW _ _ _ h7).1
      have g1 := pB_L T hW hR _ _ _ _ _ _ h1 (by omega)
      have g2 := hR _ _ _ h3 (by omega)
      have g3 := pB_L T hW hR _ _ _ _ _ _ h5 (by omega)
      have g4 := hR _ _ _ h7 he
      have s1 := T.st_ (show p < m by omega)
      have s2 := T.st_ (show b < m by omega)
      have s3 := T.st_ (show c < m by omega)
      have s4 := T.st_ (show d < m by omega)
      rw [h9] at s1
      rw [k3] at s2
      rw [k5] at s3
      rw [k7] at s4
      have s1 : pl p + 4 ≤ pl (p + 1) := s1
      have s2 : pl b + 5 ≤ pl (b + 1) := s2
      have s3 : pl c + 4 ≤ pl (c + 1) := s3
      have s4 : pl d + 4 ≤ pl (d + 1) := s4
      have hq4 : nq4 (tln fs) = 0 := if_pos (by have := pB_n _ _ _ _ _ _ h1 (Nat.zero_le 4); omega)
      show 24 * (1 + nq4 (tln fs) + (nl fs + (nl z + (nl ns + nl g)))) + 1 + pl p ≤ pl e
      omega
    rw [if_neg h9] at h
    exact (pSg_L T hW hR (pX_W K q (dep + 1)) (ih (dep + 1)) _ _ _ _ _ _ _ (by omega) h he).1 rfl
theorem pl_ge (T : TH K pl V m) : ∀ j, j ≤ m → j ≤ pl j := by
  intro j
  induction j with
  | zero => intro _; omega
  | succ j ih => intro h; have := T.lt_ (show j < m by omega); have := ih (by omega); omega
theorem pT_L (T : TH K pl V m) {q b e : Nat} {x : TR} (h : pT K q b = (e, some x)) (he : e ≤ m) (hb : 3 ≤ b) : nl x ≤ 20 := by
  unfold pT at h
  obtain ⟨k1, h⟩ := pw_inv h
  obtain ⟨e1, y, h1, h⟩ := pbd_inv h
  obtain ⟨k2, h⟩ := pw_inv h
  cases h
  have w := Wt_lt (pX_W K q 0 _ _ _ h1).1
  have g := pX_L T q 0 _ _ _ h1 (by omega)
  have s1 := pl_ge T (b + 1) (by omega)
  have s2 := T.pl_ he
  have s3 := T.lt_ (show e1 < m by omega)
  omega
theorem pF_L (T : TH K pl V m) {q p e : Nat} {f : TR} (h : pF K q p = (e, some f)) (he : e ≤ m) : ∃ c x, f = .tag p (.append c x) ∧ nl x ≤ 20 := by
  unfold pF at h
  obtain ⟨k1, h⟩ := pw_inv h
  obtain ⟨k2, h⟩ := pw_inv h
  by_cases h41 : K (p + 2) = 41
  · rw [if_pos h41] at h
    obtain ⟨b, x, h1, h⟩ := pbd_inv h
    cases h
    exact ⟨_, _, rfl, pT_L T h1 he (by omega)⟩
  · rw [if_neg h41] at h
    obtain ⟨b, y, h1, h⟩ := pbd_inv h
    cases h
    unfold pL at h1
    obtain ⟨b1, t, h2, h1⟩ := pbd_inv h1
    obtain ⟨k3, h1⟩ := pw_inv h1
    obtain ⟨b2, x, h3, h1⟩ := pbd_inv h1
    cases h1
    obtain ⟨k, -, u1, u2, u3, -⟩ := pPa_W _ _ _ _ _ h2 (by omega)
    exact ⟨_, _, rfl, pT_L T h3 he (by omega)⟩
theorem pP_L (T : TH K pl V m) {q : Nat} : ∀ (t c p e : Nat) (y : TR), pP K q t c p = (e, some y) → e ≤ m → ∀ d, FA (fun _ _ _ x => nl x ≤ 20) y d := by
  intro t
  induction t with
  | zero => intro c p e y h; cases h
  | succ t ih =>
    intro c p e y h he d
    rw [pP] at h
    by_cases h8 : c = 8
    · rw [if_pos h8] at h; cases h
    rw [if_neg h8] at h
    obtain ⟨e1, f, h1, h⟩ := pbd_inv h
    by_cases h0 : K e1 = 0
    · rw [if_pos h0] at h
      cases h
      obtain ⟨cnt, x, b, e0, rfl, -⟩ := pF_W h1
      obtain ⟨c', x', hf, g⟩ := pF_L T h1 he
      cases hf
      exact ⟨g, trivial⟩
    · rw [if_neg h0] at h
      obtain ⟨e2, r, h2, h⟩ := pbd_inv h
      cases h
      have hlt := PW_lt (pP_W _ _ _ _ _ h2)
      obtain ⟨cnt, x, b, e0, rfl, -⟩ := pF_W h1
      obtain ⟨c', x', hf, g⟩ := pF_L T h1 (by omega)
      cases hf
      exact ⟨g, ih _ _ _ _ h2 he _⟩
theorem pT_S (T : TH K pl V m) {q b e : Nat} {x : TR} (h : pT K q b = (e, some x)) (he : e ≤ m) : 24 * nl x + pl b ≤ pl e ∧ b ≤ e := by
  unfold pT at h
  obtain ⟨k1, h⟩ := pw_inv h
  obtain ⟨e1, y, h1, h⟩ := pbd_inv h
  obtain ⟨k2, h⟩ := pw_inv h
  cases h
  have w := Wt_lt (pX_W K q 0 _ _ _ h1).1
  have g := pX_L T q 0 _ _ _ h1 (by omega)
  have s1 := T.lt_ (show b < m by omega)
  have s3 := T.lt_ (show e1 < m by omega)
  omega
theorem pl_gk (T : TH K pl V m) {p : Nat} : ∀ k, p + k ≤ m → pl p ≤ pl (p + k) := by
  intro k
  induction k with
  | zero => intro _; exact Nat.le_refl _
  | succ k ih => intro h; have := T.lt_ (show p + k < m by omega); have := ih (by omega); rw [show p + (k + 1) = p + k + 1 by omega]; omega
theorem pF_S (T : TH K pl V m) {q p e : Nat} {f : TR} (h : pF K q p = (e, some f)) (he : e ≤ m) : ∃ c x, f = .tag p (.append c x) ∧ 24 * nl x + pl p ≤ pl e := by
  unfold pF at h
  obtain ⟨k1, h⟩ := pw_inv h
  obtain ⟨k2, h⟩ := pw_inv h
  by_cases h41 : K (p + 2) = 41
  · rw [if_pos h41] at h
    obtain ⟨b, x, h1, h⟩ := pbd_inv h
    cases h
    have g := pT_S T h1 he
    have := pl_gk (p := p) T 3 (by omega)
    exact ⟨_, _, rfl, by omega⟩
  · rw [if_neg h41] at h
    obtain ⟨b, y, h1, h⟩ := pbd_inv h
    cases h
    unfold pL at h1
    obtain ⟨b1, t, h2, h1⟩ := pbd_inv h1
    obtain ⟨k3, h1⟩ := pw_inv h1
    obtain ⟨b2, x, h3, h1⟩ := pbd_inv h1
    cases h1
    obtain ⟨k, -, u1, u2, u3, -⟩ := pPa_W _ _ _ _ _ h2 (by omega)
    have g := pT_S T h3 he
    have g2 := pl_gk (p := p) T (b1 + 1 - p) (by omega)
    rw [show p + (b1 + 1 - p) = b1 + 1 by omega] at g2
    exact ⟨_, _, rfl, by omega⟩
theorem pP_S (T : TH K pl V m) {q : Nat} : ∀ (t c p e : Nat) (y : TR), pP K q t c p = (e, some y) → e ≤ m → 24 * nlP y + pl p ≤ pl e := by
  intro t
  induction t with
  | zero => intro c p e y h; cases h
  | succ t ih =>
    intro c p e y h he
    rw [pP] at h
    by_cases h8 : c = 8
    · rw [if_pos h8] at h; cases h
    rw [if_neg h8] at h
    obtain ⟨e1, f, h1, h⟩ := pbd_inv h
    by_cases h0 : K e1 = 0
    · rw [if_pos h0] at h
      cases h
      obtain ⟨cnt, x, b, e0, rfl, -⟩ := pF_W h1
      obtain ⟨c', x', hf, g⟩ := pF_S T h1 he
      cases hf
      show 24 * (nl x + 0) + pl p ≤ pl e
      omega
    · rw [if_neg h0] at h
      obtain ⟨e2, r, h2, h⟩ := pbd_inv h
      cases h
      have hlt := PW_lt (pP_W _ _ _ _ _ h2)
      obtain ⟨cnt, x, b, e0, rfl, -⟩ := pF_W h1
      obtain ⟨c', x', hf, g⟩ := pF_S T h1 (by omega)
      cases hf
      have g2 := ih _ _ _ _ h2 he
      show 24 * (nl x + nlP r) + pl p ≤ pl e
      omega
theorem pP_20 (T : TH K pl V m) {q t c p e : Nat} {y : TR} (h : pP K q t c p = (e, some y)) (he : e ≤ m) : nlP y ≤ 20 := by
  have := pP_S T t c p e y h he
  have := T.pl_ he
  omega
end LPB
