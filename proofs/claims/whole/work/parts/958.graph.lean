/-! what the class's graph holds of a tree -/
/-- the names of a list of bindings -/
def tks : TR → List Nat
  | .append (.tag p _) r => p :: tks r
  | _ => []
/-- the names that are known behind a list of bindings -/
def bnd : TR → List Nat → List Nat
  | .append (.tag p _) r, γ => bnd r (p :: γ)
  | _, γ => γ
/-- the leaves of an X in its own region, the latest first -/
def lvs : TR → List Nat
  | .tag 1 (.tag j _) => [j]
  | .tag 2 (.tag j _) => [j]
  | .tag 3 (.tag j _) => [j]
  | .tag 4 (.tag j as) => lvs as ++ [j]
  | .tag 5 (.tag _ (.append x y)) => lvs y ++ lvs x
  | .tag 6 (.tag _ (.append x _)) => lvs x
  | .tag 7 (.tag j (.append fs _)) => lvs fs ++ [j]
  | .tag 8 (.tag _ x) => lvs x
  | .tag 9 (.tag _ (.append x y)) => lvs y ++ lvs x
  | .tag 10 (.tag _ (.append x y)) => lvs y ++ lvs x
  | .tag 11 (.tag _ (.append x _)) => lvs x
  | .tag 12 (.tag _ x) => lvs x
  | .append (.tag _ x) r => lvs r ++ lvs x
  | _ => []
/-- a chain of leaves -/
def Seg (S : im_S) (N : Nat → Nat) : Int32 → List Nat → Int32 → Prop
  | w, [], e => w = e
  | w, p :: l, e => w = nI (N p) ∧ N p < N (p + 1) ∧ Seg S N (S.1 16 (N p)) l e
def hdT (N : Nat → Nat) : TR → Int32
  | .append (.tag _ x) _ => nI (N (rtk x))
  | _ => -1
def hdV (N : Nat → Nat) : TR → Int32
  | .append (.tag p _) _ => nI (N p)
  | _ => -1
/-- a node's own fields -/
def nd (pl : Nat → Nat) (S : im_S) (N : Nat → Nat) (c t : Nat) (v : Int64) (j R : Nat) : Prop := N j < N (j + 1) ∧ S.1 7 (N j) = nI c ∧ S.1 8 (N j) = nI t ∧ S.2.1 21 (N j) = v ∧ S.1 17 (N j) = S.1 27 R ∧ S.1 19 (N j) = nI (pl j)
/-- where a node's value goes -/
def rl (S : im_S) (N : Nat → Nat) (c : Nat) (r : Int32) (p : Nat) : Prop := N c < N (c + 1) ∧ S.1 9 (N c) = r ∧ S.1 10 (N c) = nI (N p)
/-- a variable -/
def vr (V : Nat → Int64) (S : im_S) (N : Nat → Nat) (p : Nat) : Prop := N p < N (p + 1) ∧ S.1 7 (N p) = 3 ∧ S.1 8 (N p) = nI (tvV (V p)) ∧ S.2.1 21 (N p) = V p
/-- the template of region R is so deep -/
def dpt (S : im_S) (R t : Nat) : Prop := ∃ T d : Nat, T < t ∧ S.1 27 R = nI T ∧ S.1 29 T = nI d ∧ S.1 29 t = nI (d + 1)
def G (K pl : Nat → Nat) (V : Nat → Int64) (S : im_S) (N M L : Nat → Nat) : TR → List Nat → Nat → Nat → Nat → TR → List Nat → Prop
  | .tag 1 (.tag j _), _, R, _, _, _, _ => nd pl S N 1 1 (V j) j R
  | .tag 2 (.tag j _), _, R, _, _, _, _ => nd pl S N 1 2 (if K j = 15 then 1 else 0) j R
  | .tag 3 (.tag j _), γ, R, _, _, _, _ => nd pl S N 2 (tvV (V j)) (V j) j R ∧ ∃ b, fnd V γ j = some b ∧ S.1 12 (N j) = nI (N b)
  | .tag 4 (.tag j as), γ, R, _, _, _, _ => nd pl S N 8 (tvV (V j)) (V j) j R ∧ S.1 12 (N j) = hdT N as ∧ G K pl V S N M L as γ R 101 j .nil []
  | .tag 5 (.tag j (.append x y)), γ, R, _, _, _, _ => nd pl S N 11 (tyk K (fun i => tvV (V i)) y) 0 j R ∧ vr V S N (j + 1) ∧ S.1 17 (N (j + 1)) = S.1 27 R ∧ S.1 12 (N j) = nI (N (j + 1)) ∧ rl S N (rtk x) 4 j ∧ S.1 11 (N (rtk x)) = nI (N (j + 1)) ∧ rl S N (rtk y) 3 j ∧ G K pl V S N M L x γ R 0 0 .nil [] ∧ G K pl V S N M L y ((j + 1) :: γ) R 0 0 .nil []
  | .tag 6 (.tag j (.append x (.append y z))), γ, R, _, _, _, _ => nd pl S N 7 (tyk K (fun i => tvV (V i)) y) 0 j R ∧ S.1 12 (N j) = nI (N (rtk x)) ∧ rl S N (rtk x) 1 j ∧ M j + 2 ≤ M (j + 1) ∧ S.1 15 (N j) = nI (M j) ∧ S.1 27 (M j) = S.1 27 R ∧ S.1 27 (M j + 1) = S.1 27 R ∧ rl S N (rtk y) 3 j ∧ rl S N (rtk z) 3 j ∧ Seg S N (S.1 26 (M j)) (lvs y) (-1) ∧ Seg S N (S.1 26 (M j + 1)) (lvs z) (-1) ∧ G K pl V S N M L x γ R 0 0 .nil [] ∧ G K pl V S N M L y γ (M j) 0 0 .nil [] ∧ G K pl V S N M L z γ (M j + 1) 0 0 .nil []
  | .tag 7 (.tag j (.append fs (.append c (.append ns g)))), γ, R, _, _, _, _ => nd pl S N 9 (tyk K (fun i => tvV (V i)) g) 0 j R ∧ S.1 12 (N j) = hdV N fs ∧ S.1 13 (N j) = nI (N (rtk c)) ∧ rl S N (rtk c) 1 j ∧ rl S N (rtk g) 7 j ∧ M j + 3 ≤ M (j + 1) ∧ L j < L (j + 1) ∧ S.1 15 (N j) = nI (M j) ∧ S.1 27 (M j) = nI (L j) ∧ S.1 27 (M j + 1) = nI (L j) ∧ S.1 27 (M j + 2) = nI (L j) ∧ dpt S R (L j) ∧ Seg S N (S.1 26 (M j)) (lvs c) (-1) ∧ Seg S N (S.1 26 (M j + 1)) (lvs ns) (-1) ∧ Seg S N (S.1 26 (M j + 2)) (lvs g) (-1) ∧ G K pl V S N M L fs γ R 102 j ns [] ∧ G K pl V S N M L c (bnd fs γ) (M j) 0 0 .nil [] ∧ G K pl V S N M L ns (bnd fs γ) (M j + 1) 105 j .nil (tks fs) ∧ G K pl V S N M L g (bnd fs γ) (M j + 2) 0 0 .nil []
  | .tag 8 (.tag j x), γ, R, _, _, _, _ => nd pl S N 4 (if K j = 45 then 1 else 2) (Int64.ofNat (K j)) j R ∧ S.1 12 (N j) = nI (N (rtk x)) ∧ rl S N (rtk x) 1 j ∧ G K pl V S N M L x γ R 0 0 .nil []
  | .tag 9 (.tag j (.append x y)), γ, R, _, _, _, _ => nd pl S N 5 (if stg (K j) ≤ 3 then 2 else 1) (Int64.ofNat (K j)) j R ∧ S.1 12 (N j) = nI (N (rtk x)) ∧ S.1 13 (N j) = nI (N (rtk y)) ∧ rl S N (rtk x) 2 j ∧ rl S N (rtk y) 2 j ∧ G K pl V S N M L x γ R 0 0 .nil [] ∧ G K pl V S N M L y γ R 0 0 .nil []
  | .tag 10 (.tag j (.append x y)), γ, R, _, _, _, _ => nd pl S N 6 1 0 j R ∧ S.1 12 (N j) = nI (N (rtk x)) ∧ S.1 13 (N j) = nI (N (rtk y)) ∧ rl S N (rtk x) 2 j ∧ rl S N (rtk y) 2 j ∧ G K pl V S N M L x γ R 0 0 .nil [] ∧ G K pl V S N M L y γ R 0 0 .nil []
  | .tag 11 (.tag j (.append x y)), γ, R, _, _, _, _ => nd pl S N 10 3 0 j R ∧ S.1 12 (N j) = nI (N (rtk x)) ∧ rl S N (rtk x) 1 j ∧ S.1 13 (N j) = nI (N (j + 1)) ∧ vr V S N (j + 1) ∧ vr V S N (j + 3) ∧ S.1 14 (N (j + 1)) = nI (N (j + 3)) ∧ S.1 10 (N (j + 3)) = nI (N j) ∧ M j < M (j + 1) ∧ L j < L (j + 1) ∧ S.1 15 (N j) = nI (M j) ∧ S.1 27 (M j) = nI (L j) ∧ dpt S R (L j) ∧ S.1 17 (N (j + 1)) = nI (L j) ∧ S.1 17 (N (j + 3)) = nI (L j) ∧ rl S N (rtk y) 8 j ∧ Seg S N (S.1 26 (M j)) (lvs y) (-1) ∧ G K pl V S N M L x γ R 0 0 .nil [] ∧ G K pl V S N M L y ((j + 3) :: (j + 1) :: γ) (M j) 0 0 .nil []
  | .tag 12 (.tag _ x), γ, R, _, _, _, _ => G K pl V S N M L x γ R 0 0 .nil []
  | .append (.tag p x) r, γ, R, md, c, o, l =>
    if md = 101 then rl S N (rtk x) 5 c ∧ S.1 14 (N (rtk x)) = hdT N r ∧ G K pl V S N M L x γ R 0 0 .nil [] ∧ G K pl V S N M L r γ R 101 c .nil []
    else if md = 102 then vr V S N p ∧ N (rtk x) < N (rtk x + 1) ∧ S.1 10 (N p) = nI (N c) ∧ S.1 12 (N p) = nI (N (rtk x)) ∧ S.1 14 (N p) = hdV N r ∧ S.1 10 (N (rtk x)) = nI (N c) ∧ S.1 11 (N (rtk x)) = nI (N p) ∧ (if (fnd V (tks o) p).isSome then S.1 13 (N p) = nI (N c) ∧ S.1 9 (N (rtk x)) = 5 ∧ S.1 17 (N p) = nI (L c) else S.1 13 (N p) = -1 ∧ S.1 9 (N (rtk x)) = 4 ∧ S.1 17 (N p) = S.1 27 R) ∧ G K pl V S N M L x γ R 0 0 .nil [] ∧ G K pl V S N M L r γ R 102 c o []
    else (∃ b, fnd V l p = some b ∧ S.1 11 (N (rtk x)) = nI (N b)) ∧ rl S N (rtk x) 6 c ∧ G K pl V S N M L x γ R 0 0 .nil [] ∧ G K pl V S N M L r γ R 105 c .nil l
  | .nil, _, _, _, _, _, _ => True
  | _, _, _, _, _, _, _ => False
/-- the first fault that reading finds, 4000: none -/
def kb (pl : Nat → Nat) (V : Nat → Int64) (γ : List Nat) (p : Nat) : Nat := if (fnd V γ p).isSome then 4 * pl p + 2 else 4000
def ctk (pl : Nat → Nat) (V : Nat → Int64) (p t : Nat) : Nat := if tvV (V p) = t then 4000 else 4 * pl p + 3
def ckX (K pl : Nat → Nat) (V : Nat → Int64) (x : TR) (t : Nat) : Nat := chk pl (tyk K (fun i => tvV (V i)) x) (bgk x) t
def pfc (K pl : Nat → Nat) (V : Nat → Int64) : TR → List Nat → Nat → List Nat → List Nat → Nat
  | .tag 3 (.tag j _), γ, _, _, _ => if (fnd V γ j).isSome then 4000 else 4 * pl j + 2
  | .tag 4 (.tag _ as), γ, _, _, _ => pfc K pl V as γ 101 [] []
  | .tag 5 (.tag j (.append x y)), γ, _, _, _ => min (kb pl V γ (j + 1)) (min (pfc K pl V x γ 0 [] []) (min (ckX K pl V x (tvV (V (j + 1)))) (pfc K pl V y ((j + 1) :: γ) 0 [] [])))
  | .tag 6 (.tag _ (.append x (.append y z))), γ, _, _, _ => min (pfc K pl V x γ 0 [] []) (min (ckX K pl V x 2) (min (pfc K pl V y γ 0 [] []) (min (pfc K pl V z γ 0 [] []) (ckX K pl V z (tyk K (fun i => tvV (V i)) y)))))
  | .tag 7 (.tag _ (.append fs (.append c (.append ns g)))), γ, _, _, _ => min (pfc K pl V fs γ 102 [] []) (min (pfc K pl V c (bnd fs γ) 0 [] []) (min (ckX K pl V c 2) (min (pfc K pl V ns (bnd fs γ) 105 [] (tks fs)) (pfc K pl V g (bnd fs γ) 0 [] []))))
  | .tag 8 (.tag j x), γ, _, _, _ => min (pfc K pl V x γ 0 [] []) (ckX K pl V x (if K j = 45 then 1 else 2))
  | .tag 9 (.tag j (.append x y)), γ, _, _, _ => min (pfc K pl V x γ 0 [] []) (min (ckX K pl V x (if stg (K j) ≤ 2 then 2 else 1)) (min (pfc K pl V y γ 0 [] []) (ckX K pl V y (if stg (K j) ≤ 2 then 2 else 1))))
  | .tag 10 (.tag _ (.append x y)), γ, _, _, _ => min (pfc K pl V x γ 0 [] []) (min (ckX K pl V x 3) (min (pfc K pl V y γ 0 [] []) (ckX K pl V y 1)))
  | .tag 11 (.tag j (.append x y)), γ, _, _, _ => min (kb pl V γ (j + 1)) (min (ctk pl V (j + 1) 3) (min (kb pl V ((j + 1) :: γ) (j + 3)) (min (ctk pl V (j + 3) 1) (min (pfc K pl V x γ 0 [] []) (min (ckX K pl V x 1) (min (pfc K pl V y ((j + 3) :: (j + 1) :: γ) 0 [] []) (ckX K pl V y 1)))))))
  | .tag 12 (.tag _ x), γ, _, _, _ => pfc K pl V x γ 0 [] []
  | .append (.tag p x) r, γ, md, pre, l =>
    if md = 101 then min (pfc K pl V x γ 0 [] []) (pfc K pl V r γ 101 [] [])
    else if md = 102 then min (if (fnd V pre p).isSome ∨ (fnd V γ p).isSome then 4 * pl p + 2 else 4000) (min (pfc K pl V x γ 0 [] []) (min (ckX K pl V x (tvV (V p))) (pfc K pl V r γ 102 (p :: pre) [])))
    else min (if (fnd V l p).isSome ∧ ¬ (fnd V pre p).isSome then 4000 else 4 * pl p + 2) (min (pfc K pl V x γ 0 [] []) (min (ckX K pl V x (tvV (V p))) (pfc K pl V r γ 105 (p :: pre) l)))
  | _, _, _, _, _ => 4000
/-- the tokens of a tree: from p to e -/
def Wt (K : Nat → Nat) : TR → Nat → Nat → Nat → Prop
  | .tag 1 (.tag j f), p, e, _ => f = .nil ∧ j = p ∧ e = p + 1 ∧ K p = 2
  | .tag 2 (.tag j f), p, e, _ => f = .nil ∧ j = p ∧ e = p + 1 ∧ (K p = 15 ∨ K p = 16)
  | .tag 3 (.tag j f), p, e, _ => f = .nil ∧ j = p ∧ e = p + 1 ∧ K p = 1
  | .tag 4 (.tag j as), p, e, _ => j = p ∧ K p = 1 ∧ ((as = .nil ∧ e = p + 3) ∨ ∃ b, as ≠ .nil ∧ Wt K as (p + 2) b 101 ∧ e = b + 1)
  | .tag 5 (.tag j (.append x y)), p, e, _ => j = p ∧ K (p + 1) = 1 ∧ ∃ b, Wt K x (p + 3) b 0 ∧ Wt K y (b + 1) e 0
  | .tag 6 (.tag j (.append x (.append y z))), p, e, _ => j = p ∧ ∃ b c, Wt K x (p + 1) b 0 ∧ Wt K y (b + 1) c 0 ∧ Wt K z (c + 1) e 0
  | .tag 7 (.tag j (.append fs (.append c (.append ns g)))), p, e, _ => j = p ∧ ∃ b d f, fs ≠ .nil ∧ ns ≠ .nil ∧ Wt K fs (p + 1) b 102 ∧ Wt K c (b + 1) d 0 ∧ Wt K ns (d + 1) f 102 ∧ Wt K g (f + 1) e 0
  | .tag 8 (.tag j x), p, e, _ => j = p ∧ (K p = 45 ∨ K p = 33) ∧ Wt K x (p + 1) e 0
  | .tag 9 (.tag j (.append x y)), p, e, _ => 1 ≤ stg (K j) ∧ Wt K x p j 0 ∧ Wt K y (j + 1) e 0
  | .tag 10 (.tag j (.append x y)), p, e, _ => Wt K x p j 0 ∧ ∃ b, Wt K y (j + 1) b 0 ∧ e = b + 1
  | .tag 11 (.tag j (.append x y)), p, e, _ => j = p ∧ K (p + 1) = 1 ∧ K (p + 3) = 1 ∧ ∃ b, Wt K x (p + 5) b 0 ∧ Wt K y (b + 2) e 0
  | .tag 12 (.tag j x), p, e, _ => j = p ∧ ∃ b, Wt K x (p + 1) b 0 ∧ e = b + 1
  | .append (.tag j x) r, p, e, md => (md = 101 ∨ md = 102) ∧ j = p ∧ (md = 102 → K p = 1) ∧ ∃ b, Wt K x (if md = 101 then p else p + 2) b 0 ∧ ((r = .nil ∧ e = b) ∨ (r ≠ .nil ∧ Wt K r (b + 1) e md))
  | _, _, _, _ => False
theorem G_bin (K pl : Nat → Nat) (V : Nat → Int64) (S : im_S) (N M L : Nat → Nat) (j : Nat) (x y : TR) (γ : List Nat) (R : Nat) : G K pl V S N M L (aBin j x y) γ R 0 0 .nil [] = (nd pl S N 5 (if stg (K j) ≤ 3 then 2 else 1) (Int64.ofNat (K j)) j R ∧ S.1 12 (N j) = nI (N (rtk x)) ∧ S.1 13 (N j) = nI (N (rtk y)) ∧ rl S N (rtk x) 2 j ∧ rl S N (rtk y) 2 j ∧ G K pl V S N M L x γ R 0 0 .nil [] ∧ G K pl V S N M L y γ R 0 0 .nil []) := rfl
/-! the grammar's trees lie so -/
theorem pbd_inv {r : PR} {f : Nat → TR → PR} {e : Nat} {y : TR} (h : pbd r f = (e, some y)) : ∃ b x, r = (b, some x) ∧ f b x = (e, some y) := by
  obtain ⟨b, _ | x⟩ := r
  · rw [pbd_none rfl] at h; cases h
  · rw [pbd_some rfl] at h; exact ⟨b, x, rfl, h⟩
theorem pw_inv {K : Nat → Nat} {c p e : Nat} {r : PR} {y : TR} (h : pw K c p r = (e, some y)) : K p = c ∧ r = (e, some y) := by
  unfold pw at h
  by_cases hc : K p = c
  · rw [if_pos hc] at h; exact ⟨hc, h⟩
  · rw [if_neg hc] at h; cases h
/-- what R reads lies so -/
def WR (K : Nat → Nat) (R : Nat → PR) : Prop := ∀ p e x, R p = (e, some x) → Wt K x p e 0 ∧ K e ≠ 91
section PW
variable {K : Nat → Nat} {R R1 : Nat → PR}
theorem pB_W (hR : WR K R) : ∀ (q most n p e : Nat) (f : TR), pB K R q most n p = (e, some f) → f ≠ .nil ∧ Wt K f p e 102 := by
  intro q
  induction q with
  | zero => intro most n p e f h; cases h
  | succ q ih =>
    intro most n p e f h
    rw [pB] at h
    by_cases hn : n = most
    · rw [if_pos hn] at h; cases h
    rw [if_neg hn] at h
    obtain ⟨k1, h⟩ := pw_inv h
    obtain ⟨k2, h⟩ := pw_inv h
    obtain ⟨b, x, h1, h⟩ := pbd_inv h
    obtain ⟨w1, w2⟩ := hR _ _ _ h1
    by_cases hb : K b = 44
    · rw [if_pos hb] at h
      obtain ⟨e2, r, h2, h⟩ := pbd_inv h
      cases h
      obtain ⟨g1, g2⟩ := ih _ _ _ _ _ h2
      exact ⟨(fun z => by cases z), Or.inr rfl, rfl, fun _ => k1, b, w1, Or.inr ⟨g1, g2⟩⟩
    · rw [if_neg hb] at h
      cases h
      exact ⟨(fun z => by cases z), Or.inr rfl, rfl, fun _ => k1, e, w1, Or.inl ⟨rfl, rfl⟩⟩
theorem pC_W (hR1 : WR K R1) : ∀ (q n p e : Nat) (f : TR), pC K R1 q n p = (e, some f) → f ≠ .nil ∧ Wt K f p e 101 := by
  intro q
  induction q with
  | zero => intro n p e f h; cases h
  | succ q ih =>
    intro n p e f h
    rw [pC] at h
    by_cases hn : n = 4
    · rw [if_pos hn] at h; cases h
    rw [if_neg hn] at h
    obtain ⟨b, x, h1, h⟩ := pbd_inv h
    obtain ⟨w1, w2⟩ := hR1 _ _ _ h1
    by_cases hb : K b = 44
    · rw [if_pos hb] at h
      obtain ⟨e2, r, h2, h⟩ := pbd_inv h
      cases h
      obtain ⟨g1, g2⟩ := ih _ _ _ _ h2
      exact ⟨(fun z => by cases z), Or.inl rfl, rfl, (fun z => by cases z), b, w1, Or.inr ⟨g1, g2⟩⟩
    · rw [if_neg hb] at h
      cases h
      exact ⟨(fun z => by cases z), Or.inl rfl, rfl, (fun z => by cases z), e, w1, Or.inl ⟨rfl, rfl⟩⟩
theorem pAtom_W (hR : WR K R) (hR1 : WR K R1) {q p e : Nat} {x : TR} (h : pAtom K R R1 q p = (e, some x)) : Wt K x p e 0 := by
  unfold pAtom at h
  by_cases h2 : K p = 2
  · rw [if_pos h2] at h; cases h; exact ⟨rfl, rfl, rfl, h2⟩
  rw [if_neg h2] at h
  by_cases h15 : K p = 15 ∨ K p = 16
  · rw [if_pos h15] at h; cases h; exact ⟨rfl, rfl, rfl, h15⟩
  rw [if_neg h15] at h
  by_cases h13 : K p = 13
  · rw [if_pos h13] at h
    unfold pTab at h
    obtain ⟨k1, h⟩ := pw_inv h
    obtain ⟨k2, h⟩ := pw_inv h
    obtain ⟨k3, h⟩ := pw_inv h
    obtain ⟨k4, h⟩ := pw_inv h
    obtain ⟨b, y, h1, h⟩ := pbd_inv h
    obtain ⟨k5, h⟩ := pw_inv h
    obtain ⟨k6, h⟩ := pw_inv h
    obtain ⟨e2, z, h3, h⟩ := pbd_inv h
    cases h
    exact ⟨rfl, k1, k3, b, (hR1 _ _ _ h1).1, (hR _ _ _ h3).1⟩
  rw [if_neg h13] at h
  by_cases h1 : K p = 1
  · rw [if_pos h1] at h
    by_cases h40 : K (p + 1) = 40
    · rw [if_pos h40] at h
      by_cases h41 : K (p + 2) = 41
      · rw [if_pos h41] at h; cases h; exact ⟨rfl, h1, Or.inl ⟨rfl, rfl⟩⟩
      · rw [if_neg h41] at h
        obtain ⟨b, as, g1, h⟩ := pbd_inv h
        obtain ⟨k1, h⟩ := pw_inv h
        cases h
        obtain ⟨a1, a2⟩ := pC_W hR1 _ _ _ _ _ g1
        exact ⟨rfl, h1, Or.inr ⟨b, a1, a2, rfl⟩⟩
    · rw [if_neg h40] at h; cases h; exact ⟨rfl, rfl, rfl, h1⟩
  · rw [if_neg h1] at h; cases h
theorem pCel_W (hR1 : WR K R1) : ∀ (q : Nat) (x : TR) (p0 p e : Nat) (y : TR), Wt K x p0 p 0 → pCel K R1 q x p = (e, some y) → Wt K y p0 e 0 ∧ K e ≠ 91 := by
  intro q
  induction q with
  | zero => intro x p0 p e y _ h; cases h
  | succ q ih =>
    intro x p0 p e y w h
    rw [pCel] at h
    by_cases h91 : K p = 91
    · rw [if_pos h91] at h
      obtain ⟨b, z, h1, h⟩ := pbd_inv h
      obtain ⟨k1, h⟩ := pw_inv h
      have w2 : Wt K (aCel p x z) p0 (b + 1) 0 := ⟨w, b, (hR1 _ _ _ h1).1, rfl⟩
      exact ih _ p0 _ _ _ w2 h
    · rw [if_neg h91] at h; cases h; exact ⟨w, h91⟩
theorem pAh_W (hR : WR K R) (hR1 : WR K R1) : ∀ (q p e : Nat) (x : TR), pAh K R R1 q p = (e, some x) → Wt K x p e 0 ∧ K e ≠ 91 := by
  intro q
  induction q with
  | zero => intro p e x h; cases h
  | succ q ih =>
    intro p e x h
    rw [pAh] at h
    by_cases h45 : K p = 45 ∨ K p = 33
    · rw [if_pos h45] at h
      obtain ⟨b, y, h1, h⟩ := pbd_inv h
      cases h
      obtain ⟨w1, w2⟩ := ih _ _ _ h1
      exact ⟨⟨rfl, h45, w1⟩, w2⟩
    rw [if_neg h45] at h
    by_cases h40 : K p = 40
    · rw [if_pos h40] at h
      obtain ⟨b, y, h1, h⟩ := pbd_inv h
      obtain ⟨k1, h⟩ := pw_inv h
      have w2 : Wt K (aBrk p y) p (b + 1) 0 := ⟨rfl, b, (hR1 _ _ _ h1).1, rfl⟩
      exact pCel_W hR1 _ _ p _ _ _ w2 h
    · rw [if_neg h40] at h
      obtain ⟨b, y, h1, h⟩ := pbd_inv h
      exact pCel_W hR1 _ _ p _ _ _ (pAtom_W hR hR1 h1) h
theorem pSg_W (hR : WR K R) (hR1 : WR K R1) : ∀ (q least most : Nat) (o : Option TR) (p e : Nat) (y : TR), 1 ≤ least → pSg K R R1 q least most o p = (e, some y) → (o = none → Wt K y p e 0 ∧ K e ≠ 91) ∧ ∀ x p0, o = some x → Wt K x p0 p 0 → K p ≠ 91 → Wt K y p0 e 0 ∧ K e ≠ 91 := by
  intro q
  induction q with
  | zero => intro least most o p e y _ h; cases o <;> cases h
  | succ q ih =>
    intro least most o p e y hl h
    cases o with
    | none =>
      rw [pSg] at h
      obtain ⟨b, x, h1, h⟩ := pbd_inv h
      obtain ⟨w1, w2⟩ := pAh_W hR hR1 _ _ _ _ h1
      exact ⟨fun _ => (ih _ _ _ _ _ _ hl h).2 x p rfl w1 w2, (fun x p0 z => by cases z)⟩
    | some x =>
      refine ⟨(fun z => by cases z), fun x0 p0 hx w hk => ?_⟩
      cases hx
      rw [pSg] at h
      by_cases hc : least ≤ stg (K p) ∧ stg (K p) ≤ most
      · rw [if_pos hc] at h
        obtain ⟨b, z, h1, h⟩ := pbd_inv h
        obtain ⟨w1, w2⟩ := (ih _ _ _ _ _ _ (by omega) h1).1 rfl
        exact (ih _ _ _ _ _ _ hl h).2 _ p0 rfl ⟨by omega, w, w1⟩ w2
      · rw [if_neg hc] at h; cases h; exact ⟨w, hk⟩
theorem pX_W (K : Nat → Nat) : ∀ (q dep : Nat), WR K (pX K q dep) := by
  intro q
  induction q with
  | zero => intro dep p e x h; cases h
  | succ q ih =>
    intro dep p e x h
    rw [pX] at h
    by_cases hd : 20 ≤ dep
    · rw [if_pos hd] at h; cases h
    rw [if_neg hd] at h
    by_cases h4 : K p = 4
    · rw [if_pos h4] at h
      unfold pLet at h
      obtain ⟨k1, h⟩ := pw_inv h
      obtain ⟨k2, h⟩ := pw_inv h
      obtain ⟨b, y, h1, h⟩ := pbd_inv h
      obtain ⟨k3, h⟩ := pw_inv h
      obtain ⟨e2, z, h3, h⟩ := pbd_inv h
      cases h
      obtain ⟨w1, w2⟩ := ih dep _ _ _ h3
      exact ⟨⟨rfl, k1, b, (ih dep _ _ _ h1).1, w1⟩, w2⟩
    rw [if_neg h4] at h
    by_cases h6 : K p = 6
    · rw [if_pos h6] at h
      unfold pIf at h
      obtain ⟨b, y, h1, h⟩ := pbd_inv h
      obtain ⟨k3, h⟩ := pw_inv h
      obtain ⟨c, z, h3, h⟩ := pbd_inv h
      obtain ⟨k5, h⟩ := pw_inv h
      obtain ⟨e2, w, h5, h⟩ := pbd_inv h
      cases h
      obtain ⟨w1, w2⟩ := ih dep _ _ _ h5
      exact ⟨⟨rfl, b, c, (ih dep _ _ _ h1).1, (ih dep _ _ _ h3).1, w1⟩, w2⟩
    rw [if_neg h6] at h
    by_cases h9 : K p = 9
    · rw [if_pos h9] at h
      unfold pLoop at h
      obtain ⟨b, fs, h1, h⟩ := pbd_inv h
      obtain ⟨k3, h⟩ := pw_inv h
      obtain ⟨c, z, h3, h⟩ := pbd_inv h
      obtain ⟨k5, h⟩ := pw_inv h
      obtain ⟨d, ns, h5, h⟩ := pbd_inv h
      obtain ⟨k7, h⟩ := pw_inv h
      obtain ⟨e2, g, h7, h⟩ := pbd_inv h
      cases h
      obtain ⟨w1, w2⟩ := ih dep _ _ _ h7
      obtain ⟨a1, a2⟩ := pB_W (ih dep) _ _ _ _ _ _ h1
      obtain ⟨a3, a4⟩ := pB_W (ih dep) _ _ _ _ _ _ h5
      exact ⟨⟨rfl, b, c, d, a1, a3, a2, (ih dep _ _ _ h3).1, a4, w1⟩, w2⟩
    rw [if_neg h9] at h
    exact (pSg_W (ih dep) (ih (dep + 1)) _ _ _ _ _ _ _ (by omega) h).1 rfl
end PW
