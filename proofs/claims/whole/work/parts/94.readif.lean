/-! the reference reads let and if -/
theorem gd_t {α : Type} (x : Option α) : gd true x = x := rfl
theorem pbd_none {r : PR} {f : Nat → TR → PR} {p : Nat} (h : r = (p, none)) : pbd r f = (p, none) := by rw [h]; rfl
theorem pbd_some {r : PR} {f : Nat → TR → PR} {p : Nat} {x : TR} (h : r = (p, some x)) : pbd r f = f p x := by rw [h]; rfl
theorem ndD_kp {K pl : Nat → Nat} {V : Nat → Int64} {D E : im_S} {n r h c j k : Nat} (g : Kpt D E n r h) (hk : k < n) (q : ndD K pl V D c j k) : ndD K pl V E c j k := ndD_ag (Kpt_ag g (lo := 0) (rlo := 0)) (Nat.zero_le _) hk q
theorem ndD_uI {K pl : Nat → Nat} {V : Nat → Int64} {D : im_S} {c j k a i : Nat} {v : Int32} (ha : a ≠ 81 ∧ a ≠ 82 ∧ a ≠ 86) (q : ndD K pl V D c j k) : ndD K pl V (uI D a i v) c j k := by
  have e1 : (uI D a i v).1 81 k = D.1 81 k := by rw [uI_at, if_neg (fun z => ha.1 z.symm)]
  have e2 : (uI D a i v).1 82 k = D.1 82 k := by rw [uI_at, if_neg (fun z => ha.2.1 z.symm)]
  have e3 : (uI D a i v).1 86 k = D.1 86 k := by rw [uI_at, if_neg (fun z => ha.2.2 z.symm)]
  unfold ndD at q ⊢
  rw [e1, e2, e3, uI_21]
  exact q
theorem RepD_k {K pl : Nat → Nat} {V : Nat → Int64} {D : im_S} {lo hi rlo rhi k : Nat} {x : TR} (e3 : RepD K pl V D lo hi rlo rhi x 0 k) : lo ≤ k ∧ k < hi := by
  cases x with
  | tag c f => unfold RepD at e3; rw [if_pos rfl] at e3; exact ⟨e3.1, e3.2.1⟩
  | append a b => unfold RepD at e3; simp at e3
  | nil => unfold RepD at e3; omega
  | line => exact e3.elim
  | align _ => exact e3.elim
  | text _ => exact e3.elim
  | nest _ _ => exact e3.elim
  | group _ _ => exact e3.elim
theorem nI_m1 {k : Nat} (h : k < 2 ^ 31) : ¬ nI k = -1 := fun q => by
  have e := congrArg Int32.toInt q
  rw [nI_toInt h] at e
  have e2 : (-1 : Int32).toInt = -1 := by decide
  omega
abbrev KT : Type := Nat → Int32 → Int32 → im_S → Option (Int32 × im_S)
section RIF
variable {K pl : Nat → Nat} {V : Nat → Int64} {m : Nat}
/-- F's label lab reads as R says, from p0 on -/
def HX (K pl : Nat → Nat) (V : Nat → Int64) (m : Nat) (F : KT) (lab : Nat) (R : Nat → PR) (dep p0 : Nat) : Prop := ∀ (D : im_S) (pos n r h : Nat), p0 ≤ pos → Rd K pl V m D pos dep n r h → Bd (K 1000) m pos n r h → ∃ (k : Int32) (E : im_S), F lab 0 0 D = some (k, E) ∧ Out K pl V m D pos dep n r h (R pos) k E
theorem K_lt {c pos : Nat} (hKm : K m = 0 ∨ K m = 3) (hp : pos ≤ m) (h : K pos = c) (h0 : c ≠ 0) (h3 : c ≠ 3) : pos < m := by
  rcases Nat.lt_or_ge pos m with q | q
  · exact q
  · have : pos = m := by omega
    subst this
    omega
theorem rd_wantP {D : im_S} {pos dep n r h : Nat} (H : Rd K pl V m D pos dep n r h) (p : Prop) [Decidable p] : f_X11_want (if p then 1 else 0) D = some (if p then 1 else 0, if p then adv D (pos + 1) else rfD pl D pos) := by
  by_cases hp : p
  · simp only [if_pos hp]; exact rd_want H true
  · simp only [if_neg hp]; exact rd_want H false
theorem rd_takesP {D : im_S} {pos dep n r h : Nat} (H : Rd K pl V m D pos dep n r h) (p : Prop) [Decidable p] : f_X11_takes (if p then 1 else 0) D = some (if p then 1 else 0, if p then adv D (pos + 1) else D) := by
  by_cases hp : p
  · simp only [if_pos hp]; exact rd_takes H true
  · simp only [if_neg hp]; exact rd_takes H false
theorem Out_err {D E : im_S} {pos dep n r h p : Nat} (h0 : p ≤ m) (h1 : E.1 75 3 = 1) (h2 : E.1 75 4 = nI (pl p) ∧ Ps K V E) : Out K pl V m D pos dep n r h (p, none) (-1) E := ⟨fun _ => ⟨rfl, h0, h1, h2⟩, fun x hx => by cases hx⟩
theorem mk_adv {D : im_S} {pos dep n r h : Nat} (H : Rd K pl V m D pos dep n r h) (c p : Int32) (v : Int64) : uI (mkD D n r c p v) 75 10 ((mkD D n r c p v).1 75 10 + 1) = adv (mkD D n r c p v) (pos + 1) := by
  unfold adv
  rw [mk_75, if_neg (by decide), H.at_, show nI pos + 1 = nI (pos + 1) from nI_add pos 1]
theorem Kpt_adv {D E : im_S} {n r h p : Nat} (g : Kpt D E n r h) : Kpt D (adv E p) n r h := Kpt_uI g (Or.inl (Or.inl (by decide)))
/-- an X is read and becomes field a of node k -/
theorem stX {F : KT} {lab : Nat} {R : Nat → PR} {D : im_S} {dep p0 pos n r h k a : Nat} (hX : HX K pl V m F lab R dep p0) (hp0 : p0 ≤ pos) (H : Rd K pl V m D pos dep n r h) (B : Bd (K 1000) m pos n r h) (hk : k < n) (hkl : K 1000 ≤ k) (ha : a = 83 ∨ a = 84 ∨ a = 85) :
    (∃ (b : Nat) (E : im_S), R pos = (b, none) ∧ F lab 0 0 D = some (-1, E) ∧ b ≤ m ∧ (uI E a k (-1)).1 75 3 = 1 ∧ (uI E a k (-1)).1 75 4 = nI (pl b) ∧ Ps K V (uI E a k (-1))) ∨
    (∃ (b : Nat) (x : TR) (kk n' r' : Nat) (E : im_S), R pos = (b, some x) ∧ F lab 0 0 D = some (nI kk, E) ∧ kk < 1200 ∧ Rd K pl V m (uI E a k (nI kk)) b dep n' r' h ∧ Bd (K 1000) m b n' r' h ∧ pos < b ∧ b ≤ m ∧ n ≤ n' ∧ r ≤ r' ∧ n' + pos ≤ n + b ∧ r' + pos + 1 ≤ r + b ∧ Kpt D (uI E a k (nI kk)) k r h ∧ (uI E a k (nI kk)).1 a k = nI kk ∧ (∀ c, 81 ≤ c → c ≤ 92 → c ≠ a → (uI E a k (nI kk)).1 c k = D.1 c k) ∧ (uI E a k (nI kk)).2.1 87 k = D.2.1 87 k ∧ AgD D (uI E a k (nI kk)) (k + 1) n 0 r ∧ RepD K pl V (uI E a k (nI kk)) n n' r r' x 0 kk) := by
  obtain ⟨k1, E, f1, o1⟩ := hX D pos n r h hp0 H B
  have hkr : K 1000 ≤ k ∧ k < K 1000 + 600 := by have := Bd_n B H.2.2.1; omega
  rcases hr : R pos with ⟨b, _ | x⟩
  · left
    rw [hr] at o1
    obtain ⟨rfl, q1, q2, q3⟩ := o1.1 rfl
    exact ⟨b, E, rfl, f1, q1, by rw [uI_at, if_neg (by omega)]; exact q2, by rw [uI_at, if_neg (by omega)]; exact q3.1, Ps_uI q3.2 (Pr_n (by omega) hkr)⟩
  · right
    rw [hr] at o1
    obtain ⟨kk, n', r', rfl, R1, p1, m1, m2, m3, m4, kp, rep⟩ := o1.2 x rfl
    obtain ⟨g1, g2⟩ := RepD_k rep
    have hb : b ≤ m := R1.2.2.1
    unfold Bd at B ⊢
    have p1' : pos < b := p1
    have m3' : n' + pos ≤ n + b := m3
    have m4' : r' + pos + 1 ≤ r + b := m4
    refine ⟨b, x, kk, n', r', E, rfl, f1, by omega, Rd_put R1 (by omega) (Pr_n (by omega) hkr), ⟨by omega, by omega, by omega, by omega⟩, p1', hb, m1, m2, m3', m4', ?_, ?_, fun c c1 c2 c3 => ?_, ?_, ?_, ?_⟩
    · exact Kpt_uI ⟨fun b i p q s => kp.1 b i p q (by omega), fun i s => kp.2.1 i (by omega), kp.2.2.1, kp.2.2.2⟩ (Or.inr (Or.inl ⟨by omega, Nat.le_refl _⟩))
    · rw [uI_at, if_pos rfl, if_pos rfl]
    · rw [uI_at, if_neg c3]; exact kp.1 c k c1 c2 hk
    · exact kp.2.1 k hk
    · refine ⟨fun c i q1 q2 q3 q4 => ?_, fun i q3 q4 => kp.2.1 i q4, fun i _ q4 => ?_⟩
      · rw [uI_at]
        by_cases e : c = a
        · rw [if_pos e, if_neg (by omega)]; exact kp.1 c i q1 q2 q4
        · rw [if_neg e]; exact kp.1 c i q1 q2 q4
      · rw [uI_at, uI_at, if_neg (by omega), if_neg (by omega), uI_21]; exact kp.2.2.1 i q4
    · refine RepD_mono (D := E) (E := uI E a k (nI kk)) (lo := n) (hi := n') (rlo := r) (rhi := r') ⟨fun c i q1 q2 q3 q4 => ?_, fun i _ _ => rfl, fun i _ _ => ?_⟩ (Nat.le_refl _) (Nat.le_refl _) (Nat.le_refl _) (Nat.le_refl _) x 0 kk ⟨fun q => by omega, fun q => by omega⟩ rep
      · rw [uI_at]
        by_cases e : c = a
        · rw [if_pos e, if_neg (by omega)]
        · rw [if_neg e]
      · rw [uI_at, uI_at, if_neg (by omega), if_neg (by omega), uI_21]
        exact ⟨rfl, rfl, rfl⟩
theorem ndD_mk {D : im_S} {n r j : Nat} (c : Nat) (hc : c ≠ 2) (hc5 : c ≠ 5) (hc8 : c ≠ 8) (hc9 : c ≠ 9) : ndD K pl V (mkD D n r (nI c) (nI (pl j)) (V j)) c j n := by
  obtain ⟨a1, a2, a3, -, -⟩ := mk_f (D := D) n r (nI c) (nI (pl j)) (V j)
  exact ⟨a1, fun _ _ => a2, fun _ => a3, fun q => absurd q hc, fun q => absurd q hc5, fun q => by omega⟩
/-- a node's own fields stay while its children come -/
theorem ndD_st {D E : im_S} {c j k : Nat} (q : ndD K pl V D c j k) (h1 : E.1 81 k = D.1 81 k) (h2 : E.1 82 k = D.1 82 k) (h3 : E.1 86 k = D.1 86 k) (h4 : E.2.1 87 k = D.2.1 87 k) : ndD K pl V E c j k := by
  unfold ndD at q ⊢
  rw [h1, h2, h3, h4]
  exact q
/-- node n0 of label c, token j, was made over D0; now the reading stands at pos -/
def Pg (K pl : Nat → Nat) (V : Nat → Int64) (m : Nat) (D0 : im_S) (n0 r0 h c j : Nat) (D : im_S) (pos dep n r : Nat) : Prop :=
  Rd K pl V m D pos dep n r h ∧ (Bd (K 1000) m pos n r h ∧ K 1000 ≤ n0) ∧ n0 < n ∧ r0 ≤ r ∧ j < pos ∧ n + j ≤ n0 + pos ∧ r + j + 1 ≤ r0 + pos ∧ Kpt D0 D n0 r0 h ∧ ndD K pl V D c j n0
/-- what a step leaves of node n0's fields but a, and of all that hangs on it -/
def Tr (K pl : Nat → Nat) (V : Nat → Int64) (n0 r0 : Nat) (D : im_S) (n r : Nat) (E : im_S) (n' r' a : Nat) : Prop :=
  (∀ c, 83 ≤ c → c ≤ 92 → c ≠ 86 → c ≠ a → E.1 c n0 = D.1 c n0) ∧ (∀ i : Nat, i < r → E.1 94 i = D.1 94 i ∧ E.1 95 i = D.1 95 i ∧ E.2.1 93 i = D.2.1 93 i) ∧ n ≤ n' ∧ r ≤ r' ∧ ∀ (f : TR) (md k : Nat), (md = 0 ∨ md = 101 ∨ md = 102) → RepD K pl V D (n0 + 1) n r0 r f md k → RepD K pl V E (n0 + 1) n' r0 r' f md k
theorem Tr.fld {n0 r0 n r n' r' a : Nat} {D E : im_S} (T : Tr K pl V n0 r0 D n r E n' r' a) (c : Nat) (h1 : 83 ≤ c) (h2 : c ≤ 92) (h3 : c ≠ 86) (h4 : c ≠ a) : E.1 c n0 = D.1 c n0 := T.1 c h1 h2 h3 h4
theorem Tr.rws {n0 r0 n r n' r' a : Nat} {D E : im_S} (T : Tr K pl V n0 r0 D n r E n' r' a) (i : Nat) (h : i < r) : E.1 94 i = D.1 94 i ∧ E.1 95 i = D.1 95 i ∧ E.2.1 93 i = D.2.1 93 i := T.2.1 i h
theorem Tr.nn {n0 r0 n r n' r' a : Nat} {D E : im_S} (T : Tr K pl V n0 r0 D n r E n' r' a) : n ≤ n' := T.2.2.1
theorem Tr.rr {n0 r0 n r n' r' a : Nat} {D E : im_S} (T : Tr K pl V n0 r0 D n r E n' r' a) : r ≤ r' := T.2.2.2.1
theorem Tr.rep {n0 r0 n r n' r' a : Nat} {D E : im_S} (T : Tr K pl V n0 r0 D n r E n' r' a) (f : TR) (md k : Nat) (h : md = 0 ∨ md = 101 ∨ md = 102) (q : RepD K pl V D (n0 + 1) n r0 r f md k) : RepD K pl V E (n0 + 1) n' r0 r' f md k := T.2.2.2.2 f md k h q
theorem Tr_refl (n0 r0 : Nat) (D : im_S) (n r a : Nat) : Tr K pl V n0 r0 D n r D n r a := ⟨fun _ _ _ _ _ => rfl, fun _ _ => ⟨rfl, rfl, rfl⟩, Nat.le_refl _, Nat.le_refl _, fun _ _ _ _ h => h⟩
theorem pg_new {D : im_S} {pos dep n r h : Nat} (H : Rd K pl V m D pos dep n r h) (B : Bd (K 1000) m pos n r h) (hp : pos < m) (c : Nat) (h2 : c ≠ 2) (h5 : c ≠ 5) (h8 : c ≠ 8) (h9 : c ≠ 9) : Pg K pl V m D n r h c pos (adv (mkD D n r (nI c) (nI (pl pos)) (V pos)) (pos + 1)) (pos + 1) dep (n + 1) r :=
  ⟨Rd_mk H hp (Bd_n B H.2.2.1) _ _ _, ⟨by unfold Bd at B ⊢; omega, (Bd_n B H.2.2.1).1⟩, by omega, Nat.le_refl _, by omega, by omega, by omega, Kpt_adv (mk_kp n r h _ _ _), ndD_uI ⟨by decide, by decide, by decide⟩ (ndD_mk c h2 h5 h8 h9)⟩
theorem pg_adv {D0 D : im_S} {n0 r0 h c j pos dep n r : Nat} (P : Pg K pl V m D0 n0 r0 h c j D pos dep n r) (hp : pos < m) : Pg K pl V m D0 n0 r0 h c j (adv D (pos + 1)) (pos + 1) dep n r ∧ Tr K pl V n0 r0 D n r (adv D (pos + 1)) n r 0 := by
  obtain ⟨H, ⟨B, hl⟩, a1, a2, a3, a4, a5, kp, nd⟩ := P
  refine ⟨⟨Rd_adv H hp, ⟨by unfold Bd at B ⊢; omega, hl⟩, a1, a2, by omega, by omega, by omega, Kpt_adv kp, ndD_uI ⟨by decide, by decide, by decide⟩ nd⟩, fun c c1 c2 _ _ => ?_, fun i _ => ?_, Nat.le_refl _, Nat.le_refl _, fun f md k hmd rep => ?_⟩
  · unfold adv; rw [uI_at, if_neg (by omega)]
  · unfold adv; rw [uI_at, uI_at, if_neg (by decide), if_neg (by decide)]; exact ⟨rfl, rfl, rfl⟩
  · exact RepD_mono (D := D) (Kpt_ag (h := 0) (Kpt_adv (Kpt_refl D n r 0))) (Nat.le_refl _) (Nat.le_refl _) (Nat.le_refl _) (Nat.le_refl _) f md k ⟨fun q q2 => by omega, fun q => by omega⟩ rep
theorem pg_x {F : KT} {lab : Nat} {R : Nat → PR} {D0 D : im_S} {n0 r0 h c j pos dep n r p0 a : Nat} (hX : HX K pl V m F lab R dep p0) (hp0 : p0 ≤ pos) (P : Pg K pl V m D0 n0 r0 h c j D pos dep n r) (ha : a = 83 ∨ a = 84 ∨ a = 85) :
    (∃ (b : Nat) (E : im_S), R pos = (b, none) ∧ F lab 0 0 D = some (-1, E) ∧ b ≤ m ∧ (uI E a n0 (-1)).1 75 3 = 1 ∧ (uI E a n0 (-1)).1 75 4 = nI (pl b) ∧ Ps K V (uI E a n0 (-1))) ∨
    (∃ (b : Nat) (x : TR) (kk n' r' : Nat) (E : im_S), R pos = (b, some x) ∧ F lab 0 0 D = some (nI kk, E) ∧ kk < 1200 ∧ Pg K pl V m D0 n0 r0 h c j (uI E a n0 (nI kk)) b dep n' r' ∧ Tr K pl V n0 r0 D n r (uI E a n0 (nI kk)) n' r' a ∧ (uI E a n0 (nI kk)).1 a n0 = nI kk ∧ RepD K pl V (uI E a n0 (nI kk)) (n0 + 1) n' r0 r' x 0 kk) := by
  obtain ⟨H, ⟨B, hl⟩, a1, a2, a3, a4, a5, kp, nd⟩ := P
  rcases stX (k := n0) hX hp0 H B a1 hl ha with q | ⟨b, x, k1, n1, r1, E, q1, q2, q3, H2, B2, l1, l2, l3, l4, l5, l6, kp2, f83, fo, f87, ag, rep1⟩
  · exact Or.inl q
  · refine Or.inr ⟨b, x, k1, n1, r1, E, q1, q2, q3, ⟨H2, ⟨B2, hl⟩, by omega, by omega, by omega, by omega, by omega, ?_, ?_⟩, ⟨fun c c1 c2 c4 c3 => fo c (by omega) c2 c3, fun i hi => kp2.2.2.1 i hi, l3, l4, fun f md k hmd rep => ?_⟩, f83, ?_⟩
    · exact Kpt_trans kp kp2 (Nat.le_refl _) a2 (Nat.le_refl _)
    · exact ndD_st nd (fo 81 (by decide) (by decide) (by omega)) (fo 82 (by decide) (by decide) (by omega)) (fo 86 (by decide) (by decide) (by omega)) f87
    · exact RepD_mono (D := D) (rlo := r0) ⟨ag.1, ag.2.1, fun i _ q => ag.2.2 i (Nat.zero_le _) q⟩ (Nat.le_refl _) l3 (Nat.le_refl _) l4 f md k ⟨fun q q2 => by omega, fun q => by omega⟩ rep
    · exact RepD_mono (D := uI E a n0 (nI k1)) (lo := n) (hi := n1) (rlo := r) (rhi := r1) ⟨fun _ _ _ _ _ _ => rfl, fun _ _ _ => rfl, fun _ _ _ => ⟨rfl, rfl, rfl⟩⟩ (by omega) (Nat.le_refl _) a2 (Nat.le_refl _) x 0 k1 ⟨fun q => by omega, fun q => by omega⟩ rep1
/-- a token is wanted -/
theorem pg_want (hKm : K m = 0 ∨ K m = 3) {D0 D : im_S} {n0 r0 h c j pos dep n r : Nat} (P : Pg K pl V m D0 n0 r0 h c j D pos dep n r) {w : Nat} (h0 : w ≠ 0) (h3 : w ≠ 3) (hk : K pos = w) : Pg K pl V m D0 n0 r0 h c j (adv D (pos + 1)) (pos + 1) dep n r ∧ Tr K pl V n0 r0 D n r (adv D (pos + 1)) n r 0 :=
  pg_adv P (K_lt hKm P.1.2.2.1 hk h0 h3)
/-- the end -/
theorem pg_out {D0 D : im_S} {n0 r0 h c j pos dep n r : Nat} (P : Pg K pl V m D0 n0 r0 h c j D pos dep n r) (hn : n0 < 1200) {x : TR} (rep : RepD K pl V D n0 n r0 r x 0 n0) : Out K pl V m D0 j dep n0 r0 h (pos, some x) (nI n0) D := by
  obtain ⟨H, ⟨B, hl⟩, a1, a2, a3, a4, a5, kp, nd⟩ := P
  refine ⟨(fun q => by cases q), fun y hy => ?_⟩
  cases hy
  exact ⟨n0, n, r, rfl, H, a3, by omega, a2, a4, a5, kp, rep⟩
theorem RepD_up {D : im_S} {n0 n r0 r : Nat} {x : TR} {md k : Nat} (hmd : md = 0 ∨ md = 101 ∨ md = 102) (h : RepD K pl V D (n0 + 1) n r0 r x md k) : RepD K pl V D n0 n r0 r x md k :=
  RepD_mono (D := D) ⟨fun _ _ _ _ _ _ => rfl, fun _ _ _ => rfl, fun _ _ _ => ⟨rfl, rfl, rfl⟩⟩ (by omega) (Nat.le_refl _) (Nat.le_refl _) (Nat.le_refl _) x md k ⟨fun q q2 => by omega, fun q => by omega⟩ h
theorem RepD_if {D : im_S} {lo hi rlo rhi j k k1 k2 k3 : Nat} {x y z : TR} (h1 : lo ≤ k) (h2 : k < hi) (nd : ndD K pl V D 6 j k) (e1 : D.1 83 k = nI k1) (e2 : D.1 84 k = nI k2) (e3 : D.1 85 k = nI k3) (r1 : RepD K pl V D lo hi rlo rhi x 0 k1) (r2 : RepD K pl V D lo hi rlo rhi y 0 k2) (r3 : RepD K pl V D lo hi rlo rhi z 0 k3) : RepD K pl V D lo hi rlo rhi (aIf j x y z) 0 k := by
  unfold aIf
  simp only [RepD]
  simp
  exact ⟨h1, h2, nd, ⟨k1, e1, r1⟩, k2, e2, k3, e3, r2, r3⟩
theorem RepD_let {D : im_S} {lo hi rlo rhi j k k1 k2 : Nat} {x y : TR} (h1 : lo ≤ k) (h2 : k < hi) (nd : ndD K pl V D 5 j k) (e1 : D.1 83 k = nI k1) (e2 : D.1 84 k = nI k2) (r1 : RepD K pl V D lo hi rlo rhi x 0 k1) (r2 : RepD K pl V D lo hi rlo rhi y 0 k2) : RepD K pl V D lo hi rlo rhi (aLet j x y) 0 k := by
  unfold aLet
  simp only [RepD]
  simp
  exact ⟨h1, h2, nd, k1, e1, k2, e2, r1, r2⟩
theorem r_if (hKm : K m = 0 ∨ K m = 3) {F : KT} {R : Nat → PR} {D : im_S} {pos dep n r h : Nat} (hX : HX K pl V m F 0 R dep (pos + 1)) (H : Rd K pl V m D pos dep n r h) (B : Bd (K 1000) m pos n r h) (hk : K pos = 6) (fu : Nat) : ∃ (k : Int32) (E : im_S), f_X11_readIf F fu D = some (k, E) ∧ Out K pl V m D pos dep n r h (pIf K R pos) k E := by
  have hp : pos < m := K_lt hKm H.2.2.1 hk (by decide) (by decide)
  have hm := H.2.1
  have hn : n < 1200 := by unfold Bd at B; omega
  have hb : in_b (nI n) 1200 = true := mI_in (by omega) hn
  have hcl : (nI n).toNatClampNeg = n := nI_clamp (by omega)
  have P1 := pg_new H B hp 6 (by decide) (by decide) (by decide) (by decide)
  unfold f_X11_readIf
  rw [H.at_, rd_make H hn (by omega) 6]
  simp only [Option.bind_some, mk_adv H]
  change Pg K pl V m D n r h 6 pos (adv (mkD D n r 6 (nI (pl pos)) (V pos)) (pos + 1)) (pos + 1) dep (n + 1) r at P1
  generalize adv (mkD D n r 6 (nI (pl pos)) (V pos)) (pos + 1) = D1 at *
  unfold pIf
  rcases pg_x (a := 83) hX (Nat.le_refl _) P1 (by omega) with ⟨b, E, q1, q2, q3, q4, q5⟩ | ⟨b, x, k1, n1, r1, E, q1, q2, q3, P2, T2, f1, g1⟩
  · rw [pbd_none q1]
    refine ⟨-1, uI E 83 n (-1), ?_, Out_err q3 q4 q5⟩
    simp only [q2, Option.bind_some, hb, hcl, gd_t, pk_us, if_pos]
  rw [pbd_some q1]
  simp only [q2, Option.bind_some, hb, hcl, gd_t, pk_us, if_neg (nI_m1 (show k1 < 2 ^ 31 by omega)), rd_word P2.1 4 (by decide) (by decide), show (4 : Int32) = nI 4 from rfl, rd_wantP P2.1]
  generalize uI E 83 n (nI k1) = D2 at *
  unfold pw
  by_cases h7 : ¬ K b = 3 + 4
  · refine ⟨-1, rfD pl D2 b, ?_, ?_⟩
    · simp only [if_neg h7]
      rfl
    · rw [if_neg (by omega)]; exact Out_refuse P2.1
  have h7 : K b = 3 + 4 := Decidable.not_not.mp h7
  obtain ⟨P3, T3⟩ := pg_want hKm P2 (by decide) (by decide) h7
  rw [if_pos (show K b = 7 by omega)]
  simp only [if_pos h7]
  generalize adv D2 (b + 1) = D3 at *
  rcases pg_x (a := 84) hX (by have := P2.2.2.2.2.1; omega) P3 (by omega) with ⟨b2, E2, q1, q2, q3, q4, q5⟩ | ⟨b2, y, k2, n2, r2, E2, q1, q2, q3, P4, T4, f2, g2⟩
  · rw [pbd_none q1]
    refine ⟨-1, uI E2 84 n (-1), ?_, Out_err q3 q4 q5⟩
    simp only [q2, Option.bind_some, hb, hcl, gd_t, pk_us, if_pos]
    rfl
  rw [pbd_some q1]
  simp only [q2, Option.bind_some, hb, hcl, gd_t, pk_us, if_neg (nI_m1 (show k2 < 2 ^ 31 by omega)), rd_word P4.1 5 (by decide) (by decide), show (5 : Int32) = nI 5 from rfl, rd_wantP P4.1]
  generalize uI E2 84 n (nI k2) = D4 at *
  by_cases h8 : ¬ K b2 = 3 + 5
  · refine ⟨-1, rfD pl D4 b2, ?_, ?_⟩
    · simp only [if_neg h8]
      rfl
    · rw [if_neg (by omega)]; exact Out_refuse P4.1
  have h8 : K b2 = 3 + 5 := Decidable.not_not.mp h8
  obtain ⟨P5, T5⟩ := pg_want hKm P4 (by decide) (by decide) h8
  rw [if_pos (show K b2 = 8 by omega)]
  simp only [if_pos h8]
  generalize adv D4 (b2 + 1) = D5 at *
  rcases pg_x (a := 85) hX (by have := P4.2.2.2.2.1; omega) P5 (by omega) with ⟨b3, E3, q1, q2, q3, q4, q5⟩ | ⟨b3, z, k3, n3, r3, E3, q1, q2, q3, P6, T6, f3, g3⟩
  · rw [pbd_none q1]
    refine ⟨-1, uI E3 85 n (-1), ?_, Out_err q3 q4 q5⟩
    simp only [q2, Option.bind_some, hb, hcl, gd_t, pk_us]
    rfl
  rw [pbd_some q1]
  refine ⟨nI n, uI E3 85 n (nI k3), ?_, pg_out P6 hn ?_⟩
  · simp only [q2, Option.bind_some, hb, hcl, gd_t, pk_us, if_pos (nI_m1 (show k3 < 2 ^ 31 by omega))]
    rfl
  · refine RepD_if (Nat.le_refl _) P6.2.2.1 P6.2.2.2.2.2.2.2.2 (k1 := k1) (k2 := k2) (k3 := k3) ?_ ?_ f3 (RepD_up (.inl rfl) (T6.rep x 0 k1 (.inl rfl) (T5.rep x 0 k1 (.inl rfl) (T4.rep x 0 k1 (.inl rfl) (T3.rep x 0 k1 (.inl rfl) g1))))) (RepD_up (.inl rfl) (T6.rep y 0 k2 (.inl rfl) (T5.rep y 0 k2 (.inl rfl) g2))) (RepD_up (.inl rfl) g3)
    · rw [T6.fld 83 (by decide) (by decide) (by decide) (by decide), T5.fld 83 (by decide) (by decide) (by decide) (by decide), T4.fld 83 (by decide) (by decide) (by decide) (by decide), T3.fld 83 (by decide) (by decide) (by decide) (by decide)]
      exact f1
    · rw [T6.fld 84 (by decide) (by decide) (by decide) (by decide), T5.fld 84 (by decide) (by decide) (by decide) (by decide)]
      exact f2
end RIF
