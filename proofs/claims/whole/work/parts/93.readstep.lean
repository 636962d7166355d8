/-! the reference reads: steps -/
/-- the tokens are untouched -/
def TkE (D E : im_S) : Prop := (∀ a j : Nat, 77 ≤ a → a ≤ 79 → E.1 a j = D.1 a j) ∧ ∀ j : Nat, E.2.1 80 j = D.2.1 80 j
theorem TkE_refl (D : im_S) : TkE D D := ⟨fun _ _ _ _ => rfl, fun _ => rfl⟩
theorem TkE_uI {D E : im_S} (g : TkE D E) {a i : Nat} {v : Int32} (h : a < 77 ∨ 79 < a) : TkE D (uI E a i v) := by
  refine ⟨fun b j h1 h2 => ?_, g.2⟩
  rw [uI_at, if_neg (by omega)]
  exact g.1 b j h1 h2
theorem TkE_uJ {D E : im_S} (g : TkE D E) {a i : Nat} {v : Int64} (h : a ≠ 80) : TkE D (uJ E a i v) := by
  refine ⟨g.1, fun j => ?_⟩
  rw [uJ_at, if_neg (fun q => h q.symm)]
  exact g.2 j
section RST
variable {K pl : Nat → Nat} {V : Nat → Int64} {m : Nat} {D E : im_S} {pos dep n r h : Nat}
theorem Rd_of (H : Rd K pl V m D pos dep n r h) (t : TkE D E) {pos' dep' n' r' h' : Nat} (hp : pos' ≤ m) (h10 : E.1 75 10 = nI pos') (h77 : E.1 75 77 = nI dep') (h26 : E.1 75 26 = nI n') (h27 : E.1 75 27 = nI r') (h78 : E.1 75 78 = nI h') (h3 : E.1 75 3 = 0) (ps : Ps K V E) : Rd K pl V m E pos' dep' n' r' h' := by
  refine ⟨fun j hj => ?_, H.2.1, hp, h10, h77, h26, h27, h78, h3, ps⟩
  obtain ⟨a1, a2, a3, a4, a5⟩ := H.1 j hj
  exact ⟨a1, by rw [t.1 77 j (by omega) (by omega)]; exact a2, fun q => by rw [t.1 78 j (by omega) (by omega)]; exact a3 q, by rw [t.1 79 j (by omega) (by omega)]; exact a4, by rw [t.2 j]; exact a5⟩
theorem Rd.at_ (H : Rd K pl V m D pos dep n r h) : D.1 75 10 = nI pos := H.2.2.2.1
theorem Rd.dep_ (H : Rd K pl V m D pos dep n r h) : D.1 75 77 = nI dep := H.2.2.2.2.1
theorem Rd.nod (H : Rd K pl V m D pos dep n r h) : D.1 75 26 = nI n := H.2.2.2.2.2.1
theorem Rd.row (H : Rd K pl V m D pos dep n r h) : D.1 75 27 = nI r := H.2.2.2.2.2.2.1
theorem Rd.hld (H : Rd K pl V m D pos dep n r h) : D.1 75 78 = nI h := H.2.2.2.2.2.2.2.1
theorem Rd.flt (H : Rd K pl V m D pos dep n r h) : D.1 75 3 = 0 := H.2.2.2.2.2.2.2.2.1
theorem Rd.ps (H : Rd K pl V m D pos dep n r h) : Ps K V D := H.2.2.2.2.2.2.2.2.2
/-- room for what the rest of the text can make -/
def Bd (n0 m pos n r h : Nat) : Prop := (n0 ≤ 600 ∧ n0 ≤ n ∧ n0 ≤ r) ∧ n + m < n0 + 600 + pos ∧ r + m < n0 + 600 + pos ∧ h + m < 502 + pos
theorem Bd_n {n0 m pos n r h : Nat} (B : Bd n0 m pos n r h) (hp : pos ≤ m) : n0 ≤ n ∧ n < n0 + 600 := by unfold Bd at B; omega
theorem Bd_r {n0 m pos n r h : Nat} (B : Bd n0 m pos n r h) (hp : pos ≤ m) : n0 ≤ r ∧ r < n0 + 600 := by unfold Bd at B; omega
/-- nothing changed below n, r, h but field a of node k -/
def Ch (D E : im_S) (n r h k a : Nat) : Prop := (∀ b i : Nat, 81 ≤ b → b ≤ 92 → i < n → (i ≠ k ∨ b ≠ a) → E.1 b i = D.1 b i) ∧ (∀ i : Nat, i < n → E.2.1 87 i = D.2.1 87 i) ∧ (∀ i : Nat, i < r → E.1 94 i = D.1 94 i ∧ E.1 95 i = D.1 95 i ∧ E.2.1 93 i = D.2.1 93 i) ∧ ∀ i : Nat, i < h → E.1 132 i = D.1 132 i ∧ E.1 133 i = D.1 133 i
theorem Ch_refl (D : im_S) (n r h k a : Nat) : Ch D D n r h k a := ⟨fun _ _ _ _ _ _ => rfl, fun _ _ => rfl, fun _ _ => ⟨rfl, rfl, rfl⟩, fun _ _ => ⟨rfl, rfl⟩⟩
/-- nothing changed below n, r, h -/
def Kpt (D E : im_S) (n r h : Nat) : Prop := (∀ b i : Nat, 81 ≤ b → b ≤ 92 → i < n → E.1 b i = D.1 b i) ∧ (∀ i : Nat, i < n → E.2.1 87 i = D.2.1 87 i) ∧ (∀ i : Nat, i < r → E.1 94 i = D.1 94 i ∧ E.1 95 i = D.1 95 i ∧ E.2.1 93 i = D.2.1 93 i) ∧ ∀ i : Nat, i < h → E.1 132 i = D.1 132 i ∧ E.1 133 i = D.1 133 i
theorem Kpt_refl (D : im_S) (n r h : Nat) : Kpt D D n r h := ⟨fun _ _ _ _ _ => rfl, fun _ _ => rfl, fun _ _ => ⟨rfl, rfl, rfl⟩, fun _ _ => ⟨rfl, rfl⟩⟩
theorem Kpt_trans {D E G : im_S} {n r h n' r' h' : Nat} (a : Kpt D E n r h) (b : Kpt E G n' r' h') (h1 : n ≤ n') (h2 : r ≤ r') (h3 : h ≤ h') : Kpt D G n r h :=
  ⟨fun c i p q s => (b.1 c i p q (by omega)).trans (a.1 c i p q s), fun i s => (b.2.1 i (by omega)).trans (a.2.1 i s), fun i s => ⟨(b.2.2.1 i (by omega)).1.trans (a.2.2.1 i s).1, (b.2.2.1 i (by omega)).2.1.trans (a.2.2.1 i s).2.1, (b.2.2.1 i (by omega)).2.2.trans (a.2.2.1 i s).2.2⟩, fun i s => ⟨(b.2.2.2 i (by omega)).1.trans (a.2.2.2 i s).1, (b.2.2.2 i (by omega)).2.trans (a.2.2.2 i s).2⟩⟩
theorem Kpt_uI {D E : im_S} {n r h a i : Nat} {v : Int32} (g : Kpt D E n r h) (q : (a < 81 ∨ a = 93 ∨ (95 < a ∧ a < 132) ∨ 133 < a) ∨ (a ≤ 92 ∧ n ≤ i) ∨ ((a = 94 ∨ a = 95) ∧ r ≤ i) ∨ ((a = 132 ∨ a = 133) ∧ h ≤ i)) : Kpt D (uI E a i v) n r h := by
  refine ⟨fun b j p1 p2 p3 => ?_, g.2.1, fun j p => ?_, fun j p => ?_⟩
  · rw [uI_at]
    by_cases e : b = a
    · rw [if_pos e, if_neg (by omega)]; exact g.1 b j p1 p2 p3
    · rw [if_neg e]; exact g.1 b j p1 p2 p3
  · obtain ⟨g1, g2, g3⟩ := g.2.2.1 j p
    refine ⟨?_, ?_, g3⟩
    · rw [uI_at]
      by_cases e : 94 = a
      · rw [if_pos e, if_neg (by omega)]; exact g1
      · rw [if_neg e]; exact g1
    · rw [uI_at]
      by_cases e : 95 = a
      · rw [if_pos e, if_neg (by omega)]; exact g2
      · rw [if_neg e]; exact g2
  · obtain ⟨g1, g2⟩ := g.2.2.2 j p
    refine ⟨?_, ?_⟩
    · rw [uI_at]
      by_cases e : 132 = a
      · rw [if_pos e, if_neg (by omega)]; exact g1
      · rw [if_neg e]; exact g1
    · rw [uI_at]
      by_cases e : 133 = a
      · rw [if_pos e, if_neg (by omega)]; exact g2
      · rw [if_neg e]; exact g2
theorem Kpt_uJ {D E : im_S} {n r h a i : Nat} {v : Int64} (g : Kpt D E n r h) (q : (a = 87 ∧ n ≤ i) ∨ (a = 93 ∧ r ≤ i) ∨ (a ≠ 87 ∧ a ≠ 93)) : Kpt D (uJ E a i v) n r h := by
  refine ⟨g.1, fun j p => ?_, fun j p => ?_, g.2.2.2⟩
  · rw [uJ_at]
    by_cases e : 87 = a
    · rw [if_pos e, if_neg (by omega)]; exact g.2.1 j p
    · rw [if_neg e]; exact g.2.1 j p
  · obtain ⟨g1, g2, g3⟩ := g.2.2.1 j p
    refine ⟨g1, g2, ?_⟩
    rw [uJ_at]
    by_cases e : 93 = a
    · rw [if_pos e, if_neg (by omega)]; exact g3
    · rw [if_neg e]; exact g3
theorem Kpt_ag {D E : im_S} {n r h lo rlo : Nat} (g : Kpt D E n r h) : AgD D E lo n rlo r := ⟨fun a i p q _ s => g.1 a i p q s, fun i _ s => g.2.1 i s, fun i _ s => g.2.2.1 i s⟩
/-- what a reading answers: the place of a token that can't stand there, or a tree that the arrays hold -/
def Out (K pl : Nat → Nat) (V : Nat → Int64) (m : Nat) (D : im_S) (pos dep n r h : Nat) (res : PR) (k : Int32) (E : im_S) : Prop :=
  (res.2 = none → k = -1 ∧ res.1 ≤ m ∧ E.1 75 3 = 1 ∧ E.1 75 4 = nI (pl res.1) ∧ Ps K V E) ∧
  (∀ x, res.2 = some x → ∃ kk n' r' : Nat, k = nI kk ∧ Rd K pl V m E res.1 dep n' r' h ∧ pos < res.1 ∧ n ≤ n' ∧ r ≤ r' ∧ n' + pos ≤ n + res.1 ∧ r' + pos + 1 ≤ r + res.1 ∧ Kpt D E n r h ∧ RepD K pl V E n n' r r' x 0 kk)
/-- a node is made for token j -/
def mkD (D : im_S) (n r : Nat) (c p : Int32) (v : Int64) : im_S := uI (uI (uI (uI (uI (uI (uI (uI (uJ (uI (uI (uI D 75 26 (nI (n + 1))) 81 n c) 82 n p) 87 n v) 83 n (-1)) 84 n (-1)) 85 n (-1)) 86 n 0) 89 n (nI r)) 90 n 0) 91 n (nI r)) 92 n 0
theorem rd_make (H : Rd K pl V m D pos dep n r h) (hn : n < 1200) {j : Nat} (hj : j ≤ m) (c : Int32) : f_X11_make c (nI j) D = some (nI n, mkD D n r c (nI (pl j)) (V j)) := by
  obtain ⟨-, -, -, a4, a5⟩ := H.1 j hj
  have hm := H.2.1
  unfold f_X11_make
  rw [H.nod, H.row, mI_in (a := n) (n := 1200) (by omega) hn, mI_in (a := j) (n := 502) (by omega) (by omega), nI_clamp (show n < 2 ^ 31 by omega), nI_clamp (show j < 2 ^ 31 by omega), a4, a5, show nI n + 1 = nI (n + 1) from nI_add n 1]
  rfl
theorem mk_tk (n r : Nat) (c p : Int32) (v : Int64) : TkE D (mkD D n r c p v) := by
  unfold mkD
  exact TkE_uI (TkE_uI (TkE_uI (TkE_uI (TkE_uI (TkE_uI (TkE_uI (TkE_uI (TkE_uJ (TkE_uI (TkE_uI (TkE_uI (TkE_refl D) (by omega)) (by omega)) (by omega)) (by omega)) (by omega)) (by omega)) (by omega)) (by omega)) (by omega)) (by omega)) (by omega)) (by omega)
theorem mk_kp (n r h : Nat) (c p : Int32) (v : Int64) : Kpt D (mkD D n r c p v) n r h := by
  unfold mkD
  exact Kpt_uI (Kpt_uI (Kpt_uI (Kpt_uI (Kpt_uI (Kpt_uI (Kpt_uI (Kpt_uI (Kpt_uJ (Kpt_uI (Kpt_uI (Kpt_uI (Kpt_refl D n r h) (by omega)) (by omega)) (by omega)) (by omega)) (by omega)) (by omega)) (by omega)) (by omega)) (by omega)) (by omega)) (by omega)) (by omega)
theorem mk_ps (ps : Ps K V D) (hn : K 1000 ≤ n ∧ n < K 1000 + 600) (r : Nat) (c p : Int32) (v : Int64) : Ps K V (mkD D n r c p v) := by
  unfold mkD
  exact Ps_uI (Ps_uI (Ps_uI (Ps_uI (Ps_uI (Ps_uI (Ps_uI (Ps_uI (Ps_uJ (Ps_uI (Ps_uI (Ps_uI ps (Pr_o (by omega))) (Pr_n (by omega) hn)) (Pr_n (by omega) hn)) (Pr_n (by omega) hn)) (Pr_n (by omega) hn)) (Pr_n (by omega) hn)) (Pr_n (by omega) hn)) (Pr_n (by omega) hn)) (Pr_n (by omega) hn)) (Pr_n (by omega) hn)) (Pr_n (by omega) hn)) (Pr_n (by omega) hn)
theorem mk_75 (n r : Nat) (c p : Int32) (v : Int64) (k : Nat) : (mkD D n r c p v).1 75 k = if k = 26 then nI (n + 1) else D.1 75 k := by
  unfold mkD
  simp [uI_at, uJ_1]
theorem mk_m1 (n r : Nat) (c p : Int32) (v : Int64) : (mkD D n r c p v).1 83 n = -1 ∧ (mkD D n r c p v).1 84 n = -1 := by
  unfold mkD
  refine ⟨?_, ?_⟩ <;> simp [uI_at]
theorem mk_f (n r : Nat) (c p : Int32) (v : Int64) : (mkD D n r c p v).1 81 n = c ∧ (mkD D n r c p v).1 82 n = p ∧ (mkD D n r c p v).2.1 87 n = v ∧ (mkD D n r c p v).1 89 n = nI r ∧ (mkD D n r c p v).1 90 n = 0 := by
  unfold mkD
  simp [uI_at, uJ_1, uI_21, uJ_at]
/-- behind make and the step over its token -/
theorem Rd_mk (H : Rd K pl V m D pos dep n r h) (hp : pos < m) (hn : K 1000 ≤ n ∧ n < K 1000 + 600) (c p : Int32) (v : Int64) : Rd K pl V m (adv (mkD D n r c p v) (pos + 1)) (pos + 1) dep (n + 1) r h := by
  unfold adv
  refine Rd_of H (TkE_uI (mk_tk n r c p v) (by omega)) (by omega) ?_ ?_ ?_ ?_ ?_ ?_ (Ps_uI (mk_ps H.ps hn r c p v) (Pr_o (by omega)))
  · rw [uI_at, if_pos rfl, if_pos rfl]
  · rw [uI_at, if_pos rfl, if_neg (by decide), mk_75, if_neg (by decide)]; exact H.dep_
  · rw [uI_at, if_pos rfl, if_neg (by decide), mk_75, if_pos rfl]
  · rw [uI_at, if_pos rfl, if_neg (by decide), mk_75, if_neg (by decide)]; exact H.row
  · rw [uI_at, if_pos rfl, if_neg (by decide), mk_75, if_neg (by decide)]; exact H.hld
  · rw [uI_at, if_pos rfl, if_neg (by decide), mk_75, if_neg (by decide)]; exact H.flt
theorem Rd_adv (H : Rd K pl V m D pos dep n r h) (hp : pos < m) : Rd K pl V m (adv D (pos + 1)) (pos + 1) dep n r h := by
  unfold adv
  refine Rd_of H (TkE_uI (TkE_refl D) (by omega)) (by omega) ?_ ?_ ?_ ?_ ?_ ?_ (Ps_uI H.ps (Pr_o (by omega)))
  · rw [uI_at, if_pos rfl, if_pos rfl]
  · rw [uI_at, if_pos rfl, if_neg (by decide)]; exact H.dep_
  · rw [uI_at, if_pos rfl, if_neg (by decide)]; exact H.nod
  · rw [uI_at, if_pos rfl, if_neg (by decide)]; exact H.row
  · rw [uI_at, if_pos rfl, if_neg (by decide)]; exact H.hld
  · rw [uI_at, if_pos rfl, if_neg (by decide)]; exact H.flt
/-- a field of a node is written -/
theorem Rd_put (H : Rd K pl V m D pos dep n r h) {a i : Nat} {v : Int32} (ha : 81 ≤ a) (hq : ¬ Pr (K 1000) a i) : Rd K pl V m (uI D a i v) pos dep n r h := by
  refine Rd_of H (TkE_uI (TkE_refl D) (by omega)) H.2.2.1 ?_ ?_ ?_ ?_ ?_ ?_ (Ps_uI H.ps hq)
  · rw [uI_at, if_neg (by omega)]; exact H.at_
  · rw [uI_at, if_neg (by omega)]; exact H.dep_
  · rw [uI_at, if_neg (by omega)]; exact H.nod
  · rw [uI_at, if_neg (by omega)]; exact H.row
  · rw [uI_at, if_neg (by omega)]; exact H.hld
  · rw [uI_at, if_neg (by omega)]; exact H.flt
theorem Rd_putJ (H : Rd K pl V m D pos dep n r h) {a i : Nat} {v : Int64} (ha : a ≠ 80) (hq : ¬ Pr (K 1000) a i) : Rd K pl V m (uJ D a i v) pos dep n r h :=
  Rd_of H (TkE_uJ (TkE_refl D) ha) H.2.2.1 H.at_ H.dep_ H.nod H.row H.hld H.flt (Ps_uJ H.ps hq)
theorem rf_flt (D : im_S) (p : Nat) : (rfD pl D p).1 75 3 = 1 ∧ (rfD pl D p).1 75 4 = nI (pl p) := by
  unfold rfD
  simp [uI_at]
theorem Ps_rf (H : Rd K pl V m D pos dep n r h) (p : Nat) : Ps K V (rfD pl D p) := Ps_uI (Ps_uI H.ps (Pr_o (by omega))) (Pr_o (by omega))
theorem rf_fl (H : Rd K pl V m D pos dep n r h) : (rfD pl D pos).1 75 3 = 1 ∧ (rfD pl D pos).1 75 4 = nI (pl pos) ∧ Ps K V (rfD pl D pos) := ⟨(rf_flt D pos).1, (rf_flt D pos).2, Ps_rf H pos⟩
theorem Out_refuse (H : Rd K pl V m D pos dep n r h) {D0 : im_S} {p0 d0 n0 r0 h0 : Nat} : Out K pl V m D0 p0 d0 n0 r0 h0 (pos, none) (-1) (rfD pl D pos) :=
  ⟨fun _ => ⟨rfl, H.2.2.1, (rf_fl H).1, (rf_fl H).2⟩, fun x hx => by cases hx⟩
end RST
