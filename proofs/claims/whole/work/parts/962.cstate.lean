/-! the class's parser: its state, and what each small step leaves of it -/
def FS (S : im_S) (f : Nat) : Prop := FSg (S.1 5 0) (S.1 5 1) f
/-- the counts are as the tokens so far made them -/
def ex (N : Nat → Nat) (pos v : Nat) : Nat → Nat := fun i => if i ≤ pos then N i else v
theorem ex_le {N : Nat → Nat} {pos v i : Nat} (h : i ≤ pos) : ex N pos v i = N i := if_pos h
theorem ex_gt {N : Nat → Nat} {pos v i : Nat} (h : pos < i) : ex N pos v i = v := if_neg (by omega)
def Gh (N M L : Nat → Nat) (pos n ρ τ : Nat) (γ : List Nat) : Prop := N pos = n ∧ M pos = ρ ∧ L pos = τ ∧ Mn N M L pos ∧ ∀ b, b ∈ γ → b < pos ∧ N b < n
theorem Gh_ex {N M L : Nat → Nat} {pos n ρ τ n1 ρ1 τ1 : Nat} {γ : List Nat} (h : Gh N M L pos n ρ τ γ) (h1 : n ≤ n1) (h2 : ρ ≤ ρ1) (h3 : τ ≤ τ1) : Gh (ex N pos n1) (ex M pos ρ1) (ex L pos τ1) (pos + 1) n1 ρ1 τ1 γ ∧ Ag N M L (ex N pos n1) (ex M pos ρ1) (ex L pos τ1) pos := by
  obtain ⟨a1, a2, a3, a4, a5⟩ := h
  refine ⟨⟨ex_gt (by omega), ex_gt (by omega), ex_gt (by omega), fun i j hi hj => ?_, fun b hb => ?_⟩, fun j hj => ⟨ex_le hj, ex_le hj, ex_le hj⟩⟩
  · by_cases hjp : j ≤ pos
    · rw [ex_le (by omega), ex_le hjp, ex_le (by omega), ex_le hjp, ex_le (by omega), ex_le hjp]
      exact a4 i j hi hjp
    · rw [ex_gt (N := N) (i := j) (by omega), ex_gt (N := M) (i := j) (by omega), ex_gt (N := L) (i := j) (by omega)]
      by_cases hip : i ≤ pos
      · rw [ex_le hip, ex_le hip, ex_le hip]
        have := a4 i pos hip (Nat.le_refl _)
        omega
      · rw [ex_gt (by omega), ex_gt (by omega), ex_gt (by omega)]
        omega
  · have := a5 b hb
    rw [ex_le (by omega)]
    omega
theorem Gh_mem {N M L : Nat → Nat} {pos n ρ τ b : Nat} {γ : List Nat} (h : Gh N M L pos n ρ τ γ) (hb : b < pos) (hn : N b < n) : Gh N M L pos n ρ τ (b :: γ) := by
  obtain ⟨a1, a2, a3, a4, a5⟩ := h
  refine ⟨a1, a2, a3, a4, fun c hc => ?_⟩
  rcases List.mem_cons.mp hc with q | q
  · rw [q]; exact ⟨hb, hn⟩
  · exact a5 c q
theorem Gh_sub {N M L : Nat → Nat} {pos n ρ τ : Nat} {γ δ : List Nat} (h : Gh N M L pos n ρ τ γ) (hs : ∀ b, b ∈ δ → b ∈ γ) : Gh N M L pos n ρ τ δ := ⟨h.1, h.2.1, h.2.2.1, h.2.2.2.1, fun b hb => h.2.2.2.2 b (hs b hb)⟩
/-- nothing of before is changed: nodes below n, regions below ρ but for R's leaves, the open below sz, the known below kn -/
def Fr (S S' : im_S) (n ρ τ sz kn R : Nat) : Prop :=
  (∀ a k : Nat, 7 ≤ a → a ≤ 20 → k < n → S'.1 a k = S.1 a k) ∧ (∀ k : Nat, k < n → S'.2.1 21 k = S.2.1 21 k) ∧ (∀ r : Nat, r < ρ → S'.1 27 r = S.1 27 r ∧ (r ≠ R → S'.1 26 r = S.1 26 r)) ∧ (∀ t : Nat, t < τ → S'.1 29 t = S.1 29 t) ∧ (∀ a i : Nat, 35 ≤ a → a ≤ 37 → i < sz → S'.1 a i = S.1 a i) ∧ (∀ i : Nat, i < kn → S'.1 4 i = S.1 4 i) ∧ S'.1 22 3 = S.1 22 3 ∧ ∀ i : Nat, S'.1 24 i = S.1 24 i ∧ S'.1 25 i = S.1 25 i ∧ S'.2.1 23 i = S.2.1 23 i
theorem Fr_refl (S : im_S) (n ρ τ sz kn R : Nat) : Fr S S n ρ τ sz kn R := ⟨fun _ _ _ _ _ => rfl, fun _ _ => rfl, fun _ _ => ⟨rfl, fun _ => rfl⟩, fun _ _ => rfl, fun _ _ _ _ _ => rfl, fun _ _ => rfl, rfl, fun _ => ⟨rfl, rfl, rfl⟩⟩
theorem Fr_trans {S S1 S2 : im_S} {n ρ τ sz kn R n1 ρ1 τ1 sz1 kn1 R1 : Nat} (a : Fr S S1 n ρ τ sz kn R) (b : Fr S1 S2 n1 ρ1 τ1 sz1 kn1 R1) (h1 : n ≤ n1) (h2 : ρ ≤ ρ1) (h3 : τ ≤ τ1) (h4 : sz ≤ sz1) (h5 : kn ≤ kn1) (h6 : R1 = R ∨ ρ ≤ R1) : Fr S S2 n ρ τ sz kn R := by
  obtain ⟨a1, a2, a3, a4, a5, a6, a7, a8⟩ := a
  obtain ⟨b1, b2, b3, b4, b5, b6, b7, b8⟩ := b
  refine ⟨fun x k p q r => (b1 x k p q (by omega)).trans (a1 x k p q r), fun k r => (b2 k (by omega)).trans (a2 k r), fun r hr => ⟨((b3 r (by omega)).1).trans (a3 r hr).1, fun hR => ((b3 r (by omega)).2 (by omega)).trans ((a3 r hr).2 hR)⟩, fun t ht => (b4 t (by omega)).trans (a4 t ht), fun x i p q r => (b5 x i p q (by omega)).trans (a5 x i p q r), fun i r => (b6 i (by omega)).trans (a6 i r), b7.trans a7, fun i => ⟨(b8 i).1.trans (a8 i).1, (b8 i).2.1.trans (a8 i).2.1, (b8 i).2.2.trans (a8 i).2.2⟩⟩
/-- a place that Fr does not keep -/
def nFr (n ρ τ sz kn R a j : Nat) : Prop := (a < 7 ∨ 20 < a ∨ n ≤ j) ∧ (a ≠ 27 ∨ ρ ≤ j) ∧ (a ≠ 26 ∨ ρ ≤ j ∨ j = R) ∧ (a ≠ 29 ∨ τ ≤ j) ∧ (a < 35 ∨ 37 < a ∨ sz ≤ j) ∧ (a ≠ 4 ∨ kn ≤ j) ∧ (a ≠ 22 ∨ j ≠ 3) ∧ a ≠ 24 ∧ a ≠ 25
theorem Fr_uI {S S' : im_S} {n ρ τ sz kn R a j : Nat} {v : Int32} (h : Fr S S' n ρ τ sz kn R) (q : nFr n ρ τ sz kn R a j) : Fr S (uI S' a j v) n ρ τ sz kn R := by
  obtain ⟨a1, a2, a3, a4, a5, a6, a7, a8⟩ := h
  obtain ⟨q1, q2, q3, q4, q5, q6, q7, q8, q9⟩ := q
  refine ⟨fun x k u1 u2 u3 => ?_, a2, fun r hr => ⟨?_, fun hR => ?_⟩, fun t ht => ?_, fun x i u1 u2 u3 => ?_, fun i hi => ?_, ?_, fun i => ⟨?_, ?_, (a8 i).2.2⟩⟩
  · rw [uI_ne (by omega)]; exact a1 x k u1 u2 u3
  · rw [uI_ne (by omega)]; exact (a3 r hr).1
  · rw [uI_ne (by omega)]; exact (a3 r hr).2 hR
  · rw [uI_ne (by omega)]; exact a4 t ht
  · rw [uI_ne (by omega)]; exact a5 x i u1 u2 u3
  · rw [uI_ne (by omega)]; exact a6 i hi
  · rw [uI_ne (by omega)]; exact a7
  · rw [uI_ne (by omega)]; exact (a8 i).1
  · rw [uI_ne (by omega)]; exact (a8 i).2.1
theorem Fr_uJ {S S' : im_S} {n ρ τ sz kn R a j : Nat} {v : Int64} (h : Fr S S' n ρ τ sz kn R) (q : (a ≠ 21 ∨ n ≤ j) ∧ a ≠ 23) : Fr S (uJ S' a j v) n ρ τ sz kn R := by
  obtain ⟨a1, a2, a3, a4, a5, a6, a7, a8⟩ := h
  exact ⟨a1, fun k hk => by rw [uJ_ne (by omega)]; exact a2 k hk, a3, a4, a5, a6, a7, fun i => ⟨(a8 i).1, (a8 i).2.1, by rw [uJ_ne (by omega)]; exact (a8 i).2.2⟩⟩
/-- what Pz reads -/
def nPz (a j : Nat) : Prop := a ≠ 31 ∧ a ≠ 32 ∧ a ≠ 4 ∧ (a ≠ 3 ∨ (j ≠ 5 ∧ j ≠ 6 ∧ j ≠ 9)) ∧ (a ≠ 34 ∨ j ≠ 3) ∧ (a ≠ 6 ∨ j ≠ 16) ∧ (a ≠ 22 ∨ (j ≠ 6 ∧ j ≠ 9))
section CST
variable {K pl : Nat → Nat} {V : Nat → Int64} {m : Nat} {S : im_S} {N M L : Nat → Nat} {pos dep sz n ρ τ B f : Nat} {γ : List Nat} {S0 : im_S} {n0 ρ0 τ0 sz0 kn0 R0 : Nat}
theorem Pz_uI (P : Pz K pl V m S N pos dep sz γ n ρ τ) {a j : Nat} {v : Int32} (h : nPz a j) : Pz K pl V m (uI S a j v) N pos dep sz γ n ρ τ := by
  obtain ⟨h1, h2, h3, h4, h5, h6, h7⟩ := h
  exact Pz_cp P (fun b i q => uI_ne (by omega)) (fun i => rfl) P.pm (by rw [uI_ne (by omega)]; exact P.at_) (by rw [uI_ne (by omega)]; exact P.dp) (by rw [uI_ne (by omega)]; exact P.sz_) (uI_ne (by omega)) (fun i _ => uI_ne (by omega)) (fun b _ => ⟨rfl, rfl⟩) (by rw [uI_ne (by omega)]; exact P.nn) (by rw [uI_ne (by omega)]; exact P.rr) (by rw [uI_ne (by omega)]; exact P.tt) P.bd
/-- all that is kept -/
def Cz (K pl : Nat → Nat) (V : Nat → Int64) (m : Nat) (S0 : im_S) (n0 ρ0 τ0 sz0 kn0 R0 : Nat) (S : im_S) (N M L : Nat → Nat) (pos dep sz : Nat) (γ : List Nat) (n ρ τ B f : Nat) : Prop :=
  Pz K pl V m S N pos dep sz γ n ρ τ ∧ Gh N M L pos n ρ τ γ ∧ SI S n ρ τ B ∧ FS S f ∧ f ≤ 4000 ∧ Fr S0 S n0 ρ0 τ0 sz0 kn0 R0
/-- a place that none of these reads -/
theorem Cz_uI (C : Cz K pl V m S0 n0 ρ0 τ0 sz0 kn0 R0 S N M L pos dep sz γ n ρ τ B f) {a j : Nat} {v : Int32} (h1 : nPz a j) (h2 : a ≠ 7 ∧ a ≠ 17 ∧ a ≠ 18 ∧ a ≠ 27 ∧ a ≠ 28 ∧ a ≠ 29 ∧ a ≠ 5) (h3 : nFr n0 ρ0 τ0 sz0 kn0 R0 a j) : Cz K pl V m S0 n0 ρ0 τ0 sz0 kn0 R0 (uI S a j v) N M L pos dep sz γ n ρ τ B f := by
  obtain ⟨c1, c2, c3, c4, c5, c6⟩ := C
  refine ⟨Pz_uI c1 h1, c2, SI_cp c3 (Nat.le_refl _) (fun t _ => uI_ne (by omega)) (fun r _ => uI_ne (by omega)) (fun t _ => uI_ne (by omega)) (fun x k q _ => uI_ne (by omega)), ?_, c5, Fr_uI c6 h3⟩
  unfold FS
  rw [uI_ne (by omega), uI_ne (by omega)]
  exact c4
/-- a field of a node -/
theorem Cz_nd (C : Cz K pl V m S0 n0 ρ0 τ0 sz0 kn0 R0 S N M L pos dep sz γ n ρ τ B f) {a j : Nat} {v : Int32} (ha : 8 ≤ a ∧ a ≤ 20 ∧ a ≠ 17 ∧ a ≠ 18) (hj : n0 ≤ j) : Cz K pl V m S0 n0 ρ0 τ0 sz0 kn0 R0 (uI S a j v) N M L pos dep sz γ n ρ τ B f :=
  Cz_uI C (by unfold nPz; omega) (by omega) (by unfold nFr; omega)
/-- due, last, loop -/
theorem Cz_3 (C : Cz K pl V m S0 n0 ρ0 τ0 sz0 kn0 R0 S N M L pos dep sz γ n ρ τ B f) {j : Nat} {v : Int32} (hj : j = 7 ∨ j = 8 ∨ j = 10) : Cz K pl V m S0 n0 ρ0 τ0 sz0 kn0 R0 (uI S 3 j v) N M L pos dep sz γ n ρ τ B f :=
  Cz_uI C (by unfold nPz; omega) (by omega) (by unfold nFr; omega)
theorem Cz_9 (C : Cz K pl V m S0 n0 ρ0 τ0 sz0 kn0 R0 S N M L pos dep sz γ n ρ τ B f) (dep1 : Nat) : Cz K pl V m S0 n0 ρ0 τ0 sz0 kn0 R0 (uI S 3 9 (nI dep1)) N M L pos dep1 sz γ n ρ τ B f := by
  obtain ⟨c1, c2, c3, c4, c5, c6⟩ := C
  refine ⟨Pz_cp c1 (fun b i q => uI_ne (by omega)) (fun i => rfl) c1.pm (by rw [uI_ne (by omega)]; exact c1.at_) uI_eq (by rw [uI_ne (by omega)]; exact c1.sz_) (uI_ne (by omega)) (fun i _ => uI_ne (by omega)) (fun b _ => ⟨rfl, rfl⟩) (by rw [uI_ne (by omega)]; exact c1.nn) (by rw [uI_ne (by omega)]; exact c1.rr) (by rw [uI_ne (by omega)]; exact c1.tt) c1.bd, c2, SI_cp c3 (Nat.le_refl _) (fun t _ => uI_ne (by omega)) (fun r _ => uI_ne (by omega)) (fun t _ => uI_ne (by omega)) (fun x k q _ => uI_ne (by omega)), ?_, c5, Fr_uI c6 (by unfold nFr; omega)⟩
  unfold FS
  rw [uI_ne (by omega), uI_ne (by omega)]
  exact c4
/-- a token is passed that makes nothing -/
theorem Cz_ad (T : TH K pl V m) (C : Cz K pl V m S0 n0 ρ0 τ0 sz0 kn0 R0 S N M L pos dep sz γ n ρ τ B f) (hp : pos < m) : Cz K pl V m S0 n0 ρ0 τ0 sz0 kn0 R0 (ad6 S (pos + 1)) (ex N pos n) (ex M pos ρ) (ex L pos τ) (pos + 1) dep sz γ n ρ τ B f := by
  obtain ⟨c1, c2, c3, c4, c5, c6⟩ := C
  have b := c1.bd
  have := T.lt_ hp
  have hg := (Gh_ex c2 (Nat.le_refl n) (Nat.le_refl ρ) (Nat.le_refl τ)).1
  unfold ad6
  refine ⟨Pz_cp c1 (fun a j q => uI_ne (by omega)) (fun j => rfl) (by omega) uI_eq (by rw [uI_ne (by omega)]; exact c1.dp) (by rw [uI_ne (by omega)]; exact c1.sz_) (uI_ne (by omega)) (fun i _ => uI_ne (by omega)) (fun b hb => ⟨ex_le (Nat.le_of_lt (c2.2.2.2.2 b hb).1), rfl⟩) (by rw [uI_ne (by omega)]; exact c1.nn) (by rw [uI_ne (by omega)]; exact c1.rr) (by rw [uI_ne (by omega)]; exact c1.tt) (by omega), hg, SI_cp c3 (Nat.le_refl _) (fun t _ => uI_ne (by omega)) (fun r _ => uI_ne (by omega)) (fun t _ => uI_ne (by omega)) (fun x k q _ => uI_ne (by omega)), ?_, c5, Fr_uI c6 (by unfold nFr; omega)⟩
  unfold FS
  rw [uI_ne (by omega), uI_ne (by omega)]
  exact c4
theorem Cz_push (C : Cz K pl V m S0 n0 ρ0 τ0 sz0 kn0 R0 S N M L pos dep sz γ n ρ τ B f) (k nd rg : Int32) (hs : sz + 1 ≤ pos) (hs0 : sz0 ≤ sz) : Cz K pl V m S0 n0 ρ0 τ0 sz0 kn0 R0 (psS S sz k nd rg) N M L pos dep (sz + 1) γ n ρ τ B f := by
  obtain ⟨c1, c2, c3, c4, c5, c6⟩ := C
  have b := c1.bd
  refine ⟨Pz_cp c1 (fun a j q => ps_ne (by omega)) (fun j => rfl) c1.pm (by rw [ps_ne (by omega)]; exact c1.at_) (by rw [ps_ne (by omega)]; exact c1.dp) (ps_f S sz k nd rg).2.2.2 (ps_ne (by omega)) (fun i _ => ps_ne (by omega)) (fun b hb => ⟨rfl, rfl⟩) (by rw [ps_ne (by omega)]; exact c1.nn) (by rw [ps_ne (by omega)]; exact c1.rr) (by rw [ps_ne (by omega)]; exact c1.tt) (by omega), c2, SI_cp c3 (Nat.le_refl _) (fun t _ => ps_ne (by omega)) (fun r _ => ps_ne (by omega)) (fun t _ => ps_ne (by omega)) (fun x k q _ => ps_ne (by omega)), ?_, c5, ?_⟩
  · unfold FS
    rw [ps_ne (by omega), ps_ne (by omega)]
    exact c4
  · unfold psS
    exact Fr_uI (Fr_uI (Fr_uI (Fr_uI c6 (by unfold nFr; omega)) (by unfold nFr; omega)) (by unfold nFr; omega)) (by unfold nFr; omega)
theorem Cz_pop (C : Cz K pl V m S0 n0 ρ0 τ0 sz0 kn0 R0 S N M L pos dep (sz + 1) γ n ρ τ B f) : Cz K pl V m S0 n0 ρ0 τ0 sz0 kn0 R0 (uI S 34 3 (nI sz)) N M L pos dep sz γ n ρ τ B f := by
  obtain ⟨c1, c2, c3, c4, c5, c6⟩ := C
  have b := c1.bd
  refine ⟨Pz_cp c1 (fun a j q => uI_ne (by omega)) (fun j => rfl) c1.pm (by rw [uI_ne (by omega)]; exact c1.at_) (by rw [uI_ne (by omega)]; exact c1.dp) uI_eq (uI_ne (by omega)) (fun i _ => uI_ne (by omega)) (fun b hb => ⟨rfl, rfl⟩) (by rw [uI_ne (by omega)]; exact c1.nn) (by rw [uI_ne (by omega)]; exact c1.rr) (by rw [uI_ne (by omega)]; exact c1.tt) (by omega), c2, SI_cp c3 (Nat.le_refl _) (fun t _ => uI_ne (by omega)) (fun r _ => uI_ne (by omega)) (fun t _ => uI_ne (by omega)) (fun x k q _ => uI_ne (by omega)), ?_, c5, Fr_uI c6 (by unfold nFr; omega)⟩
  unfold FS
  rw [uI_ne (by omega), uI_ne (by omega)]
  exact c4
theorem Cz_cn (C : Cz K pl V m S0 n0 ρ0 τ0 sz0 kn0 R0 S N M L pos dep sz γ n ρ τ B f) {k : Nat} (r p t : Int32) (hk : n0 ≤ k) : Cz K pl V m S0 n0 ρ0 τ0 sz0 kn0 R0 (cnS S k r p t) N M L pos dep sz γ n ρ τ B f :=
  Cz_nd (Cz_nd (Cz_nd C (by omega) hk) (by omega) hk) (by omega) hk
/-- a fault is noted -/
theorem Cz_nt (C : Cz K pl V m S0 n0 ρ0 τ0 sz0 kn0 R0 S N M L pos dep sz γ n ρ τ B f) {k p : Nat} (hk1 : 1 ≤ k) (hk : k ≤ 3) (hp : p ≤ 500) : Cz K pl V m S0 n0 ρ0 τ0 sz0 kn0 R0 (ntS S (nI k) (nI p)) N M L pos dep sz γ n ρ τ B (min f (4 * p + k)) := by
  obtain ⟨c1, c2, c3, c4, c5, c6⟩ := C
  obtain ⟨a1, a2, a3, a4, a5, a6, a7, a8⟩ := c6
  refine ⟨Pz_cp c1 (fun a j q => nt_ne S _ _ (by omega)) (fun j => by rw [nt_21]) c1.pm (by rw [nt_ne S _ _ (by omega)]; exact c1.at_) (by rw [nt_ne S _ _ (by omega)]; exact c1.dp) (by rw [nt_ne S _ _ (by omega)]; exact c1.sz_) (nt_ne S _ _ (by omega)) (fun i _ => nt_ne S _ _ (by omega)) (fun b _ => ⟨rfl, by rw [nt_21]⟩) (by rw [nt_ne S _ _ (by omega)]; exact c1.nn) (by rw [nt_ne S _ _ (by omega)]; exact c1.rr) (by rw [nt_ne S _ _ (by omega)]; exact c1.tt) c1.bd, c2, SI_cp c3 (Nat.le_refl _) (fun t _ => nt_ne S _ _ (by omega)) (fun r _ => nt_ne S _ _ (by omega)) (fun t _ => nt_ne S _ _ (by omega)) (fun x k q _ => nt_ne S _ _ (by omega)), nt_fs c4 hk1 hk hp, by omega, ?_⟩
  exact ⟨fun x k u1 u2 u3 => by rw [nt_ne S _ _ (by omega)]; exact a1 x k u1 u2 u3, fun k hk => by rw [nt_21]; exact a2 k hk, fun r hr => by rw [nt_ne S _ _ (by omega), nt_ne S _ _ (by omega)]; exact a3 r hr, fun t ht => by rw [nt_ne S _ _ (by omega)]; exact a4 t ht, fun x i u1 u2 u3 => by rw [nt_ne S _ _ (by omega)]; exact a5 x i u1 u2 u3, fun i hi => by rw [nt_ne S _ _ (by omega)]; exact a6 i hi, by rw [nt_ne S _ _ (by omega)]; exact a7, fun i => by rw [nt_ne S _ _ (by omega), nt_ne S _ _ (by omega), nt_21]; exact a8 i⟩
theorem Cz_ck (C : Cz K pl V m S0 n0 ρ0 τ0 sz0 kn0 R0 S N M L pos dep sz γ n ρ τ B f) {k ty b t : Nat} (hty : S.1 8 k = nI ty) (hb : S.1 20 k = nI (pl b)) (hp : pl b ≤ 500) (h1 : ty < 100) (h2 : t < 100) : Cz K pl V m S0 n0 ρ0 τ0 sz0 kn0 R0 (ckS S k (nI t)) N M L pos dep sz γ n ρ τ B (min f (chk pl ty b t)) := by
  unfold ckS chk
  rw [hty, hb]
  have hf := C.2.2.2.2.1
  by_cases e : ty = t
  · rw [if_pos (by rw [e]), if_pos e, Nat.min_eq_left hf]; exact C
  · rw [if_neg (fun z => e ((nI_eq (by omega) (by omega)).mp z)), if_neg e]
    exact Cz_nt (k := 3) C (by omega) (by omega) hp
end CST
