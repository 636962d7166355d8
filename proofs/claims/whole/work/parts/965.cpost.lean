/-! the class's parser: what an X leaves -/
def tv (V : Nat → Int64) : Nat → Nat := fun i => tvV (V i)
/-- the calls of a tree; the roots of a list -/
def rts : TR → List Nat
  | .append (.tag _ x) r => rtk x :: rts r
  | _ => []
def cls : TR → List (Nat × TR)
  | .tag 4 (.tag j as) => (j, as) :: cls as
  | .tag 5 (.tag _ (.append x y)) => cls x ++ cls y
  | .tag 6 (.tag _ (.append x (.append y z))) => cls x ++ (cls y ++ cls z)
  | .tag 7 (.tag _ (.append fs (.append c (.append ns g)))) => cls fs ++ (cls c ++ (cls ns ++ cls g))
  | .tag 8 (.tag _ x) => cls x
  | .tag 9 (.tag _ (.append x y)) => cls x ++ cls y
  | .tag 10 (.tag _ (.append x y)) => cls x ++ cls y
  | .tag 11 (.tag _ (.append x y)) => cls x ++ cls y
  | .tag 12 (.tag _ x) => cls x
  | .append (.tag _ x) r => cls x ++ cls r
  | _ => []
/-- the arguments of a call, faults or no -/
def AgC (K pl : Nat → Nat) (V : Nat → Int64) (S : im_S) (N : Nat → Nat) : TR → Int32 → Prop
  | .append (.tag _ x) r, w => w = nI (N (rtk x)) ∧ N (rtk x) < N (rtk x + 1) ∧ S.1 8 (N (rtk x)) = nI (tyk K (tv V) x) ∧ S.1 20 (N (rtk x)) = nI (pl (bgk x)) ∧ pl (bgk x) ≤ 500 ∧ AgC K pl V S N r (S.1 14 (N (rtk x)))
  | .nil, w => w = -1
  | _, _ => False
def CaO (K pl : Nat → Nat) (V : Nat → Int64) (S : im_S) (N : Nat → Nat) (j : Nat) (as : TR) : Prop := N j < N (j + 1) ∧ S.1 7 (N j) = 8 ∧ S.2.1 21 (N j) = V j ∧ S.1 19 (N j) = nI (pl j) ∧ AgC K pl V S N as (S.1 12 (N j)) ∧ (rts as).length ≤ 4
/-- the calls that tokens p .. e - 1 made -/
def CI (K pl : Nat → Nat) (V : Nat → Int64) (S : im_S) (N : Nat → Nat) (p e t0 : Nat) (cl : List (Nat × TR)) : Prop := (∀ k, N p ≤ k → k < N e → S.1 7 k = 8 → ∃ c, c ∈ cl ∧ N c.1 = k) ∧ ∀ c, c ∈ cl → CaO K pl V S N c.1 c.2 ∧ p ≤ c.1 ∧ c.1 < e ∧ ∀ t, t ∈ rts c.2 → p ≤ t ∧ t < e ∧ t ≠ t0
theorem AgC_cp {K pl : Nat → Nat} {V : Nat → Int64} {S S' : im_S} {N N' : Nat → Nat} : ∀ (s : Nat) (as : TR), tsz as ≤ s → ∀ w : Int32, (∀ t, t ∈ rts as → N' t = N t ∧ N' (t + 1) = N (t + 1) ∧ (N t < N (t + 1) → S'.1 8 (N t) = S.1 8 (N t) ∧ S'.1 20 (N t) = S.1 20 (N t) ∧ S'.1 14 (N t) = S.1 14 (N t))) → AgC K pl V S N as w → AgC K pl V S' N' as w := by
  intro s
  induction s with
  | zero => intro as hs; cases as <;> simp [tsz] at hs
  | succ s ih =>
    intro as hs w hr h
    unfold AgC at h
    split at h
    · rename_i j x r
      obtain ⟨h1, h2, h3, h4, h6, h5⟩ := h
      obtain ⟨e1, e2, e3⟩ := hr (rtk x) (List.mem_cons_self ..)
      obtain ⟨e4, e5, e6⟩ := e3 h2
      refine ⟨by rw [e1]; exact h1, by rw [e1, e2]; exact h2, by rw [e1, e4]; exact h3, by rw [e1, e5]; exact h4, h6, ?_⟩
      rw [e1, e6]
      exact ih r (by simp only [tsz] at hs; omega) _ (fun t ht => hr t (List.mem_cons_of_mem _ ht)) h5
    · exact h
    · exact h.elim
theorem CI_cp {K pl : Nat → Nat} {V : Nat → Int64} {S S' : im_S} {N N' : Nat → Nat} {p e t0 : Nat} {cl : List (Nat × TR)} (h : CI K pl V S N p e t0 cl) (hN : ∀ i j, i ≤ j → j ≤ e → N i ≤ N j) (hA : ∀ j, j ≤ e → N' j = N j) (hpe : p ≤ e) (hf : ∀ a k : Nat, (a = 7 ∨ a = 8 ∨ a = 12 ∨ a = 19) → N p ≤ k → k < N e → S'.1 a k = S.1 a k) (hl : ∀ k : Nat, N p ≤ k → k < N e → S'.2.1 21 k = S.2.1 21 k) (hg : ∀ a t : Nat, (a = 14 ∨ a = 20) → p ≤ t → t < e → t ≠ t0 → N t < N (t + 1) → S'.1 a (N t) = S.1 a (N t)) : CI K pl V S' N' p e t0 cl := by
  obtain ⟨h1, h2⟩ := h
  refine ⟨fun k k1 k2 k3 => ?_, fun c hc => ?_⟩
  · rw [hA p hpe] at k1
    rw [hA e (Nat.le_refl _)] at k2
    rw [hf 7 k (by omega) k1 k2] at k3
    obtain ⟨c, c1, c2⟩ := h1 k k1 k2 k3
    exact ⟨c, c1, by rw [hA _ (by have := (h2 c c1).2.2.1; omega)]; exact c2⟩
  · obtain ⟨⟨q1, q2, q3, q4, q5, q9⟩, q6, q7, q8⟩ := h2 c hc
    have n1 := hN p c.1 q6 (by omega)
    have n2 := hN (c.1 + 1) e (by omega) (Nat.le_refl _)
    refine ⟨⟨?_, ?_, ?_, ?_, ?_, q9⟩, q6, q7, q8⟩
    · rw [hA _ (by omega), hA _ (by omega)]; exact q1
    · rw [hA _ (by omega), hf 7 _ (by omega) n1 (by omega)]; exact q2
    · rw [hA _ (by omega), hl _ n1 (by omega)]; exact q3
    · rw [hA _ (by omega), hf 19 _ (by omega) n1 (by omega)]; exact q4
    · rw [hA _ (by omega), hf 12 _ (by omega) n1 (by omega)]
      refine AgC_cp (tsz c.2) c.2 (Nat.le_refl _) _ (fun t ht => ?_) q5
      obtain ⟨t1, t2, t3⟩ := q8 t ht
      have m1 := hN p t t1 (by omega)
      have m2 := hN (t + 1) e (by omega) (Nat.le_refl _)
      exact ⟨hA t (by omega), hA (t + 1) (by omega), fun hlt => ⟨hf 8 _ (by omega) m1 (by omega), hg 20 t (by omega) t1 t2 t3 hlt, hg 14 t (by omega) t1 t2 t3 hlt⟩⟩
theorem CI_seq {K pl : Nat → Nat} {V : Nat → Int64} {S : im_S} {N : Nat → Nat} {p b c e t1 t2 t0 : Nat} {l1 l2 : List (Nat × TR)} (h1 : CI K pl V S N p b t1 l1) (h2 : CI K pl V S N c e t2 l2) (hpb : p ≤ b) (hbc : b ≤ c) (hce : c ≤ e) (hm : ∀ k, N b ≤ k → k < N c → S.1 7 k ≠ 8) (ht : t0 < p ∨ (b ≤ t0 ∧ t0 < c) ∨ e ≤ t0) : CI K pl V S N p e t0 (l1 ++ l2) := by
  refine ⟨fun k k1 k2 k3 => ?_, fun d hd => ?_⟩
  · rcases Nat.lt_or_ge k (N b) with z | z
    · obtain ⟨d, d1, d2⟩ := h1.1 k k1 z k3
      exact ⟨d, List.mem_append_left _ d1, d2⟩
    · rcases Nat.lt_or_ge k (N c) with y | y
      · exact absurd k3 (hm k z y)
      · obtain ⟨d, d1, d2⟩ := h2.1 k y k2 k3
        exact ⟨d, List.mem_append_right _ d1, d2⟩
  · rcases List.mem_append.mp hd with z | z
    · obtain ⟨q1, q2, q3, q4⟩ := h1.2 d z
      exact ⟨q1, q2, by omega, fun t ht' => by have := q4 t ht'; omega⟩
    · obtain ⟨q1, q2, q3, q4⟩ := h2.2 d z
      exact ⟨q1, by omega, q3, fun t ht' => by have := q4 t ht'; omega⟩
theorem CI_wid {K pl : Nat → Nat} {V : Nat → Int64} {S : im_S} {N : Nat → Nat} {p e t1 p' e' t0 : Nat} {l : List (Nat × TR)} (h : CI K pl V S N p e t1 l) (hp : p' ≤ p) (he : e ≤ e') (hl : ∀ k, N p' ≤ k → k < N p → S.1 7 k ≠ 8) (hr : ∀ k, N e ≤ k → k < N e' → S.1 7 k ≠ 8) (ht : t0 < p ∨ e ≤ t0 ∨ t0 = t1) : CI K pl V S N p' e' t0 l := by
  refine ⟨fun k k1 k2 k3 => ?_, fun d hd => ?_⟩
  · rcases Nat.lt_or_ge k (N p) with z | z
    · exact absurd k3 (hl k k1 z)
    · rcases Nat.lt_or_ge k (N e) with y | y
      · exact h.1 k z y k3
      · exact absurd k3 (hr k y k2)
  · obtain ⟨q1, q2, q3, q4⟩ := h.2 d hd
    exact ⟨q1, by omega, by omega, fun t ht' => by have := q4 t ht'; omega⟩
theorem CI_nil {K pl : Nat → Nat} {V : Nat → Int64} {S : im_S} {N : Nat → Nat} {p e t0 : Nat} (h : ∀ k, N p ≤ k → k < N e → S.1 7 k ≠ 8) : CI K pl V S N p e t0 [] := ⟨fun k k1 k2 k3 => absurd k3 (h k k1 k2), fun c hc => absurd hc List.not_mem_nil⟩
theorem k8 {c : Nat} (h : c < 100) (hc : c ≠ 8) : nI c ≠ (8 : Int32) := fun z => hc ((nI_eq (a := c) (b := 8) (by omega) (by omega)).mp z)
/-- the root of what was read last -/
def Rt (K pl : Nat → Nat) (V : Nat → Int64) (S : im_S) (N : Nat → Nat) (x : TR) : Prop := N (rtk x) < N (rtk x + 1) ∧ S.1 3 8 = nI (N (rtk x)) ∧ S.1 8 (N (rtk x)) = nI (tyk K (tv V) x) ∧ S.1 20 (N (rtk x)) = nI (pl (bgk x)) ∧ S.1 14 (N (rtk x)) = -1
def PX (K pl : Nat → Nat) (V : Nat → Int64) (m : Nat) (S : im_S) (N M L : Nat → Nat) (pos dep sz : Nat) (γ : List Nat) (n ρ τ f R : Nat) (S' : im_S) (N' M' L' : Nat → Nat) (n' ρ' τ' e : Nat) (x : TR) : Prop :=
  Cz K pl V m S n ρ τ sz γ.length R S' N' M' L' e dep sz γ n' ρ' τ' (pl e) (min f (pfc K pl V x γ 0 [] [])) ∧ Ag N M L N' M' L' pos ∧ Rt K pl V S' N' x ∧ (4000 ≤ pfc K pl V x γ 0 [] [] → G K pl V S' N' M' L' x γ R 0 0 .nil []) ∧ Seg S' N' (S'.1 26 R) (lvs x) (S.1 26 R) ∧ CI K pl V S' N' pos e (rtk x) (cls x)
/-- .. and what is done behind -/
def Kx (K pl : Nat → Nat) (V : Nat → Int64) (m : Nat) (S : im_S) (N M L : Nat → Nat) (pos dep sz : Nat) (γ : List Nat) (n ρ τ f R e : Nat) (x : TR) (Cont : im_S → Prop) : Prop := ∀ (S' : im_S) (N' M' L' : Nat → Nat) (n' ρ' τ' : Nat), PX K pl V m S N M L pos dep sz γ n ρ τ f R S' N' M' L' n' ρ' τ' e x → Cont S'
/-- a state from which an X, or an operand of one, is read -/
def Bg (K pl : Nat → Nat) (V : Nat → Int64) (m : Nat) (S : im_S) (N M L : Nat → Nat) (pos dep sz : Nat) (γ : List Nat) (n ρ τ f k R : Nat) : Prop := Cz K pl V m S n ρ τ sz γ.length R S N M L pos dep sz γ n ρ τ (pl pos) f ∧ Tp S sz k R ∧ R < ρ ∧ 0 < pos
/-- .. all of that, in one: a label that reads as Rr says, from p0 on -/
def HXc (K pl : Nat → Nat) (V : Nat → Int64) (m fu : Nat) (Rr : Nat → PR) (dep p0 : Nat) : Prop := ∀ (S : im_S) (N M L : Nat → Nat) (pos sz : Nat) (γ : List Nat) (n ρ τ f k R : Nat) (Q : Int32 → im_S → Prop), p0 ≤ pos → Bg K pl V m S N M L pos dep sz γ n ρ τ f k R → S.1 3 7 = 0 → 10 ≤ k →
  (∀ e, Rr pos = (e, none) → Rf pl e Q → Lp m fu pos S Q) ∧ ∀ e x, Rr pos = (e, some x) → Kx K pl V m S N M L pos dep sz γ n ρ τ f R e x (fun S' => FZ K m fu e sz S' Q) → Lp m fu pos S Q
/-- nodes below n are kept, but for where k0's value goes; so are regions but R's leaves -/
def Fx (S S' : im_S) (lo n ρ τ R k0 : Nat) : Prop := (∀ a k : Nat, 7 ≤ a → a ≤ 20 → lo ≤ k → k < n → (k ≠ k0 ∨ ¬ (a = 9 ∨ a = 10 ∨ a = 11 ∨ a = 14 ∨ a = 20)) → S'.1 a k = S.1 a k) ∧ (∀ k : Nat, lo ≤ k → k < n → S'.2.1 21 k = S.2.1 21 k) ∧ (∀ r : Nat, r < ρ → S'.1 27 r = S.1 27 r ∧ (r ≠ R → S'.1 26 r = S.1 26 r)) ∧ ∀ t : Nat, t < τ → S'.1 29 t = S.1 29 t
theorem Fx_refl (S : im_S) (lo n ρ τ R k0 : Nat) : Fx S S lo n ρ τ R k0 := ⟨fun _ _ _ _ _ _ _ => rfl, fun _ _ _ => rfl, fun _ _ => ⟨rfl, fun _ => rfl⟩, fun _ _ => rfl⟩
theorem Fx_uI {S S' : im_S} {lo n ρ τ R k0 a j : Nat} {v : Int32} (h : Fx S S' lo n ρ τ R k0) (q : (a < 7 ∨ 20 < a ∨ n ≤ j ∨ j < lo ∨ (j = k0 ∧ (a = 9 ∨ a = 10 ∨ a = 11 ∨ a = 14 ∨ a = 20))) ∧ (a ≠ 27 ∨ ρ ≤ j) ∧ (a ≠ 26 ∨ ρ ≤ j ∨ j = R) ∧ (a ≠ 29 ∨ τ ≤ j)) : Fx S (uI S' a j v) lo n ρ τ R k0 := by
  obtain ⟨a1, a2, a3, a4⟩ := h
  refine ⟨fun x k u1 u2 u0 u3 u4 => ?_, a2, fun r hr => ⟨?_, fun hR => ?_⟩, fun t ht => ?_⟩
  · rw [uI_ne (by omega)]; exact a1 x k u1 u2 u0 u3 u4
  · rw [uI_ne (by omega)]; exact (a3 r hr).1
  · rw [uI_ne (by omega)]; exact (a3 r hr).2 hR
  · rw [uI_ne (by omega)]; exact a4 t ht
theorem Fx_Fr {S S1 S2 : im_S} {lo n ρ τ R k0 n1 ρ1 τ1 sz kn R1 : Nat} (h : Fx S S1 lo n ρ τ R k0) (F : Fr S1 S2 n1 ρ1 τ1 sz kn R1) (h1 : n ≤ n1) (h2 : ρ ≤ ρ1) (h3 : τ ≤ τ1) (h6 : R1 = R ∨ ρ ≤ R1) : Fx S S2 lo n ρ τ R k0 := by
  obtain ⟨a1, a2, a3, a4⟩ := h
  obtain ⟨b1, b2, b3, b4, -⟩ := F
  exact ⟨fun x k u1 u2 u0 u3 u4 => (b1 x k u1 u2 (by omega)).trans (a1 x k u1 u2 u0 u3 u4), fun k u0 hk => (b2 k (by omega)).trans (a2 k u0 hk), fun r hr => ⟨((b3 r (by omega)).1).trans (a3 r hr).1, fun hR => ((b3 r (by omega)).2 (by omega)).trans ((a3 r hr).2 hR)⟩, fun t ht => (b4 t (by omega)).trans (a4 t ht)⟩
theorem Fx_ad {S S' : im_S} {lo n ρ τ R k0 n1 c R1 T sT : Nat} {t p : Int32} {v : Int64} (h : Fx S S' lo n ρ τ R k0) (h1 : n ≤ n1) (h2 : R1 = R ∨ ρ ≤ R1) : Fx S (adS S' n1 c t p v R1 T sT) lo n ρ τ R k0 := by
  obtain ⟨a1, a2, a3, a4⟩ := h
  refine ⟨fun x k u1 u2 u0 u3 u4 => ?_, fun k u0 hk => ?_, fun r hr => ⟨?_, fun hR => ?_⟩, fun t ht => ?_⟩
  · rw [ad_ne (by omega)]; exact a1 x k u1 u2 u0 u3 u4
  · rw [ad_21, if_neg (by omega)]; exact a2 k u0 hk
  · rw [ad_ne (by omega)]; exact (a3 r hr).1
  · rw [ad_ne (by omega)]; exact (a3 r hr).2 hR
  · rw [ad_ne (by omega)]; exact a4 t ht
theorem Fx_nt {S S' : im_S} {lo n ρ τ R k0 : Nat} {x1 x2 : Int32} (h : Fx S S' lo n ρ τ R k0) : Fx S (ntS S' x1 x2) lo n ρ τ R k0 := by
  obtain ⟨a1, a2, a3, a4⟩ := h
  exact ⟨fun x k u1 u2 u0 u3 u4 => by rw [nt_ne S' _ _ (by omega)]; exact a1 x k u1 u2 u0 u3 u4, fun k u0 hk => by rw [nt_21]; exact a2 k u0 hk, fun r hr => by rw [nt_ne S' _ _ (by omega), nt_ne S' _ _ (by omega)]; exact a3 r hr, fun t ht => by rw [nt_ne S' _ _ (by omega)]; exact a4 t ht⟩
theorem Fx_ck {S S' : im_S} {lo n ρ τ R k0 k : Nat} {w : Int32} (h : Fx S S' lo n ρ τ R k0) : Fx S (ckS S' k w) lo n ρ τ R k0 := by
  unfold ckS
  by_cases e : (S'.1 8 k : Int32) = w
  · rw [if_pos e]; exact h
  · rw [if_neg e]; exact Fx_nt h
theorem Fx_cn {S S' : im_S} {lo n ρ τ R k0 k : Nat} {r p t : Int32} (h : Fx S S' lo n ρ τ R k0) (hk : k = k0 ∨ n ≤ k ∨ k < lo) : Fx S (cnS S' k r p t) lo n ρ τ R k0 := by
  unfold cnS
  exact Fx_uI (Fx_uI (Fx_uI h (by omega)) (by omega)) (by omega)
theorem Fx_ps {S S' : im_S} {lo n ρ τ R k0 sz : Nat} {k nd rg : Int32} (h : Fx S S' lo n ρ τ R k0) : Fx S (psS S' sz k nd rg) lo n ρ τ R k0 := by
  unfold psS
  exact Fx_uI (Fx_uI (Fx_uI (Fx_uI h (by omega)) (by omega)) (by omega)) (by omega)
theorem Sb_Fx {S S' : im_S} {N M L : Nat → Nat} {p e R k0 : Nat} (h : Fx S S' (N p) (N e) (M e) (L e) R k0) (hR : R < M p) : Sb S S' N M L p e k0 := by
  obtain ⟨a1, a2, a3, a4⟩ := h
  exact ⟨fun a k q u v => a1 a k (by omega) (by omega) u v (Or.inr (by omega)), fun k u v => a2 k u v, fun a k q u v w => a1 a k (by omega) (by omega) u v (Or.inl w), fun r u v => (a3 r v).2 (by omega), fun r v => (a3 r v).1, fun t v => a4 t v⟩
theorem Seg_app {S : im_S} {N : Nat → Nat} : ∀ (l1 l2 : List Nat) (w e1 e2 : Int32), Seg S N w l1 e1 → Seg S N e1 l2 e2 → Seg S N w (l1 ++ l2) e2 := by
  intro l1
  induction l1 with
  | nil => intro l2 w e1 e2 h1 h2; have h1 : w = e1 := h1; rw [h1]; exact h2
  | cons p l1 ih => intro l2 w e1 e2 h1 h2; exact ⟨h1.1, h1.2.1, ih l2 _ e1 e2 h1.2.2 h2⟩
section CPO
variable {K pl : Nat → Nat} {V : Nat → Int64} {m fu : Nat} {Q : Int32 → im_S → Prop}
/-- what an X left is kept while the rest is read -/
theorem PX_keep {S : im_S} {N M L : Nat → Nat} {pos dep sz : Nat} {γ : List Nat} {n ρ τ f R : Nat} {S1 : im_S} {N1 M1 L1 : Nat → Nat} {n1 ρ1 τ1 e : Nat} {x : TR} (P : PX K pl V m S N M L pos dep sz γ n ρ τ f R S1 N1 M1 L1 n1 ρ1 τ1 e x) (w : Wt K x pos e 0) (hg : Gh N M L pos n ρ τ γ) (hR : R < ρ) (hpos : 0 < pos) {S2 : im_S} {N2 M2 L2 : Nat → Nat} (F : Fx S1 S2 n n1 ρ1 τ1 R (N1 (rtk x))) (hA : Ag N1 M1 L1 N2 M2 L2 e) :
    (4000 ≤ pfc K pl V x γ 0 [] [] → G K pl V S2 N2 M2 L2 x γ R 0 0 .nil []) ∧ Seg S2 N2 (S1.1 26 R) (lvs x) (S.1 26 R) ∧ N2 (rtk x) < N2 (rtk x + 1) ∧ N2 (rtk x) = N1 (rtk x) ∧ n ≤ N1 (rtk x) ∧ N1 (rtk x) < n1 ∧ n ≤ n1 ∧ ρ ≤ ρ1 ∧ τ ≤ τ1 ∧ pos < e := by
  obtain ⟨C, hA1, hRt, hG, hS, -⟩ := P
  obtain ⟨g1, g2, g3, g4, g5⟩ := C.2.1
  have hd := Wt_lt w
  have hr := Wt_rt w
  have a0 := hA1 pos (Nat.le_refl _)
  have m0 := g4 pos e (by omega) (Nat.le_refl _)
  have hn : N1 pos = n := by rw [a0.1]; exact hg.1
  have hρ : M1 pos = ρ := by rw [a0.2.1]; exact hg.2.1
  have hτ : L1 pos = τ := by rw [a0.2.2]; exact hg.2.2.1
  have F' : Fx S1 S2 (N1 pos) (N1 e) (M1 e) (L1 e) R (N1 (rtk x)) := by rw [g1, g2, g3, hn]; exact F
  have B := Sb_Fx (p := pos) F' (by omega)
  have m1 := g4 pos (rtk x) (by omega) (by omega)
  have m2 := g4 (rtk x + 1) e (by omega) (Nat.le_refl _)
  have m3 := hRt.1
  refine ⟨fun hz => G_st w g4 hA B (Or.inr (Or.inr rfl)) (fun b hb => (hg.2.2.2.2 b hb).1) (by omega) hpos (hG hz), Seg_st B g4 hA (lvs x) _ _ (lvs_in w) hS, ?_, (hA _ (by omega)).1, by omega, by omega, by omega, by omega, by omega, hd⟩
  rw [(hA _ (by omega)).1, (hA (rtk x + 1) (by omega)).1]
  exact hRt.1
/-- the calls, too -/
theorem PX_ci {S : im_S} {N M L : Nat → Nat} {pos dep sz : Nat} {γ : List Nat} {n ρ τ f R : Nat} {S1 : im_S} {N1 M1 L1 : Nat → Nat} {n1 ρ1 τ1 e : Nat} {x : TR} (P : PX K pl V m S N M L pos dep sz γ n ρ τ f R S1 N1 M1 L1 n1 ρ1 τ1 e x) (w : Wt K x pos e 0) (hg : Gh N M L pos n ρ τ γ) {S2 : im_S} {N2 M2 L2 : Nat → Nat} (F : ∀ a k : Nat, 7 ≤ a → a ≤ 20 → n ≤ k → k < n1 → (k ≠ N1 (rtk x) ∨ ¬ (a = 9 ∨ a = 10 ∨ a = 11 ∨ a = 14 ∨ a = 20)) → S2.1 a k = S1.1 a k) (F2 : ∀ k : Nat, n ≤ k → k < n1 → S2.2.1 21 k = S1.2.1 21 k) (hA : Ag N1 M1 L1 N2 M2 L2 e) : CI K pl V S2 N2 pos e (rtk x) (cls x) := by
  obtain ⟨C, hA1, hRt, -, -, hci⟩ := P
  obtain ⟨g1, g2, g3, g4, g5⟩ := C.2.1
  have hd := Wt_lt w
  have hr := Wt_rt w
  have hn : N1 pos = n := by rw [(hA1 pos (Nat.le_refl _)).1]; exact hg.1
  refine CI_cp hci (fun i j h1 h2 => (g4 i j h1 h2).1) (fun j hj => (hA j hj).1) (by omega) (fun a k u1 u2 u3 => F a k (by omega) (by omega) (by omega) (by omega) (Or.inr (by omega))) (fun k u2 u3 => F2 k (by omega) (by omega)) (fun a t u1 u2 u3 u4 u5 => ?_)
  have m1 := (g4 pos t (by omega) (by omega)).1
  have m2 := (g4 (t + 1) e (by omega) (Nat.le_refl _)).1
  refine F a (N1 t) (by omega) (by omega) (by omega) (by omega) (Or.inl ?_)
  have h0 := hRt.1
  rcases Nat.lt_trichotomy t (rtk x) with z | z | z
  · have := (g4 (t + 1) (rtk x) (by omega) (by omega)).1; omega
  · exact absurd z u4
  · have := (g4 (rtk x + 1) t (by omega) (by omega)).1; omega
end CPO
