/-! the reference's program, as long as nothing touches its half -/
section RPR
variable {K pl : Nat → Nat} {V : Nat → Int64} {m fr : Nat} {ft : List (Nat × Nat)} {W : Nat → Int32 × Int32 × Int32} {S S' : im_S} {lo hi rlo rhi : Nat} {ν ρ : Nat → Nat}
/-- agreement on the half of fr -/
def Hf (fr : Nat) (S S' : im_S) : Prop := ∀ a i : Nat, (81 ≤ a ∧ a ≤ 95) ∨ (113 ≤ a ∧ a ≤ 115) → 75 * fr ≤ i ∧ i < 75 * fr + 600 → S'.1 a i = S.1 a i ∧ S'.2.1 a i = S.2.1 a i
theorem RwA_pr (hA : Hf fr S S') (hr : 75 * fr ≤ rlo ∧ rhi ≤ 75 * fr + 600) : ∀ (x : TR) (i : Nat), RwA S rlo rhi ν x i → RwA S' rlo rhi ν x i := by
  intro x
  induction x with
  | append a l iha ihl =>
    intro i h
    cases a with
    | tag q y =>
      obtain ⟨h1, h2, h3, h4⟩ := h
      exact ⟨h1, h2, by rw [(hA 95 i (by omega) (by omega)).1]; exact h3, ihl _ h4⟩
    | _ => exact trivial
  | _ => intro _ _; exact trivial
theorem RwB_pr (hA : Hf fr S S') (hr : 75 * fr ≤ rlo ∧ rhi ≤ 75 * fr + 600) : ∀ (x : TR) (i : Nat), RwB pl V S rlo rhi ν x i → RwB pl V S' rlo rhi ν x i := by
  intro x
  induction x with
  | append a l iha ihl =>
    intro i h
    cases a with
    | tag q y =>
      obtain ⟨h1, h2, h3, h4, h5, h6⟩ := h
      exact ⟨h1, h2, by rw [(hA 93 i (by omega) (by omega)).2]; exact h3, by rw [(hA 94 i (by omega) (by omega)).1]; exact h4, by rw [(hA 95 i (by omega) (by omega)).1]; exact h5, ihl _ h6⟩
    | _ => exact trivial
  | _ => intro _ _; exact trivial
set_option maxHeartbeats 1000000 in
theorem RN_pr (hA : Hf fr S S') (hr : 75 * fr ≤ rlo ∧ rhi ≤ 75 * fr + 600) {y : TR} (hq : 75 * fr ≤ ν (otk y) ∧ ν (otk y) < 75 * fr + 600) (hc : ∀ (c j : Nat) (x' y' : TR), c = 9 ∨ c = 10 → y = .tag c (.tag j (.append x' y')) → 75 * fr ≤ ν (otk x') ∧ ν (otk x') < 75 * fr + 600) (h : RN K pl V S rlo rhi ν y) : RN K pl V S' rlo rhi ν y := by
  have hn : ∀ {c j k : Nat}, 75 * fr ≤ k ∧ k < 75 * fr + 600 → ndD K pl V S c j k → ndD K pl V S' c j k := fun {c j k} qk q => by
    unfold ndD at q ⊢
    rw [(hA 81 k (by omega) qk).1, (hA 82 k (by omega) qk).1, (hA 86 k (by omega) qk).1, (hA 87 k (by omega) qk).2]
    exact q
  have h0 : ∀ {a k : Nat}, 81 ≤ a ∧ a ≤ 95 → 75 * fr ≤ k ∧ k < 75 * fr + 600 → S'.1 a k = S.1 a k := fun {a k} q qk => (hA a k (by omega) qk).1
  have hJ : ∀ {a k : Nat}, 81 ≤ a ∧ a ≤ 95 → 75 * fr ≤ k ∧ k < 75 * fr + 600 → S'.2.1 a k = S.2.1 a k := fun {a k} q qk => (hA a k (by omega) qk).2
  have RA := fun (x : TR) (i : Nat) => RwA_pr (ν := ν) hA hr x i
  have RB := fun (x : TR) (i : Nat) => RwB_pr (pl := pl) (V := V) (ν := ν) hA hr x i
  unfold RN at h ⊢
  split at h
  · obtain ⟨a1, a2, a3⟩ := h
    exact ⟨hn hq a1, by rw [h0 (by omega) (by exact hq)]; exact a2, by rw [h0 (by omega) (by exact hq)]; exact a3⟩
  · obtain ⟨a1, a2, a3⟩ := h
    exact ⟨hn hq a1, by rw [h0 (by omega) (by exact hq)]; exact a2, by rw [h0 (by omega) (by exact hq)]; exact a3⟩
  · obtain ⟨a1, a2, a3⟩ := h
    exact ⟨hn hq a1, by rw [h0 (by omega) (by exact hq)]; exact a2, by rw [h0 (by omega) (by exact hq)]; exact a3⟩
  · obtain ⟨a1, i, a2, a3, a4⟩ := h
    exact ⟨hn hq a1, i, by rw [h0 (by omega) (by exact hq)]; exact a2, by rw [h0 (by omega) (by exact hq)]; exact a3, RA _ _ a4.1, a4.2⟩
  · obtain ⟨a1, a2, a3⟩ := h
    exact ⟨hn hq a1, by rw [h0 (by omega) (by exact hq)]; exact a2, by rw [h0 (by omega) (by exact hq)]; exact a3⟩
  · obtain ⟨a1, a2, a3, a4⟩ := h
    exact ⟨hn hq a1, by rw [h0 (by omega) (by exact hq)]; exact a2, by rw [h0 (by omega) (by exact hq)]; exact a3, by rw [h0 (by omega) (by exact hq)]; exact a4⟩
  · obtain ⟨a1, ⟨i, a2, a3, a4⟩, a5, ⟨i', a6, a7, a8⟩, a9⟩ := h
    exact ⟨hn hq a1, ⟨i, by rw [h0 (by omega) (by exact hq)]; exact a2, by rw [h0 (by omega) (by exact hq)]; exact a3, RB _ _ a4.1, a4.2⟩, by rw [h0 (by omega) (by exact hq)]; exact a5, ⟨i', by rw [h0 (by omega) (by exact hq)]; exact a6, by rw [h0 (by omega) (by exact hq)]; exact a7, RB _ _ a8.1, a8.2⟩, by rw [h0 (by omega) (by exact hq)]; exact a9⟩
  · obtain ⟨a1, a2, a3⟩ := h
    exact ⟨hn hq a1, by rw [h0 (by omega) (by exact hq)]; exact a2, by rw [h0 (by omega) (by exact hq)]; exact a3⟩
  · obtain ⟨a1, a2, a3, a4⟩ := h
    exact ⟨hn hq a1, by rw [h0 (by omega) (by exact hq)]; exact a2, by rw [h0 (by omega) (by exact hq)]; exact a3, by rw [h0 (by omega) (by exact hq), h0 (by omega) (by exact hc _ _ _ _ (Or.inl rfl) rfl)]; exact a4⟩
  · obtain ⟨a1, a2, a3, a4⟩ := h
    exact ⟨hn hq a1, by rw [h0 (by omega) (by exact hq)]; exact a2, by rw [h0 (by omega) (by exact hq)]; exact a3, by rw [h0 (by omega) (by exact hq), h0 (by omega) (by exact hc _ _ _ _ (Or.inr rfl) rfl)]; exact a4⟩
  · obtain ⟨a1, a2, a3, i, a4, a5, a6, a7, a8, a9, a10⟩ := h
    exact ⟨hn hq a1, by rw [h0 (by omega) (by exact hq)]; exact a2, by rw [h0 (by omega) (by exact hq)]; exact a3, i, by rw [h0 (by omega) (by exact hq)]; exact a4, a5, a6, by rw [hJ (by omega) (by omega)]; exact a7, by rw [h0 (by omega) (by omega)]; exact a8, by rw [hJ (by omega) (by omega)]; exact a9, by rw [h0 (by omega) (by omega)]; exact a10⟩
  · obtain ⟨a1, a2, a3⟩ := h
    exact ⟨hn hq a1, by rw [h0 (by omega) (by exact hq)]; exact a2, by rw [h0 (by omega) (by exact hq)]; exact a3⟩
  · exact h.elim
theorem OKs_pr (hA : Hf fr S S') (hr : 75 * fr ≤ rlo ∧ rhi ≤ 75 * fr + 600) (hl : 75 * fr ≤ lo ∧ hi ≤ 75 * fr + 600) {x : TR} {p e : Nat} (w : Wt K x p e 0) (h : OKs K pl V S lo hi rlo rhi ν x) : OKs K pl V S' lo hi rlo rhi ν x := by
  intro y hy
  have hb := (h y hy).2
  refine ⟨RN_pr hA hr (by omega) (fun c j x' y' hcc he => ?_) (h y hy).1, hb⟩
  obtain ⟨p', e', -, -, w', hs⟩ := sub_W w y hy
  have hx : x' ∈ sbs y := by
    rcases hcc with rfl | rfl
    · subst he
      have w' : 1 ≤ stg (K j) ∧ Wt K x' p' j 0 ∧ Wt K y' (j + 1) e' 0 := w'
      exact List.mem_cons_of_mem _ (List.mem_append_left _ (Wt_ms w'.2.1))
    · subst he
      have w' : Wt K x' p' j 0 ∧ ∃ b, Wt K y' (j + 1) b 0 ∧ e' = b + 1 := w'
      exact List.mem_cons_of_mem _ (List.mem_append_left _ (Wt_ms w'.1))
  have := (h x' (hs x' hx)).2
  omega
theorem BL_pr (hA : Hf fr S S') (hl : 75 * fr ≤ lo ∧ hi ≤ 75 * fr + 600) {x : TR} {p e : Nat} (w : Wt K x p e 0) (h : OKs K pl V S lo hi rlo rhi ν x) {γ : List Nat} (b : BL V W fr ft ν S x γ) : BL V W fr ft ν S' x γ := by
  intro r c hc
  have hb := (h c.1 (sbc_sbs w γ r c hc)).2
  have q := b r c hc
  obtain ⟨c1, c2, c3⟩ := c
  have hb : 75 * fr ≤ ν (otk c1) ∧ ν (otk c1) < 75 * fr + 600 := by
    have hb : lo ≤ ν (otk c1) ∧ ν (otk c1) < hi := hb
    omega
  unfold BN at q ⊢
  simp only at q ⊢
  split at q
  · intro k hk
    rw [(hA 113 _ (by omega) (by exact hb)).1, (hA 114 _ (by omega) (by exact hb)).1, (hA 115 _ (by omega) (by exact hb)).1]
    exact q k hk
  · intro k hk
    rw [(hA 84 _ (by omega) (by exact hb)).1]
    exact q k hk
  · trivial
/-- what the reference holds of a program -/
def RHd (K pl : Nat → Nat) (V : Nat → Int64) (m fr : Nat) (y : TR) (e n' r' : Nat) (ν ρ : Nat → Nat) (W : Nat → Int32 × Int32 × Int32) (S : im_S) : Prop :=
  PW K y 0 e ∧ e ≤ m ∧ n' ≤ 75 * fr + 500 ∧ r' ≤ 75 * fr + 500 ∧ (fr = 0 ∨ fr = 8) ∧ (ftP y).length = tln y ∧ tln y ≤ 8 ∧ S.1 75 35 = nI (ftP y).length ∧ 8 * S.1 75 37 = nI fr ∧ FA (FD K pl V (75 * fr) n' (75 * fr) r' ν S) y fr ∧ FA (WPs W ν) y fr ∧ FA (fun _ p cnt x => BL V W fr (ftP y) ν S x (pms (p + 2) cnt).reverse) y fr ∧ mpR ρ (rgP y) 0 ∧ PLy S ν ρ (rgP y) (sbP y) ∧ ∀ c, c < (ftP y).length → S.1 96 c = nI (ρ (4 * ((ftP y).getD c (0, 0)).1))
theorem FA_rg {P Q : Nat → Nat → Nat → TR → Prop} {y : TR} {p e : Nat} (w : PW K y p e) : ∀ c0 : Nat, (∀ c q cnt x b e0, Wt K x b e0 0 → c0 ≤ c → c < c0 + tln y → cnt ≤ 4 → P c q cnt x → Q c q cnt x) → FA P y c0 → FA Q y c0 := by
  refine PW_ind (K := K) (P := fun y p e => ∀ c0 : Nat, (∀ c q cnt x b e0, Wt K x b e0 0 → c0 ≤ c → c < c0 + tln y → cnt ≤ 4 → P c q cnt x → Q c q cnt x) → FA P y c0 → FA Q y c0) ?_ ?_ (tsz y) y p e (Nat.le_refl _) w
  · intro p cnt x b e0 _ hc4 _ w1 hb c0 h hf
    exact ⟨h _ _ _ _ b e0 w1 (Nat.le_refl _) (show c0 < c0 + (0 + 1) by omega) hc4 hf.1, trivial⟩
  · intro p cnt x r b e0 e _ hc4 _ w1 hb _ w2 ih c0 h hf
    refine ⟨h _ _ _ _ b e0 w1 (Nat.le_refl _) (show c0 < c0 + (tln r + 1) by omega) hc4 hf.1, ih (c0 + 1) (fun c q cnt' x' b' e' v1 v2 v3 v4 v5 => h c q cnt' x' b' e' v1 (by omega) (show c < c0 + (tln r + 1) by omega) v4 v5) hf.2⟩
theorem FA_and {P Q : Nat → Nat → Nat → TR → Prop} : ∀ (s : Nat) (y : TR) (c : Nat), tsz y ≤ s → FA P y c → FA Q y c → FA (fun c p cnt x => P c p cnt x ∧ Q c p cnt x) y c := by
  intro s
  induction s with
  | zero => intro y c hs; cases y <;> simp [tsz] at hs
  | succ s ih =>
    intro y c hs h1 h2
    unfold FA at h1 ⊢
    split at h1
    · exact ⟨⟨h1.1, h2.1⟩, ih _ _ (by simp only [tsz] at hs; omega) h1.2 h2.2⟩
    · trivial
theorem RHd_ag {y : TR} {e n' r' : Nat} (h : RHd K pl V m fr y e n' r' ν ρ W S) (hA : Hf fr S S') (hF : ∀ a i : Nat, ((a = 97 ∨ a = 98 ∨ a = 99 ∨ a = 102) ∧ fr ≤ i ∧ i < fr + 8) ∨ ((a = 100 ∨ a = 101) ∧ 4 * fr ≤ i ∧ i < 4 * fr + 32) → S'.1 a i = S.1 a i ∧ S'.2.1 a i = S.2.1 a i) (hR : ∀ a i : Nat, a = 96 ∨ (103 ≤ a ∧ a ≤ 112) → S'.1 a i = S.1 a i) (h75 : ∀ i : Nat, i = 35 ∨ i = 37 ∨ i = 40 → S'.1 75 i = S.1 75 i) : RHd K pl V m fr y e n' r' ν ρ W S' := by
  obtain ⟨h1, h2, h3, h4, h5, h6, h7, h8, h9, h10, h11, h12, h13, h14, h15⟩ := h
  have hok : ∀ {c q cnt : Nat} {x : TR} {b e0 : Nat}, Wt K x b e0 0 → FD K pl V (75 * fr) n' (75 * fr) r' ν S c q cnt x → OKs K pl V S' (75 * fr) n' (75 * fr) r' ν x := fun {c q cnt x b e0} w f => OKs_pr hA (by omega) (by omega) w f.2.2.2.2.2
  refine ⟨h1, h2, h3, h4, h5, h6, h7, by rw [h75 35 (by omega)]; exact h8, by rw [h75 37 (by omega)]; exact h9, ?_, h11, ?_, h13, ⟨by rw [h75 40 (by omega)]; exact h14.1, fun g hg => ?_, fun z hz => IN_cp (fun a q1 q2 => hR a _ (by omega)) (h14.2.2 z hz)⟩, fun c hc => by rw [hR 96 _ (by omega)]; exact h15 c hc⟩
  · refine FA_rg h1 fr (fun c q cnt x b e0 w u1 u2 u3 f => ?_) h10
    have o := hok w f
    obtain ⟨f1, f2, f3, f4, f5, f6⟩ := f
    exact ⟨by rw [(hF 97 c (by omega)).2]; exact f1, by rw [(hF 98 c (by omega)).1]; exact f2, by rw [(hF 99 c (by omega)).1]; exact f3, fun i hi => ⟨by rw [(hF 100 _ (by omega)).2]; exact (f4 i hi).1, by rw [(hF 101 _ (by omega)).1]; exact (f4 i hi).2⟩, by rw [(hF 102 c (by omega)).1]; exact f5, o⟩
  · have h12' : FA (fun c p cnt x => FD K pl V (75 * fr) n' (75 * fr) r' ν S c p cnt x ∧ BL V W fr (ftP y) ν S x (pms (p + 2) cnt).reverse) y fr := FA_and (tsz y) y fr (Nat.le_refl _) h10 h12
    exact FA_rg h1 fr (fun c q cnt x b e0 w u1 u2 u3 f => BL_pr hA (by omega) w f.1.2.2.2.2.2 f.2) h12'
  · obtain ⟨r1, r2⟩ := h14.2.1 g hg
    exact ⟨RgL_cp r1 (hR 106 _ (by omega)) (hR 107 _ (by omega)) (hR 109 _ (by omega)) (fun k _ => ⟨hR 103 _ (by omega), hR 104 _ (by omega), hR 108 _ (by omega)⟩), by rw [hR 105 _ (by omega)]; exact r2⟩
end RPR
