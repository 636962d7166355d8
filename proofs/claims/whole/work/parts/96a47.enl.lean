/-! entering paths one behind the other; giving a value -/
def upN {α : Type} (f : Nat → α) (i : Nat) (v : α) : Nat → α := fun x => if x = i then v else f x
theorem upN_eq {α : Type} {f : Nat → α} {i : Nat} {v : α} : upN f i v i = v := if_pos rfl
theorem upN_ne {α : Type} {f : Nat → α} {i x : Nat} {v : α} (h : x ≠ i) : upN f i v x = f x := if_neg h
def exF (u v : Nat) (y : TR) (f : Nat → Nat) (n r : Nat) : Nat → Nat := fun s => if s < n then f s else (((rgL y r)[s - n]?).map (pcT u v (scP y))).getD 0
def EnL (y : TR) (ρ : Nat → Nat) (S S2 : im_S) (nA nS n nS2 : Nat) (A : Nat → TPth) (b : Nat → Nat) (c1 c2 c3 : Nat → Int32) (f1 f2 : Nat → Nat) (t1 t2 : Nat) : Prop :=
  S2.1 75 57 = nI (nA + n) ∧ S2.1 75 64 = nI nS2 ∧ nS ≤ nS2 ∧
  (∀ x, nA ≤ x → x < nA + n → S2.1 120 x = nI (ρ (hdR (A x))) ∧ S2.1 121 x = c1 x ∧ S2.1 122 x = nI (b x) ∧ S2.1 123 x = nI (rgL y (hdR (A x))).length ∧ S2.1 124 x = c2 x ∧ S2.1 125 x = c3 x ∧ nS ≤ b x ∧ b x + (rgL y (hdR (A x))).length ≤ nS2 ∧ ∀ k t : Nat, (rgL y (hdR (A x)))[k]? = some t → S2.1 126 (b x + k) = 0 ∧ S2.1 128 (b x + k) = -1 ∧ f1 (b x + k) = pcT 1 0 (scP y) t ∧ f2 (b x + k) = pcT 0 1 (scP y) t) ∧
  (∀ x x', nA ≤ x → x < x' → x' < nA + n → b x + (rgL y (hdR (A x))).length ≤ b x') ∧
  (∀ s, nS ≤ s → s < nS2 → S2.1 126 s = 0) ∧
  (∀ a i : Nat, (a = 75 → i ≠ 57 ∧ i ≠ 64) → (120 ≤ a → a ≤ 125 → i < nA) → (a = 126 ∨ a = 128 → i < nS) → S2.1 a i = S.1 a i) ∧ S2.2.1 = S.2.1 ∧
  nS2 + tot f1 nS2 = nS + tot f1 nS + t1 ∧ tot f2 nS2 = tot f2 nS + t2
section ENL
variable {K pl : Nat → Nat} {V : Nat → Int64} {m fr e n' r' fu : Nat} {y : TR} {ν ρ : Nat → Nat} {W : Nat → Int32 × Int32 × Int32} {S S2 : im_S} {nA nS n nS2 : Nat} {A : Nat → TPth} {b : Nat → Nat} {c1 c2 c3 : Nat → Int32} {f1 f2 : Nat → Nat} {t1 t2 : Nat}
theorem EnL_nil (h1 : S.1 75 57 = nI nA) (h2 : S.1 75 64 = nI nS) : EnL y ρ S S nA nS 0 nS A b c1 c2 c3 f1 f2 0 0 :=
  ⟨h1, h2, Nat.le_refl _, fun x q1 q2 => absurd q2 (by omega), fun x x' q1 q2 q3 => absurd q3 (by omega), fun s q1 q2 => absurd q2 (by omega), fun a i _ _ _ => rfl, rfl, rfl, rfl⟩
theorem exF_lo {u v : Nat} {f : Nat → Nat} {n r s : Nat} (h : s < n) : exF u v y f n r s = f s := if_pos h
theorem exF_tot {u v : Nat} {f : Nat → Nat} {n r : Nat} : tot (exF u v y f n r) (n + (rgL y r).length) = tot f n + sumL ((rgL y r).map (pcT u v (scP y))) := by
  rw [tot_add, tot_cg n (fun i hi => exF_lo hi), ← tot_list]
  congr 1
  refine tot_cg _ (fun i _ => ?_)
  show (if n + i < n then _ else (((rgL y r)[n + i - n]?).map (pcT u v (scP y))).getD 0) = _
  rw [if_neg (by omega), Nat.add_sub_cancel_left]
theorem EnL_sn (T : TH K pl V m) (hfu : 600 ≤ fu) (R : RHd K pl V m fr y e n' r' ν ρ W S) (h : EnL y ρ S S2 nA nS n nS2 A b c1 c2 c3 f1 f2 t1 t2) {P : TPth} (hP : POk V y P) {o x3 x4 : Int32} (hA : nA + n < 24000) (hb : nS2 + (rgL y (hdR P)).length ≤ 520000) :
    ∃ S3 : im_S, f_X11_enter fu (nI (ρ (hdR P))) o x3 x4 S2 = some (nI (nA + n), S3) ∧ EnL y ρ S S3 nA nS (n + 1) (nS2 + (rgL y (hdR P)).length) (upN A (nA + n) P) (upN b (nA + n) nS2) (upN c1 (nA + n) o) (upN c2 (nA + n) x3) (upN c3 (nA + n) x4) (exF 1 0 y f1 nS2 (hdR P)) (exF 0 1 y f2 nS2 (hdR P)) (t1 + cwR 1 0 y (hdR P)) (t2 + cwR 0 1 y (hdR P)) := by
  have w := R.1
  obtain ⟨h1, h2, h3, h4, h5, h6, h7, h8, h9, h10⟩ := h
  obtain ⟨rt, hg⟩ := POk_rg w hP
  obtain ⟨-, g1, g2, -⟩ := rg_at R T hg
  have hlen : (rgL y (hdR P)).length ≤ 500 := by
    have hm := T.m_
    have := R.2.1
    have := rgL_le w (by omega) hP
    omega
  obtain ⟨S3, u1, u2, u3, u4, u5, u6, u7, u8, u9, u10, u11, u12⟩ := r_enter (fu := fu) (S := S2) (o := o) (x3 := x3) (x4 := x4) hfu g1 h1 hA h2 (by rw [h7 106 _ (by omega) (by omega) (by omega)]; exact g2) hlen hb
  refine ⟨S3, u1, by rw [u2]; rfl, u3, by omega, fun x q1 q2 => ?_, fun x x' q1 q2 q3 => ?_, fun s q1 q2 => ?_, fun a i q1 q2 q3 => ?_, u12.trans h8, ?_, ?_⟩
  · by_cases c : x = nA + n
    · subst c
      rw [upN_eq, upN_eq, upN_eq, upN_eq, upN_eq]
      refine ⟨u4, u5, u6, u7, u8, u9, h3, Nat.le_refl _, fun k t hk => ?_⟩
      have hl := (List.getElem?_eq_some_iff.mp hk).1
      refine ⟨(u10 _ (by omega) (by omega)).1, (u10 _ (by omega) (by omega)).2, ?_, ?_⟩
      · show (if nS2 + k < nS2 then _ else (((rgL y (hdR P))[nS2 + k - nS2]?).map _).getD 0) = _
        rw [if_neg (by omega), Nat.add_sub_cancel_left, hk]
        rfl
      · show (if nS2 + k < nS2 then _ else (((rgL y (hdR P))[nS2 + k - nS2]?).map _).getD 0) = _
        rw [if_neg (by omega), Nat.add_sub_cancel_left, hk]
        rfl
    · obtain ⟨v1, v2, v3, v4, v5, v6, v7, v8, v9⟩ := h4 x q1 (by omega)
      rw [upN_ne c, upN_ne c, upN_ne c, upN_ne c, upN_ne c]
      refine ⟨by rw [u11 120 x (by omega) (by omega) (by omega)]; exact v1, by rw [u11 121 x (by omega) (by omega) (by omega)]; exact v2, by rw [u11 122 x (by omega) (by omega) (by omega)]; exact v3, by rw [u11 123 x (by omega) (by omega) (by omega)]; exact v4, by rw [u11 124 x (by omega) (by omega) (by omega)]; exact v5, by rw [u11 125 x (by omega) (by omega) (by omega)]; exact v6, v7, by omega, fun k t hk => ?_⟩
      have hl := (List.getElem?_eq_some_iff.mp hk).1
      obtain ⟨k1, k2, k3, k4⟩ := v9 k t hk
      exact ⟨by rw [u11 126 _ (by omega) (by omega) (by omega)]; exact k1, by rw [u11 128 _ (by omega) (by omega) (by omega)]; exact k2, by rw [exF_lo (by omega)]; exact k3, by rw [exF_lo (by omega)]; exact k4⟩
  · by_cases c : x' = nA + n
    · subst c
      rw [upN_eq, upN_ne (by omega), upN_ne (by omega)]
      exact (h4 x q1 (by omega)).2.2.2.2.2.2.2.1
    · rw [upN_ne (by omega), upN_ne (by omega), upN_ne (by omega)]
      exact h5 x x' q1 q2 (by omega)
  · rcases Nat.lt_or_ge s nS2 with c | c
    · rw [u11 126 s (by omega) (by omega) (by omega)]
      exact h6 s q1 c
    · exact (u10 s c (by omega)).1
  · rw [u11 a i (by omega) (by omega) (by omega)]
    exact h7 a i q1 q2 q3
  · rw [exF_tot, tot_cg (g := f1) nS (fun i hi => exF_lo (show i < nS2 by omega))]
    unfold cwR
    omega
  · rw [exF_tot, tot_cg (g := f2) nS (fun i hi => exF_lo (show i < nS2 by omega))]
    unfold cwR
    omega
end ENL
