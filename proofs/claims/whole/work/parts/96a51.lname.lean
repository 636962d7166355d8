/-! the reference finds a loop's name -/
section LNM
variable {K pl : Nat → Nat} {V : Nat → Int64}
theorem ds_at : ∀ x : TR, LL x → ∀ (pre : List Nat), DsF V x pre → ∀ k q : Nat, (tks x)[k]? = some q → (∀ k' q' : Nat, k' < k → (tks x)[k']? = some q' → V q' ≠ V q) ∧ (fnd V pre q).isSome = false := by
  refine LL_ind (fun pre _ k q h => by cases h) (fun p x r _ ih pre h k q hk => ?_)
  cases k with
  | zero =>
    have hk : some p = some q := hk
    cases hk
    exact ⟨fun k' q' c => absurd c (by omega), h.1⟩
  | succ k =>
    obtain ⟨u1, u2⟩ := ih (p :: pre) h.2 k q hk
    have u2 : (if V p = V q then some p else fnd V pre q).isSome = false := u2
    by_cases c : V p = V q
    · rw [if_pos c] at u2
      cases u2
    · rw [if_neg c] at u2
      refine ⟨fun k' q' c1 c2 => ?_, u2⟩
      cases k' with
      | zero =>
        have c2 : some p = some q' := c2
        cases c2
        exact c
      | succ k' => exact u1 k' q' (by omega) c2
theorem idx_fst : ∀ (l : List Nat) (k q : Nat), l[k]? = some q → (∀ k' q' : Nat, k' < k → l[k']? = some q' → V q' ≠ V q) → idx V l q = some k := by
  intro l
  induction l with
  | nil => intro k q h; cases h
  | cons a l ih =>
    intro k q h hno
    cases k with
    | zero =>
      have h : some a = some q := h
      cases h
      exact if_pos rfl
    | succ k =>
      have hne : V a ≠ V q := hno 0 a (by omega) rfl
      have := ih k q h (fun k' q' c1 c2 => hno (k' + 1) q' (by omega) c2)
      show (if V a = V q then some 0 else (idx V l q).map (· + 1)) = some (k + 1)
      rw [if_neg hne, this]
      rfl
theorem idx_val : ∀ (l : List Nat) (k q : Nat), idx V l q = some k → ∃ p, l[k]? = some p ∧ V p = V q := by
  intro l
  induction l with
  | nil => intro k q h; cases h
  | cons a l ih =>
    intro k q h
    have h : (if V a = V q then some 0 else (idx V l q).map (· + 1)) = some k := h
    by_cases c : V a = V q
    · rw [if_pos c] at h
      cases h
      exact ⟨a, rfl, c⟩
    · rw [if_neg c] at h
      cases hh : idx V l q with
      | none => rw [hh] at h; cases h
      | some k' =>
        rw [hh] at h
        have h : some (k' + 1) = some k := h
        cases h
        obtain ⟨p, u1, u2⟩ := ih k' q hh
        exact ⟨p, u1, u2⟩
theorem idx_cg {q q' : Nat} (h : V q = V q') : ∀ l : List Nat, idx V l q = idx V l q' := by
  intro l
  induction l with
  | nil => rfl
  | cons a l ih =>
    show (if V a = V q then some 0 else (idx V l q).map (· + 1)) = (if V a = V q' then some 0 else (idx V l q').map (· + 1))
    rw [h, ih]
theorem rwX_in {q : Nat} : ∀ x : TR, LL x → ∀ p e, x = .nil ∨ Wt K x p e 102 → RwT K V x → ∀ xk, rwX x q = some xk → (∀ γ r, (xk, γ, r) ∈ sbc x γ r) ∧ tyV K V xk = tvV (V q) := by
  refine LL_ind (fun p e _ _ xk h => by cases h) (fun p' x r hr ih p e w ht xk h => ?_)
  rcases w with w | w
  · cases w
  obtain ⟨-, -, -, b, w1, w2⟩ := w
  have h : (if p' = q then some x else rwX r q) = some xk := h
  by_cases c : p' = q
  · rw [if_pos c] at h
    cases h
    exact ⟨fun γ r' => ml _ (hd_in w1 γ r'), by rw [← c]; exact ht.1⟩
  · rw [if_neg c] at h
    have := ih (b + 1) e (by rcases w2 with w2 | w2; exact .inl w2.1; exact .inr w2.2) ht.2 xk h
    exact ⟨fun γ r' => mr _ (this.1 γ r'), this.2⟩
theorem nxX_in {q : Nat} : ∀ x : TR, LL x → ∀ p e, x = .nil ∨ Wt K x p e 102 → RwT K V x → ∀ xk, nxX V x q = some xk → (∀ γ r, (xk, γ, r) ∈ sbc x γ r) ∧ tyV K V xk = tvV (V q) := by
  refine LL_ind (fun p e _ _ xk h => by cases h) (fun p' x r hr ih p e w ht xk h => ?_)
  rcases w with w | w
  · cases w
  obtain ⟨-, -, -, b, w1, w2⟩ := w
  have h : (if V p' = V q then some x else nxX V r q) = some xk := h
  by_cases c : V p' = V q
  · rw [if_pos c] at h
    cases h
    exact ⟨fun γ r' => ml _ (hd_in w1 γ r'), by rw [← c]; exact ht.1⟩
  · rw [if_neg c] at h
    have := ih (b + 1) e (by rcases w2 with w2 | w2; exact .inl w2.1; exact .inr w2.2) ht.2 xk h
    exact ⟨fun γ r' => mr _ (this.1 γ r'), this.2⟩
end LNM
section LNR
variable {K pl : Nat → Nat} {V : Nat → Int64} {m fr e n' r' fu : Nat} {y : TR} {q0 : Nat} {ar : Nat → Int64} {ν ρ : Nat → Nat} {W : Nat → Int32 × Int32 × Int32} {S : im_S} {nA nS nT : Nat} {A : Nat → TPth} {b : Nat → Nat} {vals : TPth → Nat → Option TVal} {lk : TPth → Nat → Option TPth} {M : Nat → TPth × Nat} {Lv : List TEv} {f1 f2 : Nat → Nat}
/-- through the rows behind next -/
theorem l17 {rlo rhi j i0 i1 n1 nx k q : Nat} {K3 : Int32 → Int32 → Int32 → Int32 → im_S → Option (Unit × im_S)} {z1 : Int32} {l : List Nat} (hj : j < 1200) (hx : nx < 24000) (hrh : rhi ≤ 1200) (h89 : S.1 89 j = nI i0) (h90 : S.1 90 j = nI l.length) (hl : i0 + l.length ≤ 1200) (hln : l.length < fu) (hN : RwN V S i0 l) (h91 : S.1 91 j = nI i1) (h92 : S.1 92 j = nI n1) (hk : idx V l q = some k) :
    ∀ x : TR, LL x → ∀ (i nf : Nat), RwB pl V S rlo rhi ν x (i1 + i) → i + tln x = n1 → tln x < nf → i1 + n1 ≤ 1200 → NsF V l x [] ∨ (∃ pre, NsF V l x pre) → f_X11_loopName_L17 fu K3 nf z1 (nI j) (nI k) (nI nx) (nI i) S = (match nxX V x q with | some x' => (f_X11_slot (S.1 125 nx) (nI (ν (otk x'))) S).bind (fun qS6 => (f_X11_foundAt qS6.1 qS6.2).bind (fun qS9 => some ((), qS9.2))) | none => K3 z1 (nI j) (nI k) (S.1 124 nx) S) := by
  have hk4 : k < l.length := idx_lt l q k hk
  refine LL_ind (fun i nf _ hi hnf hn1 _ => ?_) (fun p x r _ ih i nf h hi hnf hn1 hns => ?_)
  · obtain ⟨nf, rfl⟩ : ∃ z, nf = z + 1 := ⟨nf - 1, by omega⟩
    have hi : i + 0 = n1 := hi
    rw [f_X11_loopName_L17, mI_in (a := j) (n := 1200) (by omega) hj, nI_clamp (show j < 2 ^ 31 by omega), h92, mI_in (a := nx) (n := 24000) (by omega) hx, nI_clamp (show nx < 2 ^ 31 by omega)]
    simp only [gd_t]
    rw [if_pos ((mI_le (a := n1) (b := i) (by omega) (by omega)).mpr (by omega))]
    rfl
  · obtain ⟨nf, rfl⟩ : ∃ z, nf = z + 1 := ⟨nf - 1, by omega⟩
    have hi : i + (tln r + 1) = n1 := hi
    have hnf : tln r + 1 < nf + 1 := hnf
    obtain ⟨h1, h2, h3, h4, h5, h6⟩ := h
    have hns' : ∃ pre, NsF V l (.append (.tag p x) r) pre := by
      rcases hns with c | c
      · exact ⟨[], c⟩
      · exact c
    obtain ⟨pre, ns1, ns2, ns3⟩ := hns'
    have hsome : (idx V l p).isSome = true := by rw [idx_fnd]; exact ns1
    obtain ⟨kp, hkp⟩ := Option.isSome_iff_exists.mp hsome
    have hkp4 := idx_lt l p kp hkp
    have hpo : f_X11_partOf fu (nI j) (S.2.1 93 (i1 + i)) S = some (nI kp, S) := by
      unfold f_X11_partOf
      have := r_partL (V := V) (fu := fu) (S := S) (n := l.length) hj h90 h89 hl p l fu 0 hN (by omega) (by omega)
      rw [h3]
      rw [hkp] at this
      show f_X11_partOf_L3 fu fu (nI j) (V p) 0 S = _
      have e0 : nI (0 + kp) = nI kp := by rw [Nat.zero_add]
      rw [← e0]
      exact this
    rw [f_X11_loopName_L17, mI_in (a := j) (n := 1200) (by omega) hj, nI_clamp (show j < 2 ^ 31 by omega), h92, h91, nI_add, mI_in (a := i1 + i) (n := 1200) (by omega) (by omega), nI_clamp (show i1 + i < 2 ^ 31 by omega), mI_in (a := nx) (n := 24000) (by omega) hx, nI_clamp (show nx < 2 ^ 31 by omega)]
    simp only [gd_t]
    rw [if_neg (fun c => by have := (mI_le (a := n1) (b := i) (by omega) (by omega)).mp c; omega), hpo]
    simp only [Option.bind_some]
    have hio : nI kp = nI k ↔ V p = V q := by
      refine ⟨fun c => ?_, fun c => ?_⟩
      · have c := (nI_eq (by omega) (by omega)).mp c
        subst c
        obtain ⟨u, u1, u2⟩ := idx_val l kp p hkp
        obtain ⟨u', u1', u2'⟩ := idx_val l kp q hk
        rw [u1] at u1'
        cases u1'
        exact u2.symm.trans u2'
      · rw [idx_cg c l, hk] at hkp
        cases hkp
        rfl
    by_cases c : V p = V q
    · rw [if_pos (hio.mpr c), show nxX V (.append (.tag p x) r) q = some x from if_pos c, h91, nI_add, mI_in (a := i1 + i) (n := 1200) (by omega) (by omega), nI_clamp (show i1 + i < 2 ^ 31 by omega), h5]
      rfl
    · rw [if_neg (fun z => c (hio.mp z)), show nxX V (.append (.tag p x) r) q = nxX V r q from if_neg c, show nI i + 1 = nI (i + 1) from nI_add i 1]
      exact ih (i + 1) nf (by rw [show i1 + (i + 1) = i1 + i + 1 by omega]; exact h6) (by omega) (by omega) hn1 (.inr ⟨_, ns3⟩)
end LNR
