/-! the class's chains of siblings -/
def Chn (S : im_S) : Int32 → List Nat → Prop
  | w, [] => w = -1
  | w, k :: l => w = nI k ∧ k < 512 ∧ Chn S (S.1 14 k) l
theorem Chn_cp {S S1 : im_S} : ∀ (l : List Nat) (w : Int32), (∀ k, k ∈ l → S1.1 14 k = S.1 14 k) → Chn S w l → Chn S1 w l := by
  intro l
  induction l with
  | nil => intro w _ h; exact h
  | cons k l ih =>
    intro w hk h
    refine ⟨h.1, h.2.1, ?_⟩
    rw [hk k (List.mem_cons_self ..)]
    exact ih _ (fun j hj => hk j (List.mem_cons_of_mem _ hj)) h.2.2
/-- one more at the end -/
theorem Chn_sn {S S1 : im_S} {v : Nat} (hv : v < 512) (hv1 : S1.1 14 v = -1) : ∀ (l : List Nat) (k : Nat) (w : Int32), (∀ j, j ∈ l → S1.1 14 j = S.1 14 j) → S1.1 14 k = nI v → Chn S w (l ++ [k]) → Chn S1 w (l ++ [k] ++ [v]) := by
  intro l
  induction l with
  | nil =>
    intro k w _ h1 h
    refine ⟨h.1, h.2.1, ?_⟩
    rw [h1]
    exact ⟨rfl, hv, hv1⟩
  | cons j l ih =>
    intro k w hk h1 h
    refine ⟨h.1, h.2.1, ?_⟩
    rw [hk j (List.mem_cons_self ..)]
    exact ih k _ (fun i hi => hk i (List.mem_cons_of_mem _ hi)) h1 h.2.2
theorem nI_m1' {k : Nat} (h : k < 512) : ¬ nI k = (-1 : Int32) := nI_m1 (by omega)
theorem c_lenL (fu : Nat) (S : im_S) (z1 : Int32) : ∀ (l : List Nat) (nf i : Nat) (w : Int32), Chn S w l → i + l.length < 512 → l.length < nf → f_X3_chainLength_L4 fu nf z1 (nI i) w S = some (nI (i + l.length), S) := by
  intro l
  induction l with
  | nil =>
    intro nf i w h _ hn
    obtain ⟨nf, rfl⟩ : ∃ z, nf = z + 1 := ⟨nf - 1, by omega⟩
    have h : w = -1 := h
    rw [f_X3_chainLength_L4, if_pos h]
    rfl
  | cons k l ih =>
    intro nf i w h h5 hn
    have h5 : i + (l.length + 1) < 512 := h5
    have hn : l.length + 1 < nf := hn
    obtain ⟨nf, rfl⟩ : ∃ z, nf = z + 1 := ⟨nf - 1, by omega⟩
    obtain ⟨h1, h2, h3⟩ := h
    have c5 : ¬ (512 : Int32) ≤ nI i := fun z => by have := (mI_le (a := 512) (b := i) (by omega) (by omega)).mp z; omega
    rw [f_X3_chainLength_L4, h1, if_neg (nI_m1' h2), if_neg c5, mI_in (a := k) (n := 512) (by omega) h2, nI_clamp (show k < 2 ^ 31 by omega), show nI i + 1 = nI (i + 1) from nI_add i 1]
    simp only [gd_t]
    rw [ih nf (i + 1) _ h3 (by omega) (by omega), show (k :: l).length = l.length + 1 from rfl, show i + 1 + l.length = i + (l.length + 1) by omega]
theorem c_len {fu : Nat} {S : im_S} {w : Int32} {l : List Nat} (h : Chn S w l) (hl : l.length < 512) (hfu : 600 ≤ fu) : f_X3_chainLength fu w S = some (nI l.length, S) := by
  unfold f_X3_chainLength
  have := c_lenL fu S w l fu 0 w h (by omega) (by omega)
  rw [Nat.zero_add] at this
  exact this
theorem c_app0 {fu : Nat} {S : im_S} {v : Int32} (hfu : 600 ≤ fu) : f_X3_append fu (-1) v S = some (v, S) := by
  unfold f_X3_append
  obtain ⟨nf, hnf⟩ : ∃ z, fu = z + 1 := ⟨fu - 1, by omega⟩
  have : ∀ fu' : Nat, f_X3_append_L5 fu' (nf + 1) (-1) v (-1) 0 S = some (v, S) := fun fu' => by
    rw [f_X3_append_L5, if_neg (by decide), if_pos rfl, if_neg (fun z => z rfl)]
  rw [show f_X3_append_L5 fu fu (-1) v (-1) 0 S = f_X3_append_L5 fu (nf + 1) (-1) v (-1) 0 S by rw [← hnf]]
  exact this fu
theorem c_appL (fu : Nat) (S : im_S) (z1 v : Int32) (k : Nat) : ∀ (l : List Nat) (nf i : Nat) (w : Int32), Chn S w (l ++ [k]) → i + l.length < 512 → l.length < nf → f_X3_append_L5 fu nf z1 v w (nI i) S = some (z1, uI S 14 k v) := by
  intro l
  induction l with
  | nil =>
    intro nf i w h h5 hn
    have h5 : i + 0 < 512 := h5
    obtain ⟨nf, rfl⟩ : ∃ z, nf = z + 1 := ⟨nf - 1, by omega⟩
    obtain ⟨h1, h2, h3⟩ := h
    have h3 : S.1 14 k = -1 := h3
    have c5 : ¬ (512 : Int32) ≤ nI i := fun z => by have := (mI_le (a := 512) (b := i) (by omega) (by omega)).mp z; omega
    rw [f_X3_append_L5, h1, if_neg c5, if_neg (nI_m1' h2), mI_in (a := k) (n := 512) (by omega) h2, nI_clamp (show k < 2 ^ 31 by omega)]
    simp only [gd_t]
    rw [if_pos h3, if_pos (nI_m1' h2)]
  | cons j l ih =>
    intro nf i w h h5 hn
    have h5 : i + (l.length + 1) < 512 := h5
    have hn : l.length + 1 < nf := hn
    obtain ⟨nf, rfl⟩ : ∃ z, nf = z + 1 := ⟨nf - 1, by omega⟩
    obtain ⟨h1, h2, h3⟩ := h
    have h3 : Chn S (S.1 14 j) (l ++ [k]) := h3
    have c5 : ¬ (512 : Int32) ≤ nI i := fun z => by have := (mI_le (a := 512) (b := i) (by omega) (by omega)).mp z; omega
    have hn1 : ¬ S.1 14 j = (-1 : Int32) := by
      cases l with
      | nil => have := h3.1; have h6 := h3.2.1; rw [this]; exact nI_m1' h6
      | cons a l => have := h3.1; have h6 := h3.2.1; rw [this]; exact nI_m1' h6
    rw [f_X3_append_L5, h1, if_neg c5, if_neg (nI_m1' h2), mI_in (a := j) (n := 512) (by omega) h2, nI_clamp (show j < 2 ^ 31 by omega), show nI i + 1 = nI (i + 1) from nI_add i 1]
    simp only [gd_t]
    rw [if_neg hn1]
    exact ih nf (i + 1) _ h3 (by omega) (by omega)
theorem c_app1 {fu : Nat} {S : im_S} {w v : Int32} {l : List Nat} {k : Nat} (h : Chn S w (l ++ [k])) (hl : l.length < 512) (hfu : 600 ≤ fu) : f_X3_append fu w v S = some (w, uI S 14 k v) := by
  unfold f_X3_append
  exact c_appL fu S w v k l fu 0 w h (by omega) (by omega)
theorem c_ficL (fu : Nat) {S : im_S} {V : Nat → Int64} {N : Nat → Nat} (z1 : Int32) (j : Nat) : ∀ (l : List Nat) (nf i : Nat) (w : Int32), Chn S w (l.map N) → (∀ b, b ∈ l → S.2.1 21 (N b) = V b) → i + l.length < 512 → l.length < nf → f_X3_findInChain_L6 fu nf z1 (V j) w (nI i) S = some (match fnd V l j with | some b => nI (N b) | none => -1, S) := by
  intro l
  induction l with
  | nil =>
    intro nf i w h _ h5 hn
    have h : w = -1 := h
    have h5 : i + 0 < 512 := h5
    obtain ⟨nf, rfl⟩ : ∃ z, nf = z + 1 := ⟨nf - 1, by omega⟩
    have c5 : ¬ (512 : Int32) ≤ nI i := fun z => by have := (mI_le (a := 512) (b := i) (by omega) (by omega)).mp z; omega
    rw [f_X3_findInChain_L6, if_neg c5, if_pos h, h]
    rfl
  | cons b l ih =>
    intro nf i w h hv h5 hn
    have h5 : i + (l.length + 1) < 512 := h5
    have hn : l.length + 1 < nf := hn
    obtain ⟨nf, rfl⟩ : ∃ z, nf = z + 1 := ⟨nf - 1, by omega⟩
    obtain ⟨h1, h2, h3⟩ := h
    have c5 : ¬ (512 : Int32) ≤ nI i := fun z => by have := (mI_le (a := 512) (b := i) (by omega) (by omega)).mp z; omega
    rw [f_X3_findInChain_L6, h1, if_neg c5, if_neg (nI_m1' h2), mI_in (a := N b) (n := 512) (by omega) h2, nI_clamp (show N b < 2 ^ 31 by omega), show nI i + 1 = nI (i + 1) from nI_add i 1, hv b (List.mem_cons_self ..)]
    simp only [gd_t]
    unfold fnd
    by_cases he : V b = V j
    · rw [if_pos ((lg_cmp_eq _ _).mpr he), if_pos he]
    · rw [if_neg (fun z => he ((lg_cmp_eq _ _).mp z)), if_neg he]
      exact ih nf (i + 1) _ h3 (fun b' hb => hv b' (List.mem_cons_of_mem _ hb)) (by omega) (by omega)
theorem c_fic {fu : Nat} {S : im_S} {V : Nat → Int64} {N : Nat → Nat} {w : Int32} {l : List Nat} (h : Chn S w (l.map N)) (hv : ∀ b, b ∈ l → S.2.1 21 (N b) = V b) (hl : l.length < 512) (hfu : 600 ≤ fu) (j : Nat) : f_X3_findInChain fu w (V j) S = some (match fnd V l j with | some b => nI (N b) | none => -1, S) := by
  unfold f_X3_findInChain
  exact c_ficL fu w j l fu 0 w h hv (by omega) (by omega)
/-- where a chain goes on: at its owner, or at its last -/
def Slt (l : List Nat) (n a0 k0 : Nat) : Prop := (l = [] ∧ a0 = 12 ∧ k0 = n) ∨ ∃ l', l = l' ++ [k0] ∧ a0 = 14
theorem c_slot {fu : Nat} {S : im_S} {n kx a0 k0 : Nat} {l : List Nat} (hc : Chn S (S.1 12 n) l) (hs : Slt l n a0 k0) (hp : l.Pairwise (· < ·)) (hl : l.length < 512) (hfu : 600 ≤ fu) (hkx : kx < 512) (hk14 : S.1 14 kx = -1) (hne : ∀ j, j ∈ l → j < kx) :
    ∃ (v : Int32) (D0 : im_S), f_X3_append fu (S.1 12 n) (nI kx) S = some (v, D0) ∧ uI D0 12 n v = uI S a0 k0 (nI kx) ∧ (uI S a0 k0 (nI kx)).1 12 n = v ∧ D0.1 3 = S.1 3 ∧ D0.1 34 = S.1 34 ∧ Chn (uI S a0 k0 (nI kx)) ((uI S a0 k0 (nI kx)).1 12 n) (l ++ [kx]) ∧ (l ++ [kx]).Pairwise (· < ·) := by
  have hpw : (l ++ [kx]).Pairwise (· < ·) := by
    rw [List.pairwise_append]
    exact ⟨hp, List.pairwise_singleton _ _, fun a ha b hb => by rw [List.mem_singleton] at hb; rw [hb]; exact hne a ha⟩
  rcases hs with ⟨h1, h2, h3⟩ | ⟨l', h1, h2⟩
  · subst h1 h2 h3
    have hc : S.1 12 k0 = -1 := hc
    refine ⟨nI kx, S, by rw [hc]; exact c_app0 hfu, rfl, uI_eq, rfl, rfl, ?_, hpw⟩
    rw [uI_eq]
    refine ⟨rfl, hkx, ?_⟩
    show (uI S 12 k0 (nI kx)).1 14 kx = -1
    rw [uI_ne (by omega)]
    exact hk14
  · subst h1 h2
    have e12 : (uI S 14 k0 (nI kx)).1 12 n = S.1 12 n := uI_ne (by omega)
    refine ⟨S.1 12 n, uI S 14 k0 (nI kx), c_app1 hc (by rw [List.length_append] at hl; omega) hfu, ?_, e12, ?_, ?_, ?_, hpw⟩
    · refine im_ext (fun a j => ?_) (fun a j => rfl) rfl
      by_cases q : a = 12 ∧ j = n
      · rw [q.1, q.2, uI_eq, e12]
      · rw [uI_ne (by omega)]
    · funext j; exact uI_ne (by omega)
    · funext j; exact uI_ne (by omega)
    · rw [e12]
      have hk : ∀ j, j ∈ l' → j < k0 := fun j hj => (List.pairwise_append.mp hp).2.2 j hj k0 (List.mem_singleton.mpr rfl)
      refine Chn_sn hkx ?_ l' k0 _ (fun j hj => uI_ne (by have := hk j hj; omega)) uI_eq hc
      rw [uI_ne (by have := hne k0 (List.mem_append_right _ (List.mem_singleton.mpr rfl)); omega)]
      exact hk14
