/-! where a use finds its variable, in the class -/
section LKU
variable {K pl : Nat → Nat} {V : Nat → Int64} {y : TR} {e : Nat} {N M L : Nat → Nat} {n ρ τ : Nat} {G : im_S} {sl tO sO kO crt : Nat → Nat} {f : Nat} {W : Nat → Int32 × Int32 × Int32} {ν : Nat → Nat} {q0 : Nat} {ar : Nat → Int64} {S : im_S} {En : TPth → Prop} {cv vr : TPth → Nat → Option TVal} {mv : Option (TPth × Nat × TVal)} {Aw : TPth → Nat → Prop} {WV WC : TPth → Nat → TPth → Nat → Prop} {R H : List TEv} {nS nF fu : Nat} {fb : Nat → Nat} {fp : Nat → TPth} {fi : TPth → Nat} {tf : TPth → Nat → Nat} {tb : TPth → Nat → Option Nat} {ow si fo : Nat → Int32} {lw : Nat → Int64}
theorem ifr_ft {c : Nat} (h : c / 4 ∈ (ftP y).map Prod.fst) : ifr y c := .inl h
theorem dp_fp : ∀ P : TPth, dpF y (fpt y P) = dpF y P := by
  intro P
  induction P with
  | nil => rfl
  | cons c Q ih =>
    by_cases h : ifr y c.1
    · rw [fpt_y h]
    · rw [fpt_n h, ih, dp_n (fun q => h (ifr_ft q)) h]
theorem fp_fp : ∀ P : TPth, fpt y (fpt y P) = fpt y P := by
  intro P
  induction P with
  | nil => rfl
  | cons c Q ih =>
    by_cases h : ifr y c.1
    · rw [fpt_y h, fpt_y h]
    · rw [fpt_n h, ih]
theorem fp_len : ∀ P : TPth, (fpt y P).length ≤ P.length := by
  intro P
  induction P with
  | nil => exact Nat.le_refl _
  | cons c Q ih =>
    by_cases h : ifr y c.1
    · rw [fpt_y h]
      exact Nat.le_refl _
    · rw [fpt_n h, List.length_cons]
      omega
theorem up_En (a1 : ABe V y q0 En) {r0 : Nat} : ∀ P, En P → upF y r0 P ≠ [] → En (upF y r0 P) := by
  intro P
  induction P with
  | nil => intro _ h; exact absurd rfl h
  | cons c Q ih =>
    intro hE h
    by_cases h1 : c.1 = r0
    · rw [show upF y r0 (c :: Q) = c :: Q from if_pos h1]
      exact hE
    · by_cases h2 : c.1 / 4 ∈ (ftP y).map Prod.fst
      · exact absurd ((if_neg h1).trans (if_pos h2)) h
      · have e1 : upF y r0 (c :: Q) = upF y r0 Q := (if_neg h1).trans (if_neg h2)
        rw [e1] at h ⊢
        refine ih (a1.2.2.1 c Q hE (fun q => ?_)) h
        rw [q] at h
        exact h rfl
/-- the frame of a use's variable -/
theorem use_up (X : XB K pl V y e N M L n ρ τ G sl tO sO kO crt f W ν) {P : TPth} {j : Nat} {x : TR} {γ : List Nat} {r : Nat} (hz : (.tag 3 (.tag j x), γ, r) ∈ scP y) (hr : r = hdR P) (hP : POk V y P) {b : Nat} (hb : fnd V γ j = some b) : ∃ r0, upF y r0 P ≠ [] ∧ VF V y P b (fpt y (upF y r0 P)) ∧ VT V y (fpt y (upF y r0 P)) b := by
  have w := X.1.1
  have hVS : VrS y P b := by
    cases P with
    | nil => exact absurd hP id
    | cons c Q =>
      have hr : r = c.1 := hr
      have := vr_P (V := V) w hz c.2 Q (by show POk V y ((r, c.2) :: Q); rw [hr]; exact hP) b (fnd_in _ _ _ hb)
      have this : VrS y ((r, c.2) :: Q) b := this
      rw [hr] at this
      exact this
  have hd : ∀ {r0 : Nat}, upF y r0 P ≠ [] → ifr y r0 → fpt y (upF y r0 P) = upF y r0 P ∧ hdR (upF y r0 P) = r0 ∧ upP r0 P = upF y r0 P := fun {r0} h1 h2 => by
    obtain ⟨u1, i, Q, u2⟩ := upF_up P h1
    refine ⟨?_, ?_, u1⟩
    · rw [u2]
      exact fpt_y h2
    · rw [u2]
      rfl
  have hpk : ∀ {r0 : Nat}, upF y r0 P ≠ [] → POk V y (upF y r0 P) ∧ hdR (upF y r0 P) = r0 := fun {r0} h1 => by
    obtain ⟨u1, i, Q, u2⟩ := upF_up P h1
    refine ⟨?_, by rw [u2]; rfl⟩
    have : ∀ P', POk V y P' → upF y r0 P' ≠ [] → POk V y (upF y r0 P') := by
      intro P'
      induction P' with
      | nil => intro _ h; exact absurd rfl h
      | cons c D ih =>
        intro hp h
        by_cases g1 : c.1 = r0
        · rw [show upF y r0 (c :: D) = c :: D from if_pos g1]
          exact hp
        · by_cases g2 : c.1 / 4 ∈ (ftP y).map Prod.fst
          · exact absurd ((if_neg g1).trans (if_pos g2)) h
          · have e1 : upF y r0 (c :: D) = upF y r0 D := (if_neg g1).trans (if_neg g2)
            rw [e1] at h ⊢
            cases D with
            | nil => exact absurd rfl h
            | cons d D => exact ih hp.2 h
    exact this P hP h1
  rcases hVS with ⟨p, cnt, xf, z, h1, h2, h3, h4⟩ | ⟨k, xk, xk', γk, rk, h1, h2, h3⟩ | ⟨k, fs, c, ns, g, γk, rk, h1, h2, h3⟩ | ⟨k, xk, xk', γk, rk, h1, h2, h3⟩ | ⟨k, xk, xk', γk, rk, h1, h2, h3, h4⟩
  · obtain ⟨u1, u2, u3⟩ := hd h4 (ifr_fn w h1)
    exact ⟨4 * p, h4, .inl ⟨p, cnt, xf, z, h1, h2, h3, by rw [u1, u3]⟩, .inl ⟨p, cnt, xf, z, h1, h2, h3, by rw [u1]; exact u2⟩⟩
  · obtain ⟨u1, u2⟩ := hpk h3
    have u3 := (upF_up P h3).1
    exact ⟨rk, h3, .inr (.inl ⟨k, xk, xk', γk, rk, h1, h2, by rw [u3]⟩), .inr (.inl ⟨k, xk, xk', γk, rk, _, h1, h2, u1, u2, rfl⟩)⟩
  · by_cases hnx : nxX V ns b = none
    · have hk7 : ∃ i Q, upF y (4 * k) P = (4 * k, i) :: Q := (upF_up P h3).2
      obtain ⟨i, Q, hk7⟩ := hk7
      obtain ⟨v1, v2, -⟩ := up_tl (V := V) w h1 (.inl rfl) P hP hk7
      have v1 : upF y rk P = Q := v1
      have v2 : hdR Q = rk := v2
      have hQ : Q ≠ [] := fun q => by
        have hp := (hpk h3).1
        rw [hk7, q] at hp
        obtain ⟨q', cnt', x', g1, g2⟩ := hp
        have : 4 * k = 4 * q' := congrArg Prod.fst g2
        have : k = q' := by omega
        exact (ft_fu w).2.2 q' (fu_ft w g1) _ h1 this
      have h4 : upF y rk P ≠ [] := by rw [v1]; exact hQ
      obtain ⟨u1, u2⟩ := hpk h4
      have u3 := (upF_up P h4).1
      exact ⟨rk, h4, .inr (.inr (.inl ⟨k, fs, c, ns, g, γk, rk, h1, h2, .inr ⟨hnx, by rw [u3]⟩⟩)), .inr (.inr (.inl ⟨k, fs, c, ns, g, γk, rk, h1, h2, .inr ⟨hnx, _, u1, u2, rfl⟩⟩))⟩
    · obtain ⟨u1, u2, u3⟩ := hd h3 ((ifr_nd w h1 (k := 0) (by omega)).mpr (.inl ⟨rfl, rfl⟩))
      exact ⟨4 * k, h3, .inr (.inr (.inl ⟨k, fs, c, ns, g, γk, rk, h1, h2, .inl ⟨hnx, by rw [u1, u3]⟩⟩)), .inr (.inr (.inl ⟨k, fs, c, ns, g, γk, rk, h1, h2, .inl ⟨hnx, by rw [u1]; exact u2⟩⟩))⟩
  · obtain ⟨u1, u2, u3⟩ := hd h3 ((ifr_nd w h1 (k := 0) (by omega)).mpr (.inr rfl))
    exact ⟨4 * k, h3, .inr (.inr (.inr ⟨k, xk, xk', γk, rk, h1, .inl h2, by rw [u1, u3]⟩)), .inr (.inr (.inr ⟨k, xk, xk', γk, rk, h1, .inl h2, by rw [u1]; exact u2⟩))⟩
  · obtain ⟨u1, u2, u3⟩ := hd h4 ((ifr_nd w h1 (k := 0) (by omega)).mpr (.inr rfl))
    exact ⟨4 * k, h4, .inr (.inr (.inr ⟨k, xk, xk', γk, rk, h1, .inr h2, by rw [u1, u3]⟩)), .inr (.inr (.inr ⟨k, xk, xk', γk, rk, h1, .inr h2, by rw [u1]; exact u2⟩))⟩
/-- frames outward -/
theorem k_out (hO : MO y q0 N En nF fp fi tf tb ow si fo) (hE : ∀ P, En P → OP V y nF fp fi P) (hq0 : q0 ∈ (ftP y).map Prod.fst) (h69 : ∀ f, f < nF → S.1 69 f = ow f) (hl : nF ≤ S.2.2 69) (hl2 : nF ≤ 32768) {z1 : Int32} {D : Nat} (hD : D ≤ 500) : ∀ (d nf : Nat) (F : TPth), d ≤ D → d < nf → fi F < nF → fp (fi F) = F → fpt y F = F → d ≤ dpF y F → f_X2_outward_L5 fu nf z1 (nI D) (nI (fi F)) (nI (D - d)) S = some (nI (fi (itF y d F)), S) := by
  intro d
  induction d with
  | zero =>
    intro nf F h1 h2 h3 h4 h5 h6
    obtain ⟨nf, rfl⟩ : ∃ q, nf = q + 1 := ⟨nf - 1, by omega⟩
    rw [f_X2_outward_L5, if_pos ((mI_le (a := D) (b := D - 0) (by omega) (by omega)).mpr (by omega))]
    rfl
  | succ d ih =>
    intro nf F h1 h2 h3 h4 h5 h6
    obtain ⟨nf, rfl⟩ : ∃ q, nf = q + 1 := ⟨nf - 1, by omega⟩
    have hne : fi F ≠ 0 := fun q => by
      rw [q, hO.2.1] at h4
      rw [← h4, dp_f (by show 4 * q0 / 4 ∈ _; rw [show 4 * q0 / 4 = q0 by omega]; exact hq0)] at h6
      omega
    obtain ⟨c, Q, o1, o2, o3, o4, -⟩ := hO.2.2.2 (fi F) h3 hne
    rw [h4] at o1
    have hOP := hE Q o3
    have hcf : ¬ c.1 / 4 ∈ (ftP y).map Prod.fst := fun q => by
      rw [o1, dp_f q] at h6
      omega
    have hci : ifr y c.1 := Classical.byContradiction (fun q => by
      rw [o1, fpt_n q] at h5
      have h7 := congrArg List.length h5
      have h8 := fp_len (y := y) Q
      rw [List.length_cons] at h7
      omega)
    have hdq : dpF y F = 1 + dpF y Q := by rw [o1]; exact dp_y hcf hci
    have hlt : ¬ (nI D : Int32) ≤ nI (D - (d + 1)) := fun q => by
      have := (mI_le (a := D) (b := D - (d + 1)) (by omega) (by omega)).mp q
      omega
    rw [f_X2_outward_L5, if_neg hlt, mI_in (a := fi F) (n := S.2.2 69) (by omega) (by omega), nI_clamp (show fi F < 2 ^ 31 by omega), h69 (fi F) h3, o4, show nI (D - (d + 1)) + 1 = nI (D - d) by rw [show D - d = D - (d + 1) + 1 by omega]; exact nI_add _ 1]
    simp only [gd_t]
    rw [ih nf (fpt y Q) (by omega) (by omega) hOP.2.2.1 hOP.2.2.2 (fp_fp Q) (by rw [dp_fp]; omega)]
    show some (nI (fi (itF y d (fpt y Q))), S) = some (nI (fi (itF y d (fpt y F.tail))), S)
    rw [o1]
    rfl
end LKU
