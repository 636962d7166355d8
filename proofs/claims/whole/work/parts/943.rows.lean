/-! the reference reads NAME = X, .. and the arguments of a call -/
def hdD (E : im_S) (h t : Nat) (k : Int32) : im_S := uI (uI (uI E 132 h (nI t)) 133 h k) 75 78 (nI (h + 1))
section RRW
variable {K pl : Nat → Nat} {V : Nat → Int64} {m : Nat}
theorem hd_75 (E : im_S) (h t : Nat) (k : Int32) (i : Nat) : (hdD E h t k).1 75 i = if i = 78 then nI (h + 1) else E.1 75 i := by
  unfold hdD
  simp [uI_at]
theorem hd_f (E : im_S) (h t : Nat) (k : Int32) : (hdD E h t k).1 132 h = nI t ∧ (hdD E h t k).1 133 h = k := by
  unfold hdD
  simp [uI_at]
theorem hd_kp (E : im_S) (n r h t : Nat) (k : Int32) : Kpt E (hdD E h t k) n r h := by
  unfold hdD
  exact Kpt_uI (Kpt_uI (Kpt_uI (Kpt_refl E n r h) (Or.inr (Or.inr (Or.inr ⟨Or.inl rfl, Nat.le_refl _⟩)))) (Or.inr (Or.inr (Or.inr ⟨Or.inr rfl, Nat.le_refl _⟩)))) (Or.inl (Or.inl (by decide)))
theorem hd_81 (E : im_S) (h t : Nat) (k : Int32) (c i : Nat) (c1 : 76 ≤ c) (c2 : c ≤ 131) : (hdD E h t k).1 c i = E.1 c i := by
  unfold hdD
  rw [uI_at, if_neg (by omega), uI_at, if_neg (by omega), uI_at, if_neg (by omega)]
theorem Rd_hd {E : im_S} {pos dep n r h : Nat} (H : Rd K pl V m E pos dep n r h) (t : Nat) (k : Int32) : Rd K pl V m (hdD E h t k) pos dep n r (h + 1) := by
  refine Rd_of H ⟨fun a j h1 h2 => hd_81 E h t k a j (by omega) (by omega), fun j => rfl⟩ H.2.2.1 ?_ ?_ ?_ ?_ ?_ ?_ (Ps_uI (Ps_uI (Ps_uI H.ps (Pr_o (by omega))) (Pr_o (by omega))) (Pr_o (by omega)))
  · rw [hd_75, if_neg (by decide)]; exact H.at_
  · rw [hd_75, if_neg (by decide)]; exact H.dep_
  · rw [hd_75, if_neg (by decide)]; exact H.nod
  · rw [hd_75, if_neg (by decide)]; exact H.row
  · rw [hd_75, if_pos rfl]
  · rw [hd_75, if_neg (by decide)]; exact H.flt
/-- what the reading of a list answers -/
def OutB (K pl : Nat → Nat) (V : Nat → Int64) (m : Nat) (bd : Bool) (D : im_S) (pos dep n r h : Nat) (res : PR) (E : im_S) : Prop :=
  ∀ f, res.2 = some f → ∃ n' r' : Nat, 1 ≤ tln f ∧ Rd K pl V m E res.1 dep n' r' (h + tln f) ∧ n ≤ n' ∧ r ≤ r' ∧ n' + pos ≤ n + res.1 ∧ r' + tln f + pos ≤ r + res.1 ∧ tln f + pos ≤ res.1 ∧ Kpt D E n r h ∧ HdB K pl V m E bd n n' r r' f h
/-- one element, and then the rest of the list -/
theorem OutB_one {bd : Bool} {D E1 : im_S} {pos dep n r h b n1 r1 kk t p : Nat} {x : TR} (H1 : Rd K pl V m E1 b dep n1 r1 h) (hpb : pos + 1 ≤ b) (l3 : n ≤ n1) (l4 : r ≤ r1) (l5 : n1 + pos ≤ n + b) (l6 : r1 + pos + 1 ≤ r + b) (kp : Kpt D E1 n r h) (rep : RepD K pl V E1 n n1 r r1 x 0 kk) (hkk : kk < 1200) (ht : t ≤ m) (htp : bd = true → t = p) :
    OutB K pl V m bd D pos dep n r h (b, some (.append (.tag p x) .nil)) (hdD E1 h t (nI kk)) ∧
    ∀ (res : PR) (E : im_S) (f : TR), b + 1 ≤ m → res.2 = some f → OutB K pl V m bd (adv (hdD E1 h t (nI kk)) (b + 1)) (b + 1) dep n1 r1 (h + 1) res E → OutB K pl V m bd D pos dep n r h (res.1, some (.append (.tag p x) f)) E := by
  obtain ⟨u1, u2⟩ := hd_f E1 h t (nI kk)
  have k2 := hd_kp E1 n1 r1 h t (nI kk)
  have r2 : RepD K pl V (hdD E1 h t (nI kk)) n n1 r r1 x 0 kk := RepD_mono (D := E1) (Kpt_ag k2) (Nat.le_refl _) (Nat.le_refl _) (Nat.le_refl _) (Nat.le_refl _) x 0 kk ⟨fun q => by omega, fun q => by omega⟩ rep
  constructor
  · intro f hf
    cases hf
    refine ⟨n1, r1, Nat.le_refl _, Rd_hd H1 t (nI kk), l3, l4, l5, by show r1 + (0 + 1) + pos ≤ r + b; omega, by show 0 + 1 + pos ≤ b; omega, Kpt_trans kp k2 l3 l4 (Nat.le_refl _), ?_⟩
    exact ⟨⟨t, ht, u1, htp⟩, ⟨kk, hkk, u2, r2⟩, trivial⟩
  · intro res E f hb hr hO g hg
    cases hg
    obtain ⟨n', r', t1, Hn, a1, a2, a3, a4, a5, kp3, hd3⟩ := hO f hr
    have k3 : Kpt (hdD E1 h t (nI kk)) (adv (hdD E1 h t (nI kk)) (b + 1)) n1 r1 (h + 1) := Kpt_adv (Kpt_refl _ _ _ _)
    have k4 := Kpt_trans k3 kp3 (Nat.le_refl _) (Nat.le_refl _) (Nat.le_refl _)
    refine ⟨n', r', by show 1 ≤ tln f + 1; omega, ?_, by omega, by omega, by show n' + pos ≤ n + res.1; omega, by show r' + (tln f + 1) + pos ≤ r + res.1; omega, by show tln f + 1 + pos ≤ res.1; omega, ?_, ?_⟩
    · have e : h + tln (.append (.tag p x) f) = h + 1 + tln f := by show h + (tln f + 1) = _; omega
      rw [e]; exact Hn
    · exact Kpt_trans (Kpt_trans kp k2 l3 l4 (Nat.le_refl _)) k4 l3 l4 (by omega)
    · refine ⟨⟨t, ht, ?_, htp⟩, ⟨kk, hkk, ?_, ?_⟩, ?_⟩
      · rw [(k4.2.2.2 h (by omega)).1]; exact u1
      · rw [(k4.2.2.2 h (by omega)).2]; exact u2
      · exact RepD_mono (D := hdD E1 h t (nI kk)) (Kpt_ag k4) (Nat.le_refl _) a1 (Nat.le_refl _) a2 x 0 kk ⟨fun q => by omega, fun q => by omega⟩ r2
      · exact HdB_mono (D := E) ⟨fun _ _ _ _ _ _ => rfl, fun _ _ _ => rfl, fun _ _ _ => ⟨rfl, rfl, rfl⟩⟩ l3 (Nat.le_refl _) l4 (Nat.le_refl _) f (h + 1) (fun _ _ _ => ⟨rfl, rfl⟩) hd3
set_option maxHeartbeats 4000000 in
theorem r_binds (hKm : K m = 0 ∨ K m = 3) {F : KT} {R : Nat → PR} {dep p0 : Nat} (hX : HX K pl V m F 0 R dep (p0 + 2)) {most : Nat} (hmost : most ≤ 1000) (fu : Nat) : ∀ (q nf cnt : Nat) (D : im_S) (pos n r h : Nat), p0 ≤ pos → Rd K pl V m D pos dep n r h → Bd (K 1000) m pos n r h → m < q + pos → m < nf + pos → cnt + m ≤ 1000 + pos →
    ∃ (k : Int32) (E : im_S), f_X11_readBindings_L2 F fu nf (nI most) (nI cnt) D = some (k, E) ∧ ((pB K R q most cnt pos).2 = none → k = -1 ∧ (pB K R q most cnt pos).1 ≤ m ∧ E.1 75 3 = 1 ∧ E.1 75 4 = nI (pl (pB K R q most cnt pos).1) ∧ Ps K V E) ∧ (∀ f, (pB K R q most cnt pos).2 = some f → k = nI (cnt + tln f)) ∧ OutB K pl V m true D pos dep n r h (pB K R q most cnt pos) E := by
  intro q
  induction q with
  | zero => intro nf cnt D pos n r h _ H _ hq; have := H.2.2.1; omega
  | succ q ih =>
    intro nf cnt D pos n r h hp0 H B hq hnf hcnt
    obtain ⟨nf, rfl⟩ : ∃ z, nf = z + 1 := ⟨nf - 1, by have := H.2.2.1; omega⟩
    have hm := H.2.1
    have hpm := H.2.2.1
    generalize hres : pB K R (q + 1) most cnt pos = res
    rw [pB] at hres
    rw [f_X11_readBindings_L2]
    by_cases hc : cnt = most
    · rw [if_pos hc] at hres
      subst hres
      rw [if_neg (fun z => z (by rw [hc])), rd_refuse H]
      exact ⟨-1, _, rfl, fun _ => ⟨rfl, hpm, (rf_fl H).1, (rf_fl H).2⟩, (fun f hf => by cases hf), (fun f hf => by cases hf)⟩
    rw [if_neg hc] at hres
    rw [if_pos (fun z => hc ((nI_eq (a := cnt) (b := most) (by omega) (by omega)).mp z))]
    unfold pw at hres
    by_cases h1 : ¬ K pos = 1
    · rw [if_neg h1] at hres
      subst hres
      refine ⟨-1, rfD pl D pos, ?_, fun _ => ⟨rfl, hpm, (rf_fl H).1, (rf_fl H).2⟩, (fun f hf => by cases hf), (fun f hf => by cases hf)⟩
      simp only [rd_name H, Option.bind_some, if_neg h1]
      rfl
    have h1 : K pos = 1 := Decidable.not_not.mp h1
    have hp1 := K_lt hKm hpm h1 (by decide) (by decide)
    have H1 := Rd_adv H hp1
    have k1 : Kpt D (adv D (pos + 1)) n r h := Kpt_adv (Kpt_refl D n r h)
    rw [if_pos h1] at hres
    simp only [rd_name H, Option.bind_some, if_pos h1, if_neg (show ¬ (1 : Int32) = 0 by decide), show (61 : Int32) = nI 61 from rfl, rd_sign H1 61 (by decide) (by decide), rd_wantP H1]
    generalize adv D (pos + 1) = D1 at *
    by_cases h2 : ¬ K (pos + 1) = 61
    · rw [if_neg h2] at hres
      subst hres
      refine ⟨-1, rfD pl D1 (pos + 1), ?_, fun _ => ⟨rfl, H1.2.2.1, (rf_fl H1).1, (rf_fl H1).2⟩, (fun f hf => by cases hf), (fun f hf => by cases hf)⟩
      simp only [if_neg h2]
      rfl
    have h2 : K (pos + 1) = 61 := Decidable.not_not.mp h2
    have hp2 := K_lt hKm H1.2.2.1 h2 (by decide) (by decide)
    have H2 := Rd_adv H1 hp2
    have k2 : Kpt D (adv D1 (pos + 1 + 1)) n r h := Kpt_adv k1
    rw [if_pos h2] at hres
    simp only [if_pos h2, if_pos (show (1 : Int32) ≠ 0 by decide)]
    generalize adv D1 (pos + 1 + 1) = D2 at *
    have B2 : Bd (K 1000) m (pos + 1 + 1) n r h := by unfold Bd at B ⊢; omega
    obtain ⟨k, E, f1, o1⟩ := hX D2 (pos + 1 + 1) n r h (by omega) H2 B2
    generalize hr : R (pos + 1 + 1) = rx at o1
    obtain ⟨b, _ | x⟩ := rx
    · obtain ⟨rfl, q1, q2, q3⟩ := o1.1 rfl
      rw [pbd_none (show R (pos + 2) = (b, none) from hr)] at hres
      subst hres
      refine ⟨-1, E, ?_, fun _ => ⟨rfl, q1, q2, q3⟩, (fun f hf => by cases hf), (fun f hf => by cases hf)⟩
      simp only [f1, Option.bind_some]
      rfl
    obtain ⟨kk, n', r', rfl, R1, p1, m1, m2, m3, m4, kp, rep⟩ := o1.2 x rfl
    have p1 : pos + 1 + 1 < b := p1
    have R1 : Rd K pl V m E b dep n' r' h := R1
    have m3 : n' + (pos + 1 + 1) ≤ n + b := m3
    have m4 : r' + (pos + 1 + 1) + 1 ≤ r + b := m4
    have hbm := R1.2.2.1
    obtain ⟨g1, g2⟩ := RepD_k rep
    have hkk : kk < 1200 := by unfold Bd at B; omega
    have hh5 : h < 502 := by unfold Bd at B; omega
    rw [pbd_some (show R (pos + 2) = (b, some x) from hr)] at hres
    obtain ⟨oA, oB⟩ := OutB_one (bd := true) (D := D) (pos := pos) (t := pos) (p := pos) R1 (by omega) m1 m2 (by omega) (by omega) (Kpt_trans k2 kp (Nat.le_refl _) (Nat.le_refl _) (Nat.le_refl _)) rep hkk hpm (fun _ => rfl)
    have Hh := Rd_hd R1 pos (nI kk)
    simp only [f1, Option.bind_some, if_pos (nI_m1 (show kk < 2 ^ 31 by omega)), R1.hld, mI_in (show h < 2 ^ 31 by omega) hh5, gd_t, nI_clamp (show h < 2 ^ 31 by omega), H.at_, show nI h + 1 = nI (h + 1) from nI_add h 1]
    change ∃ (k : Int32) (E1 : im_S), ((f_X11_isSign 44 (hdD E h pos (nI kk))).bind _) = some (k, E1) ∧ _
    simp only [show (44 : Int32) = nI 44 from rfl, rd_sign Hh 44 (by decide) (by decide), Option.bind_some, rd_takesP Hh]
    by_cases h3 : K b = 44
    · rw [if_pos h3] at hres
      have hp3 := K_lt hKm hbm h3 (by decide) (by decide)
      have Hh2 := Rd_adv Hh hp3
      have B3 : Bd (K 1000) m (b + 1) n' r' (h + 1) := by unfold Bd at B ⊢; omega
      obtain ⟨k3, E3, f3, o3, o4, o5⟩ := ih nf (cnt + 1) (adv (hdD E h pos (nI kk)) (b + 1)) (b + 1) n' r' (h + 1) (by omega) Hh2 B3 (by omega) (by omega) (by omega)
      simp only [if_pos h3, if_pos (show (1 : Int32) ≠ 0 by decide), show nI cnt + 1 = nI (cnt + 1) from nI_add cnt 1]
      generalize hpb : pB K R q most (cnt + 1) (b + 1) = rb at *
      obtain ⟨e, _ | f⟩ := rb
      · rw [pbd_none rfl] at hres
        subst hres
        exact ⟨k3, E3, f3, o3, (fun f hf => by cases hf), (fun f hf => by cases hf)⟩
      · rw [pbd_some rfl] at hres
        subst hres
        refine ⟨k3, E3, f3, (fun hf => by cases hf), fun g hg => ?_, oB (e, some f) E3 f (by omega) rfl o5⟩
        cases hg
        rw [o4 f rfl]
        show nI (cnt + 1 + tln f) = nI (cnt + (tln f + 1))
        congr 1
        omega
    · rw [if_neg h3] at hres
      subst hres
      simp only [if_neg h3]
      refine ⟨nI (cnt + 1), hdD E h pos (nI kk), ?_, (fun hf => by cases hf), fun g hg => ?_, oA⟩
      · rw [show nI cnt + 1 = nI (cnt + 1) from nI_add cnt 1]
        rfl
      · cases hg
        rfl
end RRW
