/-! the reference reads an atom -/
def layEnd (fu : Nat) (z1 c : Int32) (E : im_S) : Option (Int32 × im_S) := (f_X11_layRow fu c E).bind (fun qS13 => gd (in_b z1 1200) (gd (in_b z1 1200) ((f_X11_isSign 41 (uI (uI qS13.2 89 z1.toNatClampNeg qS13.1) 90 z1.toNatClampNeg c)).bind (fun qS16 => (f_X11_want qS16.1 qS16.2).bind (fun qS19 => if (qS19.1 : Int32) = 0 then (some ((-1), qS19.2)) else (some (z1, qS19.2)))))))
section RAT
variable {K pl : Nat → Nat} {V : Nat → Int64} {m : Nat}
set_option maxHeartbeats 4000000 in
theorem r_args (hKm : K m = 0 ∨ K m = 3) {F : KT} {R1 : Nat → PR} {dep p0 : Nat} (hW : HX K pl V m F 1 R1 dep p0) (fu : Nat) (z1 : Int32) : ∀ (q nf cnt : Nat) (D : im_S) (pos n r h : Nat), p0 ≤ pos → Rd K pl V m D pos dep n r h → Bd (K 1000) m pos n r h → m < q + pos → m < nf + pos → cnt ≤ 4 →
    ∃ E : im_S, ((pC K R1 q cnt pos).2 = none → f_X11_readAtom_L188 F fu nf z1 (nI cnt) D = some (-1, E) ∧ (pC K R1 q cnt pos).1 ≤ m ∧ E.1 75 3 = 1 ∧ E.1 75 4 = nI (pl (pC K R1 q cnt pos).1) ∧ Ps K V E) ∧ (∀ f, (pC K R1 q cnt pos).2 = some f → f_X11_readAtom_L188 F fu nf z1 (nI cnt) D = layEnd fu z1 (nI (cnt + tln f)) E ∧ cnt + tln f ≤ 4) ∧ OutB K pl V m false D pos dep n r h (pC K R1 q cnt pos) E := by
  intro q
  induction q with
  | zero => intro nf cnt D pos n r h _ H _ hq; have := H.2.2.1; omega
  | succ q ih =>
    intro nf cnt D pos n r h hp0 H B hq hnf hcnt
    obtain ⟨nf, rfl⟩ : ∃ z, nf = z + 1 := ⟨nf - 1, by have := H.2.2.1; omega⟩
    have hm := H.2.1
    have hpm := H.2.2.1
    generalize hres : pC K R1 (q + 1) cnt pos = res
    rw [pC] at hres
    rw [f_X11_readAtom_L188]
    by_cases hc : cnt = 4
    · rw [if_pos hc] at hres
      subst hres
      subst hc
      refine ⟨rfD pl D pos, fun _ => ⟨?_, hpm, (rf_fl H).1, (rf_fl H).2⟩, (fun f hf => by cases hf), (fun f hf => by cases hf)⟩
      rw [if_neg (fun z => z rfl), rd_refuse H]
      rfl
    rw [if_neg hc] at hres
    simp only [if_pos (show nI cnt ≠ (4 : Int32) from fun z => hc ((nI_eq (a := cnt) (b := 4) (by omega) (by omega)).mp z))]
    obtain ⟨k, E, f1, o1⟩ := hW D pos n r h hp0 H B
    generalize hr : R1 pos = rx at o1
    obtain ⟨b, _ | x⟩ := rx
    · obtain ⟨rfl, q1, q2, q3⟩ := o1.1 rfl
      rw [pbd_none hr] at hres
      subst hres
      refine ⟨E, fun _ => ⟨?_, q1, q2, q3⟩, (fun f hf => by cases hf), (fun f hf => by cases hf)⟩
      simp only [f1, Option.bind_some]
      rfl
    obtain ⟨kk, n', r', rfl, R2, p1, m1, m2, m3, m4, kp, rep⟩ := o1.2 x rfl
    have p1 : pos < b := p1
    have R2 : Rd K pl V m E b dep n' r' h := R2
    have m3 : n' + pos ≤ n + b := m3
    have m4 : r' + pos + 1 ≤ r + b := m4
    have hbm := R2.2.2.1
    obtain ⟨g1, g2⟩ := RepD_k rep
    have hkk : kk < 1200 := by unfold Bd at B; omega
    have hh5 : h < 502 := by unfold Bd at B; omega
    rw [pbd_some hr] at hres
    obtain ⟨oA, oB⟩ := OutB_one (bd := false) (D := D) (pos := pos) (t := b - 1) (p := pos) R2 (by omega) m1 m2 m3 m4 kp rep hkk (by omega) (fun z => by cases z)
    have Hh := Rd_hd R2 (b - 1) (nI kk)
    have hb1 : nI b - 1 = nI (b - 1) := by
      obtain ⟨z, rfl⟩ : ∃ z, b = z + 1 := ⟨b - 1, by omega⟩
      exact mI_pred z
    simp only [f1, Option.bind_some, if_pos (nI_m1 (show kk < 2 ^ 31 by omega)), R2.hld, mI_in (show h < 2 ^ 31 by omega) hh5, gd_t, nI_clamp (show h < 2 ^ 31 by omega), R2.at_, hb1, show nI h + 1 = nI (h + 1) from nI_add h 1]
    change ∃ E1 : im_S, (_ → ((f_X11_isSign 44 (hdD E h (b - 1) (nI kk))).bind _) = some (-1, E1) ∧ _) ∧ (∀ f, _ → ((f_X11_isSign 44 (hdD E h (b - 1) (nI kk))).bind _) = _ ∧ _) ∧ _
    simp only [show (44 : Int32) = nI 44 from rfl, rd_sign Hh 44 (by decide) (by decide), Option.bind_some, rd_takesP Hh]
    by_cases h3 : K b = 44
    · rw [if_pos h3] at hres
      have hp3 := K_lt hKm hbm h3 (by decide) (by decide)
      have Hh2 := Rd_adv Hh hp3
      have B3 : Bd (K 1000) m (b + 1) n' r' (h + 1) := by unfold Bd at B ⊢; omega
      obtain ⟨E3, o3, o4, o5⟩ := ih nf (cnt + 1) (adv (hdD E h (b - 1) (nI kk)) (b + 1)) (b + 1) n' r' (h + 1) (by omega) Hh2 B3 (by omega) (by omega) (by omega)
      simp only [if_pos h3, if_pos (show (1 : Int32) ≠ 0 by decide), show nI cnt + 1 = nI (cnt + 1) from nI_add cnt 1]
      generalize hpb : pC K R1 q (cnt + 1) (b + 1) = rb at *
      obtain ⟨e, _ | f⟩ := rb
      · rw [pbd_none rfl] at hres
        subst hres
        exact ⟨E3, o3, (fun f hf => by cases hf), (fun f hf => by cases hf)⟩
      · rw [pbd_some rfl] at hres
        subst hres
        refine ⟨E3, (fun hf => by cases hf), fun g hg => ?_, oB (e, some f) E3 f (by omega) rfl o5⟩
        cases hg
        have o4' := o4 f rfl
        have e4 : cnt + tln (.append (.tag pos x) f) = cnt + 1 + tln f := by show cnt + (tln f + 1) = _; omega
        rw [e4]
        exact o4'
    · rw [if_neg h3] at hres
      subst hres
      simp only [if_neg h3]
      refine ⟨hdD E h (b - 1) (nI kk), (fun hf => by cases hf), fun g hg => ?_, oA⟩
      cases hg
      refine ⟨?_, by show cnt + (0 + 1) ≤ 4; omega⟩
      rw [show nI cnt + 1 = nI (cnt + 1) from nI_add cnt 1]
      rfl
theorem Rd_lay {E : im_S} {pos dep n r h : Nat} (H : Rd K pl V m E pos dep n r h) (h' : Nat) : Rd K pl V m (uI E 75 78 (nI h')) pos dep n r h' := by
  refine Rd_of H (TkE_uI (TkE_refl E) (by omega)) H.2.2.1 ?_ ?_ ?_ ?_ ?_ ?_ (Ps_uI H.ps (Pr_o (by omega)))
  · rw [uI_at, if_pos rfl, if_neg (by decide)]; exact H.at_
  · rw [uI_at, if_pos rfl, if_neg (by decide)]; exact H.dep_
  · rw [uI_at, if_pos rfl, if_neg (by decide)]; exact H.nod
  · rw [uI_at, if_pos rfl, if_neg (by decide)]; exact H.row
  · rw [uI_at, if_pos rfl, if_pos rfl]
  · rw [uI_at, if_pos rfl, if_neg (by decide)]; exact H.flt
/-- a held list of c elements, laid behind node n0's reading -/
theorem pg_lay (fu : Nat) (hfu : 600 ≤ fu) {bd : Bool} {D0 D E : im_S} {n0 r0 h c j pos dep n r p : Nat} {f : TR} {res : PR} (hres : res = (p, some f)) (P : Pg K pl V m D0 n0 r0 h c j D pos dep n r) (O : OutB K pl V m bd D pos dep n r h res E) : ∃ (E' : im_S) (n' r' : Nat), f_X11_layRow fu (nI (tln f)) E = some (nI r', E') ∧ Pg K pl V m D0 n0 r0 h c j E' p dep n' (r' + tln f) ∧ Tr K pl V n0 r0 D n r E' n' (r' + tln f) 0 ∧ RepD K pl V E' (n0 + 1) n' r0 (r' + tln f) f (if bd = true then 102 else 101) r' := by
  obtain ⟨H, ⟨B, hl⟩, a1, a2, a3, a4, a5, kp, nd⟩ := P
  subst hres
  obtain ⟨n', r', t1, H1, b1, b2, b3, b4, b5, kp2, hd⟩ := O f rfl
  have b3 : n' + pos ≤ n + p := b3
  have b4 : r' + tln f + pos ≤ r + p := b4
  have b5 : tln f + pos ≤ p := b5
  have H1 : Rd K pl V m E p dep n' r' (h + tln f) := H1
  have hpm := H1.2.2.1
  have hm := H1.2.1
  unfold Bd at B
  obtain ⟨E1, e1, e2, e3, e4, e5⟩ := lay_rows fu (z1 := nI (tln f)) (z2 := nI r') f h fu E p dep n' r' (h + tln f) hd H1 rfl (by omega) (by omega) (Nat.le_refl _) (Nat.le_refl _) (by omega) (by omega) (by omega)
  have hsub : nI (h + tln f) - nI (tln f) = nI h := by rw [nI_sub (by omega)]; congr 1; omega
  rw [hsub] at e1
  have k3 : Kpt E (uI E1 75 78 (nI h)) n' r' h := Kpt_uI ⟨e3.1, e3.2.1, e3.2.2.1, fun i s => e3.2.2.2 i (by omega)⟩ (Or.inl (Or.inl (by decide)))
  have k4 := Kpt_trans kp2 k3 b1 b2 (Nat.le_refl _)
  have ag : AgD E1 (uI E1 75 78 (nI h)) n n' r (r' + tln f) := Kpt_ag (h := 0) (Kpt_uI (Kpt_refl E1 n' (r' + tln f) 0) (Or.inl (Or.inl (by decide))))
  refine ⟨uI E1 75 78 (nI h), n', r', ?_, ⟨Rd_lay e2 h, ⟨?_, hl⟩, by omega, by omega, by omega, by omega, ?_, ?_, ?_⟩, ⟨?_, ?_, b1, by omega, ?_⟩, ?_⟩
  · unfold f_X11_layRow
    rw [H1.row, H1.hld, hsub]
    exact e1
  · unfold Bd; omega
  · omega
  · exact Kpt_trans kp k4 (by omega) a2 (Nat.le_refl _)
  · exact ndD_kp k4 a1 nd
  · intro c c1 c2 _ _; exact k4.1 c n0 (by omega) c2 a1
  · intro i hi; exact k4.2.2.1 i hi
  · intro g md k hmd rep
    exact RepD_mono (D := D) (Kpt_ag k4) (Nat.le_refl _) b1 (Nat.le_refl _) (by omega) g md k ⟨fun q q2 => by omega, fun q => by omega⟩ rep
  · have := e5 b2
    exact RepD_mono (D := E1) (lo := n) (hi := n') (rlo := r) (rhi := r' + tln f) ag (by omega) (Nat.le_refl _) a2 (Nat.le_refl _) f _ r' ⟨fun q q2 => by cases bd <;> simp at q2, fun q => by cases bd <;> simp at q⟩ this
end RAT
