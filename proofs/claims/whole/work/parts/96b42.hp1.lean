/-! an event happens, in the class: signs, operators, elements -/
section HP1
variable {K pl : Nat → Nat} {V : Nat → Int64} {y : TR} {e : Nat} {N M L : Nat → Nat} {n ρ τ : Nat} {G : im_S} {sl tO sO kO crt : Nat → Nat} {f : Nat} {W : Nat → Int32 × Int32 × Int32} {ν : Nat → Nat} {q0 : Nat} {ar : Nat → Int64} {S S1 S' : im_S} {En : TPth → Prop} {cv vr : TPth → Nat → Option TVal} {Aw : TPth → Nat → Prop} {WV WC : TPth → Nat → TPth → Nat → Prop} {R R' H : List TEv} {nS nF fu : Nat} {fb : Nat → Nat} {fp : Nat → TPth} {fi : TPth → Nat} {tf : TPth → Nat → Nat} {tb : TPth → Nat → Option Nat} {ow si fo : Nat → Int32} {lw : Nat → Int64} {P1 : TPth} {j r : Nat} {γ : List Nat} {ev : TEv} {x x' : TR}
theorem op_kd {c : Nat} {v w : Int64} (hc : 1 ≤ stg c) (hw : c = 37 ∨ c = 47 → w ≠ 0) : (opV c v w).1 = if stg c ≤ 3 then 2 else 1 := by
  rcases stg_c hc with hc' | hc' | hc' | hc' | hc' | hc' | hc' | hc' | hc'
  · have q := hw (.inl hc')
    subst hc'
    unfold opV
    rw [if_neg (by decide), if_neg (by decide), if_neg (by decide), if_neg (by decide), if_neg (by decide), if_neg (by decide), if_neg (by decide), if_neg q]
    by_cases q2 : w = -1
    · rw [if_pos q2, if_neg (by decide)]; rfl
    · rw [if_neg q2, if_neg (by decide)]; rfl
  · subst hc'
    unfold opV
    rw [if_pos (by decide)]; rfl
  · subst hc'
    unfold opV
    rw [if_neg (by decide), if_pos (by decide)]; rfl
  · subst hc'
    unfold opV
    rw [if_neg (by decide), if_neg (by decide), if_pos (by decide)]; rfl
  · subst hc'
    unfold opV
    rw [if_neg (by decide), if_neg (by decide), if_neg (by decide), if_pos (by decide)]; rfl
  · have q := hw (.inr hc')
    subst hc'
    unfold opV
    rw [if_neg (by decide), if_neg (by decide), if_neg (by decide), if_neg (by decide), if_neg (by decide), if_neg (by decide), if_neg (by decide), if_neg q]
    by_cases q2 : w = -1
    · rw [if_pos q2, if_pos (by decide)]; rfl
    · rw [if_neg q2, if_pos (by decide)]; rfl
  · subst hc'
    unfold opV
    rw [if_neg (by decide), if_neg (by decide), if_neg (by decide), if_neg (by decide), if_pos (by decide)]; rfl
  · subst hc'
    unfold opV
    rw [if_neg (by decide), if_neg (by decide), if_neg (by decide), if_neg (by decide), if_neg (by decide), if_pos (by decide)]; rfl
  · subst hc'
    unfold opV
    rw [if_neg (by decide), if_neg (by decide), if_neg (by decide), if_neg (by decide), if_neg (by decide), if_neg (by decide), if_pos (by decide)]; rfl
theorem op_z0 {c : Nat} {v w : Int64} (hc : c = 37 ∨ c = 47) (hw : w = 0) : opV c v w = mkE 1 := by
  unfold opV
  rcases hc with hc | hc
  · subst hc
    rw [if_neg (by decide), if_neg (by decide), if_neg (by decide), if_neg (by decide), if_neg (by decide), if_neg (by decide), if_neg (by decide), if_pos hw]
  · subst hc
    rw [if_neg (by decide), if_neg (by decide), if_neg (by decide), if_neg (by decide), if_neg (by decide), if_neg (by decide), if_neg (by decide), if_pos hw]
theorem fh_sig (X : XB K pl V y e N M L n ρ τ G sl tO sO kO crt f W ν) (Z : HPz K V y e N L G sl tO sO kO crt q0 ar S S1 En cv vr Aw WV WC R R' H nS nF fb fp fi tf tb ow si fo lw (P1, j, 0)) (hz : (.tag 8 (.tag j x), γ, r) ∈ scP y) (hr : r = hdR P1) : FHo K V y e N L G sl tO sO kO crt q0 ar (f_X5_turn (nI (fi (fpt y P1))) (nI (N j)) S1) En cv H (P1, j, 0) tb := by
  obtain ⟨h, hS1, hG1, hRn, hRm, hev, hle, hcv, htb, her⟩ := id Z
  have C := X.1
  have hS := X.2.1
  have hE1 : En P1 := (h.1.2.1.2.2.2.1 P1 j 0 (.inl hev)).1
  have hOP := h.2.2.2.2.1 P1 hE1
  have hqa := h.1.2.2.2.2.1 P1 _ hE1 hz hr
  obtain ⟨a, ha⟩ := hqa.2.1 (.inl hev)
  obtain ⟨⟨p', e', wz⟩, -, htr⟩ := (tl_P C.1) _ hz
  obtain ⟨hjp, hKj, w1⟩ := wz
  have hjp : j = p' := hjp
  rw [← hjp] at hKj
  have hx := htr _ (mc _ (hd_in w1 _ _))
  obtain ⟨⟨-, f1, f2, f3, -⟩, f4, -⟩ := cn_P C _ hz
  have hA1 := rm_ca hS1 h.2.2.1
  have hX1 := rm_mx hS1 h.2.1
  have hNj : N j < 500 := (tk_sl C hS (op_tk C hS hOP hz hr rfl).1).2.1
  obtain ⟨s, s1, s2, s3, s4, s5, s6, s7, s8, s9⟩ := h_rd C hS hA1 hX1 hOP hx hr ha
  have hty : tyO (tyV K V x) a := AB_ty X.2.2.1 h.1 hx ha
  have hgd : tyV K V x = if K j = 45 then 1 else 2 := X.2.2.1.2.2.2.2.2.1 _ hz
  have n3 : a.1 ≠ 3 := fun q => by
    have := hty.2 (by omega)
    rw [hgd] at this
    by_cases c : K j = 45
    · rw [if_pos c] at this
      omega
    · rw [if_neg c] at this
      omega
  have hw : S1.2.1 66 s = a.2.1 := s6.2 n3
  have nv3 : (sgV (K j) a).1 ≠ 3 := by
    unfold sgV
    by_cases c4 : a.1 = 4
    · rw [if_pos c4]
      omega
    · rw [if_neg c4]
      by_cases c : K j = 45
      · rw [if_pos c]
        exact (show ¬ 1 = 3 by decide)
      · rw [if_neg c]
        exact (show ¬ 2 = 3 by decide)
  refine fh_snd Z (H_sig X.2.2.1 h.1 hz hr hev hRn hRm ha) (w := (sgV (K j) a).2.1) (ecw_n nv3) (fun q => absurd q nv3) ?_
  unfold f_X5_turn
  rw [mI_in (a := N j) (n := 512) (by omega) (by omega), nI_clamp (show N j < 2 ^ 31 by omega), (hA1 12 (N j) (by omega) (by omega)).1.trans f4, s1]
  simp only [gd_t, Option.bind_some]
  rw [s2, s3, s4]
  simp only [gd_t]
  rw [(hA1 21 (N j) (by omega) (by omega)).2.trans f3, hw]
  unfold sgV
  by_cases c4 : a.1 = 4
  · have e4 : nI a.1 = 4 := by rw [c4]; rfl
    rw [if_neg (fun q => q (s5.mpr c4)), if_pos c4, bd_u, e4]
  · rw [if_pos (fun q => c4 (s5.mp q)), if_neg c4]
    rcases hKj with hk | hk
    · rw [hk, if_neg (show ¬ (lg_cmp (Int64.ofNat 45) 45 : Int32) ≠ 0 by decide), if_pos (show 45 = 45 from rfl), bd_u]
      rfl
    · rw [hk, if_pos (show (lg_cmp (Int64.ofNat 33) 45 : Int32) ≠ 0 by decide), if_neg (show ¬ 33 = 45 by decide), bd_u]
      rfl
set_option maxHeartbeats 4000000 in
theorem fh_bin (X : XB K pl V y e N M L n ρ τ G sl tO sO kO crt f W ν) (Z : HPz K V y e N L G sl tO sO kO crt q0 ar S S1 En cv vr Aw WV WC R R' H nS nF fb fp fi tf tb ow si fo lw (P1, j, 0)) (hz : (.tag 9 (.tag j (.append x x')), γ, r) ∈ scP y) (hr : r = hdR P1) : FHo K V y e N L G sl tO sO kO crt q0 ar (f_X5_operate (nI (fi (fpt y P1))) (nI (N j)) S1) En cv H (P1, j, 0) tb := by
  obtain ⟨h, hS1, hG1, hRn, hRm, hev, hle, hcv, htb, her⟩ := id Z
  have C := X.1
  have hS := X.2.1
  have hE1 : En P1 := (h.1.2.1.2.2.2.1 P1 j 0 (.inl hev)).1
  have hOP := h.2.2.2.2.1 P1 hE1
  have hqa := h.1.2.2.2.2.1 P1 _ hE1 hz hr
  obtain ⟨a, a', ha, ha'⟩ := hqa.2.1 (.inl hev)
  obtain ⟨⟨p', e', wz⟩, -, htr⟩ := (tl_P C.1) _ hz
  obtain ⟨hst, w1, w2⟩ := wz
  have hx := htr _ (mc _ (ml _ (hd_in w1 _ _)))
  have hx' := htr _ (mc _ (mr _ (hd_in w2 _ _)))
  obtain ⟨⟨-, f1, f2, f3, -⟩, f4, f5, -⟩ := cn_P C _ hz
  have hA1 := rm_ca hS1 h.2.2.1
  have hX1 := rm_mx hS1 h.2.1
  have hNj : N j < 500 := (tk_sl C hS (op_tk C hS hOP hz hr rfl).1).2.1
  obtain ⟨s, s1, s2, s3, s4, s5, s6, s7, s8, s9⟩ := h_rd C hS hA1 hX1 hOP hx hr ha
  obtain ⟨t, t1, t2, t3, t4, t5, t6, t7, t8, t9⟩ := h_rd C hS hA1 hX1 hOP hx' hr ha'
  have hty : tyO (tyV K V x) a := AB_ty X.2.2.1 h.1 hx ha
  have hty' : tyO (tyV K V x') a' := AB_ty X.2.2.1 h.1 hx' ha'
  have hgd : tyV K V x = (if stg (K j) ≤ 2 then 2 else 1) ∧ tyV K V x' = if stg (K j) ≤ 2 then 2 else 1 := X.2.2.1.2.2.2.2.2.1 _ hz
  have hif : (if stg (K j) ≤ 2 then 2 else 1) ≠ 3 := by
    by_cases c : stg (K j) ≤ 2
    · rw [if_pos c]
      decide
    · rw [if_neg c]
      decide
  have n3 : a.1 ≠ 3 := fun q => by
    have := hty.2 (by omega)
    rw [hgd.1] at this
    exact hif (this.symm.trans q)
  have n3' : a'.1 ≠ 3 := fun q => by
    have := hty'.2 (by omega)
    rw [hgd.2] at this
    exact hif (this.symm.trans q)
  have hsg : (Int64.ofNat (K j)).toInt32 = nI (K j) := by
    have : K j < 2 ^ 31 := by
      rcases stg_c hst with hc | hc | hc | hc | hc | hc | hc | hc | hc <;> omega
    rw [← nI64 this, nI_64_32]
  have e47 : nI (K j) = 47 ↔ K j = 47 := nI_eq (a := K j) (b := 47) (by rcases stg_c hst with hc | hc | hc | hc | hc | hc | hc | hc | hc <;> omega) (by omega)
  have e37 : nI (K j) = 37 ↔ K j = 37 := nI_eq (a := K j) (b := 37) (by rcases stg_c hst with hc | hc | hc | hc | hc | hc | hc | hc | hc <;> omega) (by omega)
  have hwz : ∀ {w : Int64}, (lg_cmp w 0 : Int32) ≠ 0 ↔ w ≠ 0 := fun {w} => not_congr (lg_cmp_eq w 0)
  have hop : f_X5_operate (nI (fi (fpt y P1))) (nI (N j)) S1 = (if S1.1 65 s = 4 then ((f_X5_leastError (nI s) (nI t) S1).bind (fun q => (f_X5_send (nI (fi (fpt y P1))) (nI (N j)) 4 q.1 q.2).bind (fun q' => some ((), q'.2)))) else (if S1.1 65 t ≠ 4 then (if nI (K j) = 47 then (if (lg_cmp (S1.2.1 66 t) 0 : Int32) ≠ 0 then ((f_X5_calculate (nI (K j)) (S1.2.1 66 s) (S1.2.1 66 t) S1).bind (fun q => (f_X5_send (nI (fi (fpt y P1))) (nI (N j)) (q.2.1 42 (N j)) q.1 q.2).bind (fun q' => some ((), q'.2)))) else ((f_X5_send (nI (fi (fpt y P1))) (nI (N j)) 4 1 S1).bind (fun q' => some ((), q'.2)))) else (if nI (K j) ≠ 37 then ((f_X5_calculate (nI (K j)) (S1.2.1 66 s) (S1.2.1 66 t) S1).bind (fun q => (f_X5_send (nI (fi (fpt y P1))) (nI (N j)) (q.2.1 42 (N j)) q.1 q.2).bind (fun q' => some ((), q'.2)))) else (if (lg_cmp (S1.2.1 66 t) 0 : Int32) ≠ 0 then ((f_X5_calculate (nI (K j)) (S1.2.1 66 s) (S1.2.1 66 t) S1).bind (fun q => (f_X5_send (nI (fi (fpt y P1))) (nI (N j)) (q.2.1 42 (N j)) q.1 q.2).bind (fun q' => some ((), q'.2)))) else ((f_X5_send (nI (fi (fpt y P1))) (nI (N j)) 4 1 S1).bind (fun q' => some ((), q'.2)))))) else ((f_X5_leastError (nI s) (nI t) S1).bind (fun q => (f_X5_send (nI (fi (fpt y P1))) (nI (N j)) 4 q.1 q.2).bind (fun q' => some ((), q'.2)))))) := by
    unfold f_X5_operate
    rw [mI_in (a := N j) (n := 512) (by omega) (by omega), nI_clamp (show N j < 2 ^ 31 by omega), (hA1 12 (N j) (by omega) (by omega)).1.trans f4, s1]
    simp only [gd_t, Option.bind_some]
    rw [(hA1 13 (N j) (by omega) (by omega)).1.trans f5, t1]
    simp only [gd_t, Option.bind_some]
    rw [s2, s3, s4, t2, t3, t4, (hA1 21 (N j) (by omega) (by omega)).2.trans f3, hsg]
    simp only [gd_t]
  have A0 := H_bin X.2.2.1 h.1 hz hr hev hRn hRm ha ha'
  cases her1 : erV a a' with
  | some u =>
    have hb : biV (K j) a a' = mkE u := by unfold biV; rw [her1]
    rw [hb] at A0
    have hl := k_lst (tf := tf) s2 s3 t2 t3 s4 t4 s5 t5 s6 t6 her1
    refine fh_snd Z A0 (w := u) (ecw_n (v := mkE u) (show ¬ 4 = 3 by decide)) (fun q => absurd q (show ¬ 4 = 3 by decide)) ?_
    rw [hop, hl]
    simp only [Option.bind_some]
    rw [bd_u]
    by_cases c4 : a.1 = 4
    · rw [if_pos (s5.mpr c4)]
      rfl
    · rw [if_neg (fun q => c4 (s5.mp q))]
      have c4' : a'.1 = 4 := by
        unfold erV at her1
        rw [if_neg c4] at her1
        by_cases c5 : a'.1 = 4
        · exact c5
        · rw [if_neg c5] at her1
          cases her1
      rw [if_neg (fun q => q (t5.mpr c4'))]
      rfl
  | none =>
    obtain ⟨c4, c4'⟩ := erV_n her1
    have hb : biV (K j) a a' = opV (K j) a.2.1 a'.2.1 := by unfold biV; rw [her1]
    rw [hb] at A0
    have hw : S1.2.1 66 s = a.2.1 := s6.2 n3
    have hw' : S1.2.1 66 t = a'.2.1 := t6.2 n3'
    rw [hw, hw', if_neg (fun q => c4 (s5.mp q)), if_pos (fun q => c4' (t5.mp q))] at hop
    by_cases hz0 : (K j = 37 ∨ K j = 47) ∧ a'.2.1 = 0
    · rw [op_z0 hz0.1 hz0.2] at A0
      refine fh_snd Z A0 (w := 1) (ecw_n (v := mkE 1) (show ¬ 4 = 3 by decide)) (fun q => absurd q (show ¬ 4 = 3 by decide)) ?_
      rw [hop]
      rcases hz0.1 with hk | hk
      · rw [if_neg (fun q => by have := e47.mp q; omega), if_neg (fun q => q (e37.mpr hk)), if_neg (fun q => hwz.mp q hz0.2), bd_u]
        rfl
      · rw [if_pos (e47.mpr hk), if_neg (fun q => hwz.mp q hz0.2), bd_u]
        rfl
    · have hnw : K j = 37 ∨ K j = 47 → a'.2.1 ≠ 0 := fun q q' => hz0 ⟨q, q'⟩
      have hcal := k_calc (v := a.2.1) (w := a'.2.1) (S := S1) hst hnw
      have hkd := op_kd (v := a.2.1) (w := a'.2.1) hst hnw
      have nv3 : (opV (K j) a.2.1 a'.2.1).1 ≠ 3 := by
        rw [hkd]
        by_cases c : stg (K j) ≤ 3
        · rw [if_pos c]
          decide
        · rw [if_neg c]
          decide
      refine fh_snd Z A0 (w := (opV (K j) a.2.1 a'.2.1).2.1) (ecw_n nv3) (fun q => absurd q nv3) ?_
      rw [hop, hcal]
      simp only [Option.bind_some]
      rw [bd_u, (hA1 8 (N j) (by omega) (by omega)).1.trans f2, hkd]
      by_cases k47 : K j = 47
      · rw [if_pos (e47.mpr k47), if_pos (hwz.mpr (hnw (.inr k47)))]
      · rw [if_neg (fun q => k47 (e47.mp q))]
        by_cases k37 : K j = 37
        · rw [if_neg (fun q => q (e37.mpr k37)), if_pos (hwz.mpr (hnw (.inl k37)))]
        · rw [if_pos (fun q => k37 (e37.mp q))]
set_option maxHeartbeats 4000000 in
theorem fh_pick (X : XB K pl V y e N M L n ρ τ G sl tO sO kO crt f W ν) (Z : HPz K V y e N L G sl tO sO kO crt q0 ar S S1 En cv vr Aw WV WC R R' H nS nF fb fp fi tf tb ow si fo lw (P1, j, 0)) (hz : (.tag 10 (.tag j (.append x x')), γ, r) ∈ scP y) (hr : r = hdR P1) : FHo K V y e N L G sl tO sO kO crt q0 ar (f_X5_pickCell (nI (fi (fpt y P1))) (nI (N j)) S1) En cv H (P1, j, 0) tb := by
  obtain ⟨h, hS1, hG1, hRn, hRm, hev, hle, hcv, htb, her⟩ := id Z
  have C := X.1
  have hS := X.2.1
  have hE1 : En P1 := (h.1.2.1.2.2.2.1 P1 j 0 (.inl hev)).1
  have hOP := h.2.2.2.2.1 P1 hE1
  have hqa := h.1.2.2.2.2.1 P1 _ hE1 hz hr
  obtain ⟨a, a', ha, ha'⟩ := hqa.2.1 (.inl hev)
  obtain ⟨⟨p', e', wz⟩, -, htr⟩ := (tl_P C.1) _ hz
  obtain ⟨w1, bb, w2, -⟩ := wz
  have hx := htr _ (mc _ (ml _ (hd_in w1 _ _)))
  have hx' := htr _ (mc _ (mr _ (hd_in w2 _ _)))
  obtain ⟨⟨-, f1, f2, f3, -⟩, f4, f5, -⟩ := cn_P C _ hz
  have hA1 := rm_ca hS1 h.2.2.1
  have hX1 := rm_mx hS1 h.2.1
  have hNj : N j < 500 := (tk_sl C hS (op_tk C hS hOP hz hr rfl).1).2.1
  obtain ⟨s, s1, s2, s3, s4, s5, s6, s7, s8, s9⟩ := h_rd C hS hA1 hX1 hOP hx hr ha
  obtain ⟨t, t1, t2, t3, t4, t5, t6, t7, t8, t9⟩ := h_rd C hS hA1 hX1 hOP hx' hr ha'
  have hty : tyO (tyV K V x) a := AB_ty X.2.2.1 h.1 hx ha
  have hty' : tyO (tyV K V x') a' := AB_ty X.2.2.1 h.1 hx' ha'
  have hgd : tyV K V x = 3 ∧ tyV K V x' = 1 := X.2.2.1.2.2.2.2.2.1 _ hz
  rw [hgd.1] at hty
  rw [hgd.2] at hty'
  obtain ⟨c1, c2, c3⟩ := k_cell hX1 s8 t8 s7 t7 hty hty' s9
  have hop : f_X5_pickCell (nI (fi (fpt y P1))) (nI (N j)) S1 = (f_X5_cellAt (nI s) (nI t) S1).bind (fun qS7 => gd (in_b (nI s) (qS7.2.2.2 65)) (if (qS7.2.1 65 s : Int32) = 4 then ((f_X5_leastError (nI s) (nI t) qS7.2).bind (fun qS11 => (f_X5_send (nI (fi (fpt y P1))) (nI (N j)) 4 qS11.1 qS11.2).bind (fun qS14 => some ((), qS14.2)))) else (gd (in_b (nI t) (qS7.2.2.2 65)) (if (qS7.2.1 65 t : Int32) ≠ 4 then (if (qS7.1 : Int32) ≠ (-1) then (gd (in_b qS7.1 (qS7.2.2.2 65)) (gd (in_b qS7.1 (qS7.2.2.2 66)) ((f_X5_send (nI (fi (fpt y P1))) (nI (N j)) ((qS7.2.1 65) qS7.1.toNatClampNeg) ((qS7.2.2.1 66) qS7.1.toNatClampNeg) qS7.2).bind (fun qS19 => some ((), qS19.2))))) else ((f_X5_send (nI (fi (fpt y P1))) (nI (N j)) 4 2 qS7.2).bind (fun qS22 => some ((), qS22.2)))) else ((f_X5_leastError (nI s) (nI t) qS7.2).bind (fun qS25 => (f_X5_send (nI (fi (fpt y P1))) (nI (N j)) 4 qS25.1 qS25.2).bind (fun qS28 => some ((), qS28.2)))))))) := by
    unfold f_X5_pickCell
    rw [mI_in (a := N j) (n := 512) (by omega) (by omega), nI_clamp (show N j < 2 ^ 31 by omega), (hA1 12 (N j) (by omega) (by omega)).1.trans f4, s1]
    simp only [gd_t, Option.bind_some]
    rw [(hA1 13 (N j) (by omega) (by omega)).1.trans f5, t1]
    simp only [gd_t, Option.bind_some]
    rw [s4, t4]
  cases her1 : erV a a' with
  | some u =>
    have A0 := H_pick X.2.2.1 h.1 hz hr hev hRn hRm ha ha' (v := mkE u) (.inl ⟨u, her1, rfl⟩)
    have hl := k_lst (tf := tf) s2 s3 t2 t3 s4 t4 s5 t5 s6 t6 her1
    refine fh_snd Z A0 (w := u) (ecw_n (v := mkE u) (show ¬ 4 = 3 by decide)) (fun q => absurd q (show ¬ 4 = 3 by decide)) ?_
    rw [hop, c1 ⟨u, her1⟩]
    simp only [Option.bind_some]
    rw [s2, t2, hl]
    simp only [gd_t, Option.bind_some]
    rw [bd_u]
    by_cases c4 : a.1 = 4
    · rw [if_pos (s5.mpr c4)]
      rfl
    · rw [if_neg (fun q => c4 (s5.mp q))]
      have c4' : a'.1 = 4 := by
        unfold erV at her1
        rw [if_neg c4] at her1
        by_cases c5 : a'.1 = 4
        · exact c5
        · rw [if_neg c5] at her1
          cases her1
      rw [if_neg (fun q => q (t5.mpr c4'))]
      rfl
  | none =>
    obtain ⟨c4, c4'⟩ := erV_n her1
    by_cases hbad : badI a'.2.1 a.2.1
    · have A0 := H_pick X.2.2.1 h.1 hz hr hev hRn hRm ha ha' (v := mkE 2) (.inr (.inl ⟨her1, hbad, rfl⟩))
      refine fh_snd Z A0 (w := 2) (ecw_n (v := mkE 2) (show ¬ 4 = 3 by decide)) (fun q => absurd q (show ¬ 4 = 3 by decide)) ?_
      rw [hop, c2 her1 hbad]
      simp only [Option.bind_some]
      rw [s2, t2]
      simp only [gd_t]
      rw [if_neg (fun q => c4 (s5.mp q)), if_pos (fun q => c4' (t5.mp q)), if_neg (fun q => q rfl), bd_u]
      rfl
    · obtain ⟨m, d1, d2, d3, d4⟩ := c3 her1 hbad
      obtain ⟨u, u', γu, ru, v, hu, hcell⟩ := her P1 j hev x x' γ r a a' hz ha ha' her1 hbad
      have A0 := H_pick X.2.2.1 h.1 hz hr hev hRn hRm ha ha' (v := v) (.inr (.inr ⟨her1, hbad, u, u', γu, ru, hu, hcell⟩))
      have hl := x_len hX1
      obtain ⟨r1, r2, r3, r4⟩ := x_rc hX1 d1 d2
      have hcr : crt a.2.2.2 = rtk u' := X.2.2.2.2.1 _ _ _ _ _ hu
      have r2 : SlC S1 tf (tf a.2.2.1 a.2.2.2 + i64N a'.2.1) (cv ((4 * a.2.2.2, i64N a'.2.1) :: a.2.2.1) (crt (4 * a.2.2.2 / 4))) := r2
      have r4 : ∀ b, cv ((4 * a.2.2.2, i64N a'.2.1) :: a.2.2.1) (crt (4 * a.2.2.2 / 4)) = some b → b.1 = 3 → ∃ m, tb b.2.2.1 b.2.2.2 = some m ∧ b.2.1 = Int64.ofNat m := r4
      rw [show 4 * a.2.2.2 / 4 = a.2.2.2 by omega, hcr] at r2 r4
      rw [hcell] at r2
      have hne1 : nI (tf a.2.2.1 a.2.2.2 + i64N a'.2.1) ≠ -1 := fun e0 => by
        have := congrArg Int32.toInt e0
        rw [nI_toInt (by omega)] at this
        have e2 : (-1 : Int32).toInt = -1 := by decide
        omega
      refine fh_snd Z A0 (w := S1.2.1 66 (tf a.2.2.1 a.2.2.2 + i64N a'.2.1)) r2.2.2 (r4 v hcell) ?_
      rw [hop, d4]
      simp only [Option.bind_some]
      rw [s2, t2, if_neg (fun q => c4 (s5.mp q)), if_pos (fun q => c4' (t5.mp q)), if_pos hne1, mI_in (a := tf a.2.2.1 a.2.2.2 + i64N a'.2.1) (n := S1.2.2 65) (by omega) (by omega), mI_in (a := tf a.2.2.1 a.2.2.2 + i64N a'.2.1) (n := S1.2.2 66) (by omega) (by omega), nI_clamp (show tf a.2.2.1 a.2.2.2 + i64N a'.2.1 < 2 ^ 31 by omega), r2.1, bd_u]
      rfl
end HP1
