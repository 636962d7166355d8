/-! a run begins, in the class: all of it -/
section BGN
variable {K pl : Nat → Nat} {V : Nat → Int64} {y : TR} {e : Nat} {N M L : Nat → Nat} {n ρ τ : Nat} {G : im_S} {sl tO sO kO crt : Nat → Nat} {f : Nat} {W : Nat → Int32 × Int32 × Int32} {ν : Nat → Nat} {q0 cnt ii : Nat} {xf : TR} {ar : Nat → Int64} {S S' : im_S} {fu : Nat}
set_option maxHeartbeats 4000000 in
theorem F_begin (hfu : 1569793 ≤ fu) (X : XB K pl V y e N M L n ρ τ G sl tO sO kO crt f W ν) (h20 : nlP y ≤ 20) (h4 : ∀ j fs c ns g γ r, (.tag 7 (.tag j (.append fs (.append c (.append ns g)))), γ, r) ∈ scP y → tln fs ≤ 4) (hi : (fuP y)[ii]? = some (q0, cnt, xf)) (hii : ii < 8) (hty : ∀ z, z < cnt → tvV (V (q0 + 2 + 2 * z)) = 1) (hA : CAg G S) (hln : LnG S) (har : ∀ z, z < 4 → S.2.1 2 z = ar z) : FLo K V y e N L G sl tO sO kO crt q0 ar (f_X5_begin fu (nI ii) S) (fun P => P = [(4 * q0, 0)]) [] (fun _ _ => none) := by
  have C := X.1
  have hS := X.2.1
  have hL := X.2.2.1.2.2.2.2.1
  have hq := List.mem_of_getElem? hi
  have hq0 : q0 ∈ (ftP y).map Prod.fst := fu_ft C.1 hq
  obtain ⟨y1, y2, y3, y4, y5, y6, y7, y8, y9, y10, y11, y12⟩ := cf_P C hi
  obtain ⟨S0, hS0⟩ : ∃ S0, S0 = uI (uI (uI (uI (uI (uI (uI (uI (uI (uI S 38 9 1) 38 2 0) 38 3 0) 38 8 0) 38 10 0) 38 11 0) 64 2 0) 67 4 0) 72 2 1) 72 3 0 := ⟨_, rfl⟩
  have ne : ∀ a i : Nat, a ≠ 38 → a ≠ 64 → a ≠ 67 → a ≠ 72 → S0.1 a i = S.1 a i := fun a i q1 q2 q3 q4 => by
    rw [hS0, uI_ne (by omega), uI_ne (by omega), uI_ne (by omega), uI_ne (by omega), uI_ne (by omega), uI_ne (by omega), uI_ne (by omega), uI_ne (by omega), uI_ne (by omega), uI_ne (by omega)]
  have nj : S0.2 = S.2 := by rw [hS0]; rfl
  have v3 : S0.1 38 3 = 0 := by rw [hS0, uI_ne (by omega), uI_ne (by omega), uI_ne (by omega), uI_ne (by omega), uI_ne (by omega), uI_ne (by omega), uI_ne (by omega), uI_eq]
  have v8 : S0.1 38 8 = 0 := by rw [hS0, uI_ne (by omega), uI_ne (by omega), uI_ne (by omega), uI_ne (by omega), uI_ne (by omega), uI_ne (by omega), uI_eq]
  have v10 : S0.1 38 10 = 0 := by rw [hS0, uI_ne (by omega), uI_ne (by omega), uI_ne (by omega), uI_ne (by omega), uI_ne (by omega), uI_eq]
  have v11 : S0.1 38 11 = 0 := by rw [hS0, uI_ne (by omega), uI_ne (by omega), uI_ne (by omega), uI_ne (by omega), uI_eq]
  have v64 : S0.1 64 2 = 0 := by rw [hS0, uI_ne (by omega), uI_ne (by omega), uI_ne (by omega), uI_eq]
  have v67 : S0.1 67 4 = 0 := by rw [hS0, uI_ne (by omega), uI_ne (by omega), uI_eq]
  have v72 : S0.1 72 2 = 1 := by rw [hS0, uI_ne (by omega), uI_eq]
  have v73 : S0.1 72 3 = 0 := by rw [hS0, uI_eq]
  have hln0 : LnG S0 := by
    obtain ⟨l1, l2, l3, l4⟩ := hln
    refine ⟨by rw [nj]; exact l1, ?_, by rw [nj]; exact l3, by rw [nj]; exact l4⟩
    rw [gby_i]
    intro k hk
    rw [ne 65 k (by omega) (by omega) (by omega) (by omega)]
    exact gby_i.mp l2 k (by rw [nj] at hk; exact hk)
  have hA0 : CAg G S0 := cag_k hA (fun a i q1 q2 => ne a i (by omega) (by omega) (by omega) (by omega)) (fun a i q1 q2 => by rw [nj])
  have hX0 := mx_0 (V := V) (y := y) (e := e) (N := N) (L := L) (sl := sl) (tO := tO) (sO := sO) (kO := kO) (fb := fun _ => 0) (fp := fun _ => []) (fi := fun _ => 0) (tf := fun _ _ => 0) (ow := fun _ => 0) (si := fun _ => 0) (fo := fun _ => 0) (lw := fun _ => 0) (cc := fun D => (fun (_ : TPth) (_ : Nat) => (none : Option TVal)) D (crt (hdR D / 4))) hln0 v64 v67 v72 v73 v10
  have hif : ifr y (4 * q0) := ifr_fn C.1 hq
  have hFk : POk V y [(4 * q0, 0)] := ⟨q0, cnt, xf, hq, rfl⟩
  have hFz : Z0 y [(4 * q0, 0)] := fun c hc _ => by rw [List.mem_singleton.mp hc]
  have hfF : fpt y [(4 * q0, 0)] = [(4 * q0, 0)] := fpt_y hif
  have hj4 : hdR [(4 * q0, 0)] / 4 = q0 := by show 4 * q0 / 4 = q0; omega
  have hLτ : L q0 < τ := by
    have := (dp_P C _ hFk).2.2
    rw [hfF, hj4] at this
    exact this
  have hsl := sl_500 X hLτ
  have hτ := C.2.2.2.2.2.2.1
  have hpe : q0 < e := ((ft_fu C.1).2.1 q0 hq0).2
  have hMp := M_512 C (k := 1) hpe y3
  obtain ⟨S1, g1, g2, g3⟩ := x_frm (fu := fu) (F := [(4 * q0, 0)]) (R := M q0) (o := -1) (x := -1) (by omega) C hS hX0 ⟨hFk, hFz, hif⟩ (fun f q => absurd q (Nat.not_lt_zero _)) (by omega) (by rw [hj4]; exact (hA0 27 (M q0) (by omega) (by omega)).1.trans y5) (by rw [hj4]; exact (hA0 28 (L q0) (by omega) (by omega)).1.trans (hS.1 (L q0) hLτ)) (by rw [hj4]; omega) (by omega) (fun P z _ _ _ _ _ _ => rfl) (fun b _ => rfl) (fun b P t q => q) hL
  obtain ⟨fp1, hfp1⟩ : ∃ fp1 : Nat → TPth, fp1 = upN (fun _ => []) 0 [(4 * q0, 0)] := ⟨_, rfl⟩
  obtain ⟨fi1, hfi1⟩ : ∃ fi1 : TPth → Nat, fi1 = fun Q => if Q = [(4 * q0, 0)] then 0 else 0 := ⟨_, rfl⟩
  rw [← hfp1, ← hfi1] at g2
  have ei : ∀ Q, fi1 Q = 0 := fun Q => by
    rw [hfi1]
    show (if Q = [(4 * q0, 0)] then 0 else 0) = 0
    split <;> rfl
  have ep : fp1 0 = [(4 * q0, 0)] := by rw [hfp1]; exact upN_eq
  have hA1 := cag_mk hA0 g3
  obtain ⟨S2, vr1, k1, k2, k3, k4⟩ := x_pars (fu := fu) (F := [(4 * q0, 0)]) (ar := ar) (z1 := nI ii) (z3 := nI (M q0)) (by omega) X hq y7 rfl (by rw [ei]; omega) (by rw [ei]; exact ep) hFk hif (fun _ _ _ _ q => q) cnt 0 fu S1 _ (G.1 25 ii) rfl (by omega) (by rw [show q0 + 2 + 2 * 0 = q0 + 2 by omega]; exact y8) hA1 g2 (fun z q => ((g3.2.1 2 z (by omega)).trans (show S0.2.1 2 z = S.2.1 2 z by rw [nj])).trans (har z q)) (fun z _ => rfl)
  have hA2 := cag_mk hA1 k3
  have hOP : OP V y (0 + 1) fp1 fi1 [(4 * q0, 0)] := ⟨hFk, hFz, by rw [ei]; omega, by rw [ei, ep, hfF]⟩
  obtain ⟨bx, ex, wx, hlt⟩ := fu_wt C.1 q0 cnt xf hq
  obtain ⟨S3, m1, m2, m3⟩ := h_ent (fu := fu) (by omega) X hA2 k2 hOP (fun t q => by
    rcases q with q | ⟨F, b, q⟩ | ⟨D, q⟩
    · exact q
    · exact q
    · exact q) (R0 := M q0) (by omega) (fun t => lv_fn C.1 hq t) (lv_nd wx).1 y11
  rw [hfF] at m1
  have hk3 := MK_t g3 (MK_t k3 m3)
  have hvr : ∀ F b v, vr1 F b = some v ↔ F = [(4 * q0, 0)] ∧ ∃ z, z < cnt ∧ b = q0 + 2 + 2 * z ∧ v = mkN (ar z) := fun F b v => by
    rw [k4 F b v]
    refine ⟨fun q => ?_, fun ⟨q1, z, q2, q3, q4⟩ => .inr ⟨q1, z, Nat.zero_le _, q2, q3, q4⟩⟩
    rcases q with q | ⟨q1, z, -, q2, q3, q4⟩
    · cases q
    · exact ⟨q1, z, q2, q3, q4⟩
  have hMI : MI K V y e N L G sl tO sO kO crt q0 ar S3 (fun P => P = [(4 * q0, 0)]) (fun _ _ => none) vr1 none (fun P t => P = [(4 * q0, 0)] ∧ ∃ z, NdA y P t z ∧ lfK z.1 = true) (fun _ _ _ _ => False) (fun _ _ _ _ => False) [] [] (0 + sl (L (hdR [(4 * q0, 0)] / 4))) (0 + 1) (upN (fun _ => 0) 0 0) fp1 fi1 (fun _ _ => 0) (fun _ _ => none) (upN (fun _ => 0) 0 (-1)) (upN (fun _ => 0) 0 (-1)) (upN (fun _ => 0) 0 0) (fun s => if s < 0 then (fun _ => 0) s else 0) := by
    refine ⟨AB_0 X.2.2.1 hq hty hvr, MX_cg m2 (fun P t => ⟨.inr, fun q => q.elim False.elim id⟩) (fun _ _ _ _ => Iff.rfl) (fun D P t => ⟨fun ⟨_, q⟩ => q.elim, fun q => q.elim⟩), cag_mk hA2 m3, ⟨fun _ => (hk3.1 38 11 (by omega) (by omega)).trans v11, fun P t a q => (by cases q), (hk3.1 38 8 (by omega) (by omega)).trans v8, Nat.zero_le _, fun k ev q => ?_⟩, fun P q => ?_, ⟨by omega, ep, upN_eq, fun f hf h0 => absurd hf (by omega)⟩, ⟨fun P t a q => ?_, fun P t m q => (by cases q), fun P j k x x' γ r q => ?_⟩, MW_iff.mpr ⟨fun P z c hP hz hr ht => ⟨fun q => ?_, fun _ => ?_⟩, fun P j fs c ns g γ r i q1 q2 => ?_⟩, fun cnt' x' q => ⟨fun _ => (hk3.1 38 3 (by omega) (by omega)).trans v3, fun a q => (by cases q)⟩, ⟨fun F b a q => ?_, fun _ _ _ _ q => q.elim⟩⟩
    · rw [List.getElem?_nil] at q
      cases q
    · have q : P = [(4 * q0, 0)] := q
      rw [q]
      exact hOP
    · rcases q with q | q
      · cases q
      · cases q
    · rcases q with q | q
      · exact absurd q List.not_mem_nil
      · exact absurd q List.not_mem_nil
    · exact absurd (List.cons.inj q).2 (pk_ne hP.1)
    · exact if_neg (Nat.not_lt_zero _)
    · have := (List.cons.inj q2).2
      cases this
    · obtain ⟨q1, -⟩ := (hvr F b a).mp q
      rw [q1, ei]
      exact ⟨by omega, ep⟩
  have hcvs : CVS L sl (0 + sl (L (hdR [(4 * q0, 0)] / 4))) (0 + 1) (upN (fun _ => 0) 0 0) fp1 (fun _ _ => 0) (fun _ _ => none) := by
    rw [hfp1]
    exact cvs_fn (fun s q => absurd q (Nat.not_lt_zero _))
  have hfl := F_flow (fu := fu) hfu X h20 hq0 h4 (Z := []) (Nat.zero_le _) (fun ev q => q) (fun P t m i q => (by cases q)) hMI hcvs (fun P t m q => (by cases q)) (fun P t q => absurd q List.not_mem_nil)
  have hrun : f_X5_begin fu (nI ii) S = f_X5_flow fu S3 := by
    have e1 : f_X5_begin fu (nI ii) S = gd (in_b (nI ii) 8) ((f_X5_openFrame fu ((S0.1 58) (nI ii).toNatClampNeg) (-1) (-1) S0).bind (fun qS10 => gd (in_b (nI ii) 8) (f_X5_begin_L90 fu fu (nI ii) ((S0.1 58) (nI ii).toNatClampNeg) qS10.1 ((qS10.2.1 59) (nI ii).toNatClampNeg) 0 qS10.2))) := by
      rw [hS0]
      rfl
    rw [e1, mI_in (a := ii) (n := 8) (by omega) hii, nI_clamp (show ii < 2 ^ 31 by omega), (hA0 24 ii (by omega) (by omega)).1.trans y2, g1]
    simp only [gd_t, Option.bind_some]
    rw [(hA1 25 ii (by omega) (by omega)).1]
    rw [ei] at k1 m1
    rw [show (0 : Int32) = nI 0 from rfl, k1, m1]
    simp only [Option.bind_some]
    rw [bd_u]
  rw [hrun]
  exact hfl
end BGN
