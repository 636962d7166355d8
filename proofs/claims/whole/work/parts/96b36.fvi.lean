/-! the class visits: by kinds -/
section FVI
variable {K pl : Nat → Nat} {V : Nat → Int64} {y : TR} {e : Nat} {N M L : Nat → Nat} {n ρ τ : Nat} {G : im_S} {sl tO sO kO crt : Nat → Nat} {f : Nat} {W : Nat → Int32 × Int32 × Int32} {ν : Nat → Nat} {q0 : Nat} {ar : Nat → Int64} {S S2 : im_S} {En : TPth → Prop} {cv vr : TPth → Nat → Option TVal} {Aw : TPth → Nat → Prop} {WV WC : TPth → Nat → TPth → Nat → Prop} {R H : List TEv} {nS nF fu : Nat} {fb : Nat → Nat} {fp : Nat → TPth} {fi : TPth → Nat} {tf : TPth → Nat → Nat} {tb : TPth → Nat → Option Nat} {ow si fo : Nat → Int32} {lw : Nat → Int64} {P0 : TPth} {t0 : Nat}
theorem bd_u {o : Option (Unit × im_S)} : o.bind (fun q => some ((), q.2)) = o := by
  cases o with
  | none => rfl
  | some q => rfl
theorem F_visit (hfu : 600000 ≤ fu) (X : XB K pl V y e N M L n ρ τ G sl tO sO kO crt f W ν) (hq0 : q0 ∈ (ftP y).map Prod.fst) (h4 : ∀ j fs c ns g γ r, (.tag 7 (.tag j (.append fs (.append c (.append ns g)))), γ, r) ∈ scP y → tln fs ≤ 4) (h : MI K V y e N L G sl tO sO kO crt q0 ar S En cv vr none Aw WV WC R H nS nF fb fp fi tf tb ow si fo lw) (hX : MX V y e N L sl tO sO kO S2 nS nF fb fp fi tf tb ow si fo lw cv vr (fun D => cv D (crt (hdR D / 4))) (fun P t => Aw P t ∧ ¬ (P = P0 ∧ t = t0)) WV (fun D P t => ∃ t', WC D t' P t)) (hk : MK S S2) (hA : Aw P0 t0) (hroom : ∀ fs c ns g γ r, (.tag 7 (.tag t0 (.append fs (.append c (.append ns g)))), γ, r) ∈ scP y → r = hdR P0 → nS + sl (L t0) ≤ 523264 ∧ nF < 32768) : FVo K V y e N L G sl tO sO kO crt q0 ar (f_X5_visit fu (nI (fi (fpt y P0))) (nI (N t0)) S2) En cv vr Aw WV WC R H P0 t0 nS nF fb fp tf tb := by
  have C := X.1
  obtain ⟨hEn, z, z1, z2, z3, z4⟩ := h.1.2.1.2.2.2.2.1 P0 t0 (.inl hA)
  have hOP := h.2.2.2.2.1 P0 hEn
  have hqa := h.1.2.2.2.2.1 P0 z hEn z1 z2
  have hA2 := cag_mk h.2.2.1 hk
  have hkd := (op_tk C X.2.1 hOP z1 z2 (z4.trans z3.symm)).1
  have h7 := (nd_P C z1 (z4.trans z3.symm)).2.1
  rw [z3] at hkd h7
  have hN := (tk_sl C X.2.1 hkd).2.1
  have e41 : S2.1 41 (N t0) = nI (kdN z.1) := (hA2 7 (N t0) (by omega) (by omega)).1.trans h7
  have n1 : in_b (nI (N t0)) 512 = true := mI_in (a := N t0) (n := 512) (by omega) (by omega)
  have c1 : (nI (N t0)).toNatClampNeg = N t0 := nI_clamp (by omega)
  have hvis : f_X5_visit fu (nI (fi (fpt y P0))) (nI (N t0)) S2 = (if nI (kdN z.1) = (1 : Int32) then ((f_X5_send (nI (fi (fpt y P0))) (nI (N t0)) (S2.1 42 (N t0)) (S2.2.1 55 (N t0)) S2).bind (fun q => some ((), q.2))) else (if nI (kdN z.1) = (2 : Int32) then ((f_X5_lookUp fu (nI (fi (fpt y P0))) (nI (N t0)) S2).bind (fun q => some ((), q.2))) else (if nI (kdN z.1) = (9 : Int32) then ((f_X5_beginLoop fu (nI (fi (fpt y P0))) (nI (N t0)) S2).bind (fun q => some ((), q.2))) else ((f_X5_makeReady (nI (fi (fpt y P0))) (nI (N t0)) S2).bind (fun q => some ((), q.2)))))) := by
    unfold f_X5_visit
    rw [n1, c1, e41]
    simp only [gd_t]
  have hAW : AwW Aw WV WC P0 t0 := .inl hA
  obtain ⟨kk, hkk⟩ : ∃ kk, kk = kdN z.1 := ⟨_, rfl⟩
  rw [hvis, ← hkk]
  have hs := ((tl_P C.1) z z1).2.1
  have hcn := cn_P C z z1
  obtain ⟨x, γ, r⟩ := z
  have hs : shp x := hs
  rcases hs with ⟨j, rfl⟩ | ⟨j, rfl⟩ | ⟨j, rfl⟩ | ⟨j, as, rfl⟩ | ⟨j, a, b, rfl⟩ | ⟨j, a, b, d, rfl⟩ | ⟨j, fs, d, ns, g, rfl⟩ | ⟨j, a, rfl⟩ | ⟨j, a, b, rfl⟩ | ⟨j, a, b, rfl⟩ | ⟨j, a, b, rfl⟩ | ⟨j, a, rfl⟩
  · have z3 : j = t0 := z3
    subst z3
    obtain ⟨-, -, d3, d4, -, -⟩ := hcn
    rw [show kk = 1 from hkk, if_pos (show nI 1 = (1 : Int32) from rfl), (hA2 8 (N j) (by omega) (by omega)).1.trans d3, (hA2 21 (N j) (by omega) (by omega)).2.trans d4]
    exact fv_send h hX hk hA (a := mkN (V j)) ⟨fun q => absurd q (show ¬ 1 = 3 by decide), fun _ => rfl⟩ (fun q => absurd q (show ¬ 1 = 3 by decide)) (A_send X.2.2.1 h.1 hA ⟨z1, z2, rfl, z4⟩ (.inl ⟨j, rfl, rfl⟩)) rfl
  · have z3 : j = t0 := z3
    subst z3
    obtain ⟨-, -, d3, d4, -, -⟩ := hcn
    rw [show kk = 1 from hkk, if_pos (show nI 1 = (1 : Int32) from rfl), (hA2 8 (N j) (by omega) (by omega)).1.trans d3, (hA2 21 (N j) (by omega) (by omega)).2.trans d4]
    exact fv_send h hX hk hA (a := mkT (if K j = 15 then 1 else 0)) ⟨fun q => absurd q (show ¬ 2 = 3 by decide), fun _ => rfl⟩ (fun q => absurd q (show ¬ 2 = 3 by decide)) (A_send X.2.2.1 h.1 hA ⟨z1, z2, rfl, z4⟩ (.inr (.inl ⟨j, rfl, rfl⟩))) rfl
  · have z3 : j = t0 := z3
    subst z3
    rw [show kk = 2 from hkk, if_neg (show ¬ nI 2 = (1 : Int32) by decide), if_pos (show nI 2 = (2 : Int32) from rfl)]
    exact fv_use hfu X hq0 h hX hk hA ⟨z1, z2, rfl, z4⟩
  · have z3 : j = t0 := z3
    subst z3
    rw [show kk = 8 from hkk, if_neg (show ¬ nI 8 = (1 : Int32) by decide), if_neg (show ¬ nI 8 = (2 : Int32) by decide), if_neg (show ¬ nI 8 = (9 : Int32) by decide)]
    exact fv_rdy X h hX hk hA ⟨z1, z2, rfl, z4⟩ (.inl ⟨as, rfl⟩) rfl
  · exact absurd (by rw [show j = t0 from z3]; exact hAW) hqa.1
  · exact absurd (by rw [show j = t0 from z3]; exact hAW) hqa.1
  · have z3 : j = t0 := z3
    subst z3
    rw [show kk = 9 from hkk, if_neg (show ¬ nI 9 = (1 : Int32) by decide), if_neg (show ¬ nI 9 = (2 : Int32) by decide), if_pos (show nI 9 = (9 : Int32) from rfl)]
    obtain ⟨r1, r2⟩ := hroom fs d ns g γ r z1 z2
    exact fv_loop hfu X h hX hk hA z1 z2 (h4 j fs d ns g γ r z1) r1 r2
  · exact absurd (by rw [show j = t0 from z3]; exact hAW) hqa.1
  · exact absurd (by rw [show j = t0 from z3]; exact hAW) hqa.1
  · have z3 : j = t0 := z3
    subst z3
    rw [show kk = 6 from hkk, if_neg (show ¬ nI 6 = (1 : Int32) by decide), if_neg (show ¬ nI 6 = (2 : Int32) by decide), if_neg (show ¬ nI 6 = (9 : Int32) by decide)]
    exact fv_rdy X h hX hk hA ⟨z1, z2, rfl, z4⟩ (.inr ⟨a, b, rfl⟩) rfl
  · exact absurd (by rw [show j = t0 from z3]; exact hAW) hqa.1
  · exact absurd (show AwW Aw WV WC P0 j by rw [show j = t0 from z3]; exact hAW) hqa
end FVI
