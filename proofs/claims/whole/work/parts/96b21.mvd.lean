/-! a token that moves is put down, in the class -/
def mvD (fu : Nat) (p : Int32) (S : im_S) : Option (Unit × im_S) := gd (in_b (S.1 38 13) 512) (if ((S.1 43) ((S.1 38 13).toNatClampNeg)) = (1 : Int32) then ((f_X5_makeReady (S.1 38 12) p S).bind (fun q => some ((), q.2))) else (if ((S.1 43) ((S.1 38 13).toNatClampNeg)) = (2 : Int32) then ((f_X5_meet p S).bind (fun q => some ((), q.2))) else (if ((S.1 43) ((S.1 38 13).toNatClampNeg)) = (3 : Int32) then ((f_X5_send (S.1 38 12) p (S.1 38 14) (S.2.1 38 15) S).bind (fun q => some ((), q.2))) else (if ((S.1 43) ((S.1 38 13).toNatClampNeg)) = (4 : Int32) then (gd (in_b (S.1 38 13) 512) ((f_X5_slotOf (S.1 38 12) ((S.1 45) ((S.1 38 13).toNatClampNeg)) S).bind (fun q1 => (f_X5_settle fu q1.1 (q1.2.1 38 14) (q1.2.2.1 38 15) q1.2).bind (fun q => some ((), q.2))))) else (if ((S.1 43) ((S.1 38 13).toNatClampNeg)) = (5 : Int32) then ((f_X5_slotOf (S.1 38 12) p S).bind (fun q1 => gd (in_b (q1.1 + 1) (q1.2.2.2 66)) (if (((q1.2.2.1 66) ((q1.1 + 1).toNatClampNeg)).toInt32 : Int32) = 0 then (some ((), q1.2)) else ((f_X5_handIn fu (q1.2.1 38 12) (q1.2.1 38 13) (((q1.2.2.1 66) ((q1.1 + 1).toNatClampNeg)).toInt32) q1.2).bind (fun q => some ((), q.2)))))) else (if ((S.1 43) ((S.1 38 13).toNatClampNeg)) = (6 : Int32) then (gd (in_b (S.1 38 12) (S.2.2 71)) ((f_X5_handIn fu (S.1 38 12) (S.1 38 13) ((S.1 71) ((S.1 38 12).toNatClampNeg)) S).bind (fun q => some ((), q.2)))) else (if ((S.1 43) ((S.1 38 13).toNatClampNeg)) = (7 : Int32) then (gd (in_b (S.1 38 12) (S.2.2 69)) ((f_X5_send ((S.1 69) ((S.1 38 12).toNatClampNeg)) p (S.1 38 14) (S.2.1 38 15) S).bind (fun q => some ((), q.2)))) else (if ((S.1 43) ((S.1 38 13).toNatClampNeg)) = (8 : Int32) then (gd (in_b (S.1 38 12) (S.2.2 70)) ((f_X5_settle fu ((S.1 70) ((S.1 38 12).toNatClampNeg)) (S.1 38 14) (S.2.1 38 15) S).bind (fun q => some ((), q.2)))) else ((f_X5_leaveFunction S).bind (fun q => some ((), q.2)))))))))))
section MVD
variable {K pl : Nat → Nat} {V : Nat → Int64} {y : TR} {e : Nat} {N M L : Nat → Nat} {n ρ τ : Nat} {G : im_S} {sl tO sO kO crt : Nat → Nat} {f : Nat} {W : Nat → Int32 × Int32 × Int32} {ν : Nat → Nat} {q0 : Nat} {ar : Nat → Int64} {S S' : im_S} {En : TPth → Prop} {cv vr : TPth → Nat → Option TVal} {mv mv' : Option (TPth × Nat × TVal)} {Aw : TPth → Nat → Prop} {WV WC : TPth → Nat → TPth → Nat → Prop} {R H R' : List TEv} {nS nF fu : Nat} {fb : Nat → Nat} {fp : Nat → TPth} {fi : TPth → Nat} {tf : TPth → Nat → Nat} {tb : TPth → Nat → Option Nat} {ow si fo : Nat → Int32} {lw : Nat → Int64} {P0 : TPth} {t0 : Nat} {a : TVal}
theorem md_k {p : Int32} {k r : Nat} (hk : k < 512) (h13 : S.1 38 13 = nI k) (hr : S.1 43 k = nI r) (h9 : 1 ≤ r ∧ r ≤ 9) :
    (r = 1 → mvD fu p S = ((f_X5_makeReady (S.1 38 12) p S).bind (fun q => some ((), q.2)))) ∧ (r = 2 → mvD fu p S = ((f_X5_meet p S).bind (fun q => some ((), q.2)))) ∧ (r = 3 → mvD fu p S = ((f_X5_send (S.1 38 12) p (S.1 38 14) (S.2.1 38 15) S).bind (fun q => some ((), q.2)))) ∧ (r = 4 → mvD fu p S = ((f_X5_slotOf (S.1 38 12) (S.1 45 k) S).bind (fun q1 => (f_X5_settle fu q1.1 (q1.2.1 38 14) (q1.2.2.1 38 15) q1.2).bind (fun q => some ((), q.2))))) ∧
    (r = 5 → mvD fu p S = ((f_X5_slotOf (S.1 38 12) p S).bind (fun q1 => gd (in_b (q1.1 + 1) (q1.2.2.2 66)) (if (((q1.2.2.1 66) ((q1.1 + 1).toNatClampNeg)).toInt32 : Int32) = 0 then (some ((), q1.2)) else ((f_X5_handIn fu (q1.2.1 38 12) (q1.2.1 38 13) (((q1.2.2.1 66) ((q1.1 + 1).toNatClampNeg)).toInt32) q1.2).bind (fun q => some ((), q.2))))))) ∧ (r = 6 → mvD fu p S = (gd (in_b (S.1 38 12) (S.2.2 71)) ((f_X5_handIn fu (S.1 38 12) (S.1 38 13) ((S.1 71) ((S.1 38 12).toNatClampNeg)) S).bind (fun q => some ((), q.2))))) ∧
    (r = 7 → mvD fu p S = (gd (in_b (S.1 38 12) (S.2.2 69)) ((f_X5_send ((S.1 69) ((S.1 38 12).toNatClampNeg)) p (S.1 38 14) (S.2.1 38 15) S).bind (fun q => some ((), q.2))))) ∧ (r = 8 → mvD fu p S = (gd (in_b (S.1 38 12) (S.2.2 70)) ((f_X5_settle fu ((S.1 70) ((S.1 38 12).toNatClampNeg)) (S.1 38 14) (S.2.1 38 15) S).bind (fun q => some ((), q.2))))) ∧ (r = 9 → mvD fu p S = ((f_X5_leaveFunction S).bind (fun q => some ((), q.2)))) := by
  have hin : in_b (nI k) 512 = true := mI_in (a := k) (n := 512) (by omega) hk
  have hcl : (nI k).toNatClampNeg = k := nI_clamp (by omega)
  have ne : ∀ i : Nat, i < 100 → r ≠ i → nI r ≠ nI i := fun i h1 h2 q => h2 ((nI_eq (by omega) (by omega)).mp q)
  have n1 : r ≠ 1 → nI r ≠ 1 := ne 1 (by omega)
  have n2 : r ≠ 2 → nI r ≠ 2 := ne 2 (by omega)
  have n3 : r ≠ 3 → nI r ≠ 3 := ne 3 (by omega)
  have n4 : r ≠ 4 → nI r ≠ 4 := ne 4 (by omega)
  have n5 : r ≠ 5 → nI r ≠ 5 := ne 5 (by omega)
  have n6 : r ≠ 6 → nI r ≠ 6 := ne 6 (by omega)
  have n7 : r ≠ 7 → nI r ≠ 7 := ne 7 (by omega)
  have n8 : r ≠ 8 → nI r ≠ 8 := ne 8 (by omega)
  unfold mvD
  rw [h13, hin, hcl, hr]
  simp only [gd_t]
  refine ⟨fun q => ?_, fun q => ?_, fun q => ?_, fun q => ?_, fun q => ?_, fun q => ?_, fun q => ?_, fun q => ?_, fun q => ?_⟩
  · rw [if_pos (by rw [q]; rfl)]
  · rw [if_neg (n1 (by omega)), if_pos (by rw [q]; rfl)]
  · rw [if_neg (n1 (by omega)), if_neg (n2 (by omega)), if_pos (by rw [q]; rfl)]
  · rw [if_neg (n1 (by omega)), if_neg (n2 (by omega)), if_neg (n3 (by omega)), if_pos (by rw [q]; rfl)]
  · rw [if_neg (n1 (by omega)), if_neg (n2 (by omega)), if_neg (n3 (by omega)), if_neg (n4 (by omega)), if_pos (by rw [q]; rfl)]
  · rw [if_neg (n1 (by omega)), if_neg (n2 (by omega)), if_neg (n3 (by omega)), if_neg (n4 (by omega)), if_neg (n5 (by omega)), if_pos (by rw [q]; rfl)]
  · rw [if_neg (n1 (by omega)), if_neg (n2 (by omega)), if_neg (n3 (by omega)), if_neg (n4 (by omega)), if_neg (n5 (by omega)), if_neg (n6 (by omega)), if_pos (by rw [q]; rfl)]
  · rw [if_neg (n1 (by omega)), if_neg (n2 (by omega)), if_neg (n3 (by omega)), if_neg (n4 (by omega)), if_neg (n5 (by omega)), if_neg (n6 (by omega)), if_neg (n7 (by omega)), if_pos (by rw [q]; rfl)]
  · rw [if_neg (n1 (by omega)), if_neg (n2 (by omega)), if_neg (n3 (by omega)), if_neg (n4 (by omega)), if_neg (n5 (by omega)), if_neg (n6 (by omega)), if_neg (n7 (by omega)), if_neg (n8 (by omega))]
/-- an event gets into the list of what is ready -/
theorem k_rdy {x1 x2 : Int32} {l : Nat} (h8 : S.1 38 8 = nI l) (hl : l ≤ 1001) : ∃ S' : im_S, f_X5_makeReady x1 x2 S = some ((), S') ∧ ((l = 1001 ∧ S' = S) ∨ (l < 1001 ∧ S'.1 38 8 = nI (l + 1) ∧ S'.1 39 l = x1 * 512 + x2 ∧ (∀ a i : Nat, (a = 39 → i ≠ l) → (a = 38 → i ≠ 8) → S'.1 a i = S.1 a i) ∧ S'.2 = S.2)) := by
  unfold f_X5_makeReady
  rw [h8]
  by_cases c : l = 1001
  · rw [if_pos (show Int32.ofNat 1001 ≤ nI l from (mI_le (a := 1001) (b := l) (by omega) (by omega)).mpr (by omega))]
    exact ⟨S, rfl, .inl ⟨c, rfl⟩⟩
  · rw [if_neg (show ¬ Int32.ofNat 1001 ≤ nI l from fun q => by have := (mI_le (a := 1001) (b := l) (by omega) (by omega)).mp q; omega), mI_in (a := l) (n := 1001) (by omega) (by omega), nI_clamp (show l < 2 ^ 31 by omega)]
    refine ⟨_, rfl, .inr ⟨by omega, ?_, ?_, fun a i q1 q2 => ?_, rfl⟩⟩
    · rw [uI_eq]
      exact nI_add l 1
    · rw [uI_ne (by omega), uI_eq]
    · rw [uI_ne (by omega), uI_ne (by omega)]
theorem g_rdy {x1 x2 : Int32} (hG : MG y N fi tf S none R) {ev : TEv} (hc : x1 * 512 + x2 = nI (evc y N fi ev)) : ∃ (S' : im_S) (R' : List TEv), f_X5_makeReady x1 x2 S = some ((), S') ∧ (R' = R ++ [ev] ∨ (1001 ≤ R.length ∧ R' = R)) ∧ MG y N fi tf S' none R' ∧ (∀ a i : Nat, (a ≠ 38 ∧ a ≠ 39) ∨ (a = 38 ∧ i ≠ 8) → S'.1 a i = S.1 a i) ∧ S'.2 = S.2 := by
  obtain ⟨g1, g2, g3, g4, g5⟩ := hG
  obtain ⟨S', k1, k2⟩ := k_rdy (x1 := x1) (x2 := x2) g3 g4
  rcases k2 with ⟨k2, k3⟩ | ⟨k2, k3, k4, k5, k6⟩
  · refine ⟨S', R, k1, .inr ⟨by omega, rfl⟩, ?_, fun a i _ => by rw [k3], by rw [k3]⟩
    rw [k3]
    exact ⟨g1, g2, g3, g4, g5⟩
  · refine ⟨S', R ++ [ev], k1, .inl rfl, ⟨fun q => (k5 38 11 (by omega) (by omega)).trans (g1 q), fun P t a q => (by cases q), ?_, ?_, fun k ev' q => ?_⟩, fun a i q => k5 a i (by omega) (by omega), k6⟩
    · rw [List.length_append]
      exact k3
    · rw [List.length_append]
      show R.length + 1 ≤ 1001
      omega
    · rcases Nat.lt_or_ge k R.length with c | c
      · rw [List.getElem?_append_left c] at q
        rw [k5 39 k (by omega) (by omega)]
        exact g5 k ev' q
      · rw [List.getElem?_append_right c] at q
        have hk : k - R.length = 0 := by
          rcases Nat.lt_or_ge (k - R.length) 1 with u | u
          · omega
          · rw [List.getElem?_eq_none (by simpa using u)] at q
            cases q
        have hk' : k = R.length := by omega
        rw [hk] at q
        cases q
        rw [hk', k4, hc]
/-- a value is sent -/
theorem g_send (hG : MG y N fi tf S mv R) {P : TPth} {t : Nat} {a0 : TVal} {w : Int64} (hE : EcW tf a0 w) : ∃ S' : im_S, f_X5_send (nI (fi (fpt y P))) (nI (N t)) (nI a0.1) w S = some ((), S') ∧ MG y N fi tf S' (some (P, t, a0)) R ∧ (∀ a i : Nat, (a ≠ 38 ∨ i < 11 ∨ 15 < i) → S'.1 a i = S.1 a i) ∧ (∀ a i : Nat, (a ≠ 38 ∨ i ≠ 15) → S'.2.1 a i = S.2.1 a i) ∧ S'.2.2 = S.2.2 := by
  obtain ⟨g1, g2, g3, g4, g5⟩ := hG
  have ne : ∀ a i : Nat, (a ≠ 38 ∨ i < 11 ∨ 15 < i) → (uJ (uI (uI (uI (uI S 38 11 1) 38 12 (nI (fi (fpt y P)))) 38 13 (nI (N t))) 38 14 (nI a0.1)) 38 15 w).1 a i = S.1 a i := fun a i q => by
    show (uI (uI (uI (uI S 38 11 1) 38 12 (nI (fi (fpt y P)))) 38 13 (nI (N t))) 38 14 (nI a0.1)).1 a i = S.1 a i
    rw [uI_ne (by omega), uI_ne (by omega), uI_ne (by omega), uI_ne (by omega)]
  refine ⟨_, rfl, ⟨fun q => (by cases q), fun P' t' a' q => ?_, (ne 38 8 (by omega)).trans g3, g4, fun k ev q => (ne 39 k (by omega)).trans (g5 k ev q)⟩, ne, fun a i q => uJ_ne q, rfl⟩
  cases q
  refine ⟨?_, ?_, ?_, ?_, ?_⟩
  · show (uI (uI (uI (uI S 38 11 1) 38 12 (nI (fi (fpt y P)))) 38 13 (nI (N t))) 38 14 (nI a0.1)).1 38 11 = 1
    rw [uI_ne (by omega), uI_ne (by omega), uI_ne (by omega), uI_eq]
  · show (uI (uI (uI (uI S 38 11 1) 38 12 (nI (fi (fpt y P)))) 38 13 (nI (N t))) 38 14 (nI a0.1)).1 38 12 = _
    rw [uI_ne (by omega), uI_ne (by omega), uI_eq]
  · show (uI (uI (uI (uI S 38 11 1) 38 12 (nI (fi (fpt y P)))) 38 13 (nI (N t))) 38 14 (nI a0.1)).1 38 13 = _
    rw [uI_ne (by omega), uI_eq]
  · show (uI (uI (uI (uI S 38 11 1) 38 12 (nI (fi (fpt y P)))) 38 13 (nI (N t))) 38 14 (nI a0.1)).1 38 14 = _
    rw [uI_eq]
  · rw [uJ_eq]
    exact hE
end MVD
