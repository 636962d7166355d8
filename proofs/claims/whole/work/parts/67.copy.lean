/-! Arrays.copyOf, and the eight arrays that grow; written by program (wip/whole/mk67.py) -/
theorem wm_J7_150 : Cond.methodLink RJ7 150 arraycopyName ∈ al_W := al_of (by decide +kernel) rfl
theorem wq_cpn : Cond.native arraycopyName ∈ al_W := al_of (by decide +kernel) rfl
theorem wq_cps : Cond.static arraycopyName ∈ al_W := al_of (by decide +kernel) rfl
theorem wq_cpi : Cond.initialized "java/lang/System" ∈ al_W := al_of (by decide +kernel) rfl
section IMCP
variable {p : Program} {l : Launch} {e : Env} {R : Room} {s : State} {m : MethodId} {args : Array Value} {below : List Frame} {meth : Method} {c : Code} {g : im_G} {cc : ByteArray} {nL : Nat} {own : String} {ret : Option FieldType} {Q : State → Prop}
variable {bc bs pc : Nat} {lv : List (Nat × Value)} {st : List Value} {M : im_M}
theorem ir_mmin (X : im_X p l s m args meth c g cc nL own ret) {index : Nat} {x y : Int32} (w1 : Cond.methodLink own index yJ9_min_7cf53 ∈ al_W) (hR1 : 1 ≤ R.frames) (hR2 : (st.map fun v => v.category).sum + 13 ≤ R.locals) (hd : decode cc pc = .ok (.invokestatic index, 3))
    (kk : im_W p l e R s m args below meth c g nL Q bc bs (pc + 3) lv (.int (if y < x then y else x) :: st) M) : im_W p l e R s m args below meth c g nL Q bc bs pc lv (.int y :: .int x :: st) M :=
  fun ls H locs cells slots hl hP hD hS h1 h2 => va_mmin X.1 X.2.1 (X.2.2.1.trans hl.1.symm) X.2.2.2.1 (X.2.2.2.2.1 _ w1) (X.2.2.2.2.1 _ ws_yJ9_min_7cf53) (X.2.2.2.2.1 _ wn_J9) (X.2.2.2.2.1 _ wq_min) hR1 hR2 (by omega) (by omega) hd (kk ls H locs cells slots hl hP hD hS h1 h2)
theorem ir_aret {t0 : FieldType} (X : im_X p l s m args meth c g cc nL own (some (.array t0))) {F : Option Value → im_M → Prop} {q : Nat} (hd : decode cc pc = .ok (.areturn, 1)) (h : F (some (.ref q)) M) : im_W p l e R s m args below meth c g nL (MQ below (im_Q g F) args s R.cells R.slots (im_A g)) bc bs pc lv [.ref q] M := by
  intro ls H locs cells slots hl hP hD hS h1 h2
  have hlocks : meth.locks = false := X.2.2.2.2.2.2.2.2.2.2
  refine W.widen (k := R.cells) (n := R.slots) (by omega) (by omega) ?_
  exact W.aret X.1 X.2.1 X.2.2.2.2.2.2.2.2.2.1 (Or.inr ⟨t0, rfl⟩) (Or.inr ⟨q, rfl⟩) (fun t ht hW => ⟨⟨some (.ref q), M, rfl, h, im_Uof X hP hD hS ht hW⟩, hS.F ht⟩) hS.2.2 hd
theorem ir_copyi (X : im_X p l s m args meth c g cc nL own ret) {index : Nat} {a0 a1 n0 n1 : Nat} {f h : Nat → Int32} {ty : FieldType} (t : Nat) (ht : (im_tys g.2.1)[t]? = some (g.2.1 t, ty)) (hprim : refKind ty = false) (ha0 : a0 ∈ M.1) (e0 : M.2 a0 = .inl (g.2.1 t, n0, .inl f)) (ha1 : a1 ∈ M.1) (e1 : M.2 a1 = .inl (g.2.1 t, n1, .inl h)) {sp dp n : Int32} (h1 : ¬ sp < 0) (h2 : ¬ dp < 0) (h3 : ¬ n < 0) (h4 : sp.toNatClampNeg + n.toNatClampNeg ≤ n0) (h5 : dp.toNatClampNeg + n.toNatClampNeg ≤ n1) (hfit : ∀ i, i < n.toNatClampNeg → fits ty (.int (f (sp.toNatClampNeg + i))) = true) (w1 : Cond.methodLink own index arraycopyName ∈ al_W) (hR1 : 1 ≤ R.frames) (hR2 : (st.map fun v => v.category).sum + (nativeFrameWords "java/lang/System" "arraycopy" 5 + 11) ≤ R.locals) (hd : decode cc pc = .ok (.invokestatic index, 3))
    (kk : im_W p l e R s m args below meth c g nL Q bc bs (pc + 3) lv st (M.1, va_up M.2 a1 (.inl (g.2.1 t, n1, .inl (va_cpy f h sp.toNatClampNeg dp.toNatClampNeg n.toNatClampNeg))))) : im_W p l e R s m args below meth c g nL Q bc bs pc lv (.int n :: .int dp :: .ref a1 :: .int sp :: .ref a0 :: st) M := by
  intro ls H locs cells slots hl hP hD hS b1 b2
  obtain ⟨q0, hq0⟩ := pl_get (f := M.2) ha0
  obtain ⟨q1, hq1⟩ := pl_get (f := M.2) ha1
  have hq1' := hq1
  rw [e0] at hq0
  rw [e1] at hq1
  refine va_copyi X.1 X.2.1 (X.2.2.1.trans hl.1.symm) X.2.2.2.1 (X.2.2.2.2.1 _ w1) (X.2.2.2.2.1 _ wq_cpn) (X.2.2.2.2.1 _ wq_cps) (X.2.2.2.2.1 _ wq_cpi) X.2.2.2.2.2.1 hP hD hS q0 q1 t t hq0 hq1 ht ht hprim h1 h2 h3 h4 h5 hfit hR1 hR2 hd (fun H1 locs1 hP1 hD1 hS1 => ?_)
  rw [pl_set hD ha1 hq1'] at hP1 hD1
  exact kk ls H1 locs1 cells slots hl hP1 hD1 hS1 b1 b2
theorem ir_copyl (X : im_X p l s m args meth c g cc nL own ret) {index : Nat} {a0 a1 n0 n1 : Nat} {f h : Nat → Int64} {ty : FieldType} (t : Nat) (ht : (im_tys g.2.1)[t]? = some (g.2.1 t, ty)) (hprim : refKind ty = false) (ha0 : a0 ∈ M.1) (e0 : M.2 a0 = .inl (g.2.1 t, n0, .inr (.inl f))) (ha1 : a1 ∈ M.1) (e1 : M.2 a1 = .inl (g.2.1 t, n1, .inr (.inl h))) {sp dp n : Int32} (h1 : ¬ sp < 0) (h2 : ¬ dp < 0) (h3 : ¬ n < 0) (h4 : sp.toNatClampNeg + n.toNatClampNeg ≤ n0) (h5 : dp.toNatClampNeg + n.toNatClampNeg ≤ n1) (hfit : ∀ i, i < n.toNatClampNeg → fits ty (.long (f (sp.toNatClampNeg + i))) = true) (w1 : Cond.methodLink own index arraycopyName ∈ al_W) (hR1 : 1 ≤ R.frames) (hR2 : (st.map fun v => v.category).sum + (nativeFrameWords "java/lang/System" "arraycopy" 5 + 11) ≤ R.locals) (hd : decode cc pc = .ok (.invokestatic index, 3))
    (kk : im_W p l e R s m args below meth c g nL Q bc bs (pc + 3) lv st (M.1, va_up M.2 a1 (.inl (g.2.1 t, n1, .inr (.inl (va_cpy f h sp.toNatClampNeg dp.toNatClampNeg n.toNatClampNeg)))))) : im_W p l e R s m args below meth c g nL Q bc bs pc lv (.int n :: .int dp :: .ref a1 :: .int sp :: .ref a0 :: st) M := by
  intro ls H locs cells slots hl hP hD hS b1 b2
  obtain ⟨q0, hq0⟩ := pl_get (f := M.2) ha0
  obtain ⟨q1, hq1⟩ := pl_get (f := M.2) ha1
  have hq1' := hq1
  rw [e0] at hq0
  rw [e1] at hq1
  refine va_copyl X.1 X.2.1 (X.2.2.1.trans hl.1.symm) X.2.2.2.1 (X.2.2.2.2.1 _ w1) (X.2.2.2.2.1 _ wq_cpn) (X.2.2.2.2.1 _ wq_cps) (X.2.2.2.2.1 _ wq_cpi) X.2.2.2.2.2.1 hP hD hS q0 q1 t t hq0 hq1 ht ht hprim h1 h2 h3 h4 h5 hfit hR1 hR2 hd (fun H1 locs1 hP1 hD1 hS1 => ?_)
  rw [pl_set hD ha1 hq1'] at hP1 hD1
  exact kk ls H1 locs1 cells slots hl hP1 hD1 hS1 b1 b2
end IMCP
theorem cp_eq {α : Type} (f : Nat → α) (z : α) (n0 : Nat) : va_cpy f (fun _ => z) (0 : Int32).toNatClampNeg (0 : Int32).toNatClampNeg n0 = (fun k => if k < n0 then f k else z) := by
  funext k
  have h0 : (0 : Int32).toNatClampNeg = 0 := by decide
  unfold va_cpy
  rw [h0]
  by_cases h : k < n0
  · rw [if_pos ⟨Nat.zero_le _, by omega⟩, if_pos h]
    congr 1
    omega
  · rw [if_neg (by omega), if_neg h]
theorem cp_cl {n0 : Nat} (h : n0 < 2 ^ 31) : (Int32.ofNat n0).toNatClampNeg = n0 := nI_clamp h
theorem cp_nn {n : Int32} (h : 0 ≤ n.toInt) : ¬ n < 0 := fun z => by
  have := Int32.lt_iff_toInt_lt.mp z
  have h0 : (0 : Int32).toInt = 0 := by decide
  omega
theorem cp_min {n : Int32} {n0 : Nat} (h : 0 ≤ n.toInt) (h1 : n0 < n.toNatClampNeg) (h2 : n0 < 2 ^ 31) : (if n < Int32.ofNat n0 then n else Int32.ofNat n0) = Int32.ofNat n0 := by
  refine if_neg (fun z => ?_)
  have q := Int32.lt_iff_toInt_lt.mp z
  have e : (Int32.ofNat n0).toInt = (n0 : Int) := nI_toInt h2
  have e2 : n.toNatClampNeg = n.toInt.toNat := rfl
  omega
theorem cp_ne {n : Int32} {n0 : Nat} (h1 : n0 < n.toNatClampNeg) (h2 : n0 < 2 ^ 31) : n ≠ Int32.ofNat n0 := fun z => by
  rw [z, cp_cl h2] at h1
  omega
theorem cp_by : ∀ n0 : Nat, ∀ f : Nat → Int32, (List.range n0).all (fun i => fits .byte (.int (f i))) = true → ∀ i, i < n0 → fits .byte (.int (f i)) = true := fun n0 f h i hi => List.all_eq_true.mp h i (List.mem_range.mpr hi)
set_option maxHeartbeats 4000000 in
set_option maxRecDepth 100000 in
theorem cp_yJ7_copyOf_9075b (l : Launch) (g : im_G) {M : im_M} {a0 n0 : Nat} {f : Nat → Int32} {n : Int32} (ha : a0 ∈ M.1) (he : M.2 a0 = .inl (g.2.1 0, n0, .inl f)) (h0 : 0 ≤ n.toInt) (h1 : n0 < n.toNatClampNeg) (h3 : n.toNatClampNeg ≤ 67108864) (hz : (List.range n0).all (fun i => fits .byte (.int (f i))) = true) : im_C l g 1 yJ7_copyOf_9075b cJ7_copyOf_9075b 3 (some (.array .byte)) 1 n.toNatClampNeg [.ref a0, .int n] M (fun r M' => ∃ q : Nat, r = some (.ref q) ∧ q ∉ M.1 ∧ M' = (M.1 ++ [q], va_up M.2 q (.inl (g.2.1 0, n.toNatClampNeg, .inl (fun k => if k < n0 then f k else 0))))) := by
  have h9 : n0 < 2 ^ 31 := by omega
  refine im_met (own := RJ7) (by decide +kernel) rfl (Nat.le_of_ble_eq_true rfl) (fun p e s m below meth c X _ => ?_)
  refine ir_iload_n (pc := 0) X dJ7_copyOf_9075b_0 rfl ?_
  refine ir_aload_n (pc := 1) X dJ7_copyOf_9075b_1 rfl ?_
  refine ir_alen (pc := 2) X 0 (by decide) (v := Int32.ofNat n0) dJ7_copyOf_9075b_2 ha he rfl ?_
  refine ir_icmp_ne (pc := 3) X dJ7_copyOf_9075b_3 (tgt := 14) rfl (fun _ => ?_) (fun hb => absurd (cp_ne h1 h9) hb)
  refine ir_iload_n (pc := 14) X dJ7_copyOf_9075b_14 rfl ?_
  refine ir_newa (pc := 15) (bc' := 0) (bs' := 0) X 0 rfl rfl (fun C h => by cases h) wa_byte (n.toNatClampNeg, .inl (fun _ => 0)) (fun _ => rfl) (cp_nn h0) rfl (by show _ * 1 ≤ _; omega) dJ7_copyOf_9075b_15 (by omega) (by omega) (fun q hq _ => ?_)
  refine ir_astore_n (pc := 17) X dJ7_copyOf_9075b_17 (by decide) (lv' := [(2, .ref q), (0, .ref a0), (1, .int n)]) rfl ?_
  refine ir_aload_n (pc := 18) X dJ7_copyOf_9075b_18 rfl ?_
  refine ir_iconst (pc := 19) X dJ7_copyOf_9075b_19 ic_0 ?_
  refine ir_aload_n (pc := 20) X dJ7_copyOf_9075b_20 rfl ?_
  refine ir_iconst (pc := 21) X dJ7_copyOf_9075b_21 ic_0 ?_
  refine ir_aload_n (pc := 22) X dJ7_copyOf_9075b_22 rfl ?_
  have hq0 : va_up M.2 q (.inl (g.2.1 0, n.toNatClampNeg, .inl (fun _ => 0))) a0 = .inl (g.2.1 0, n0, .inl f) := by
    rw [va_up_ne _ _ (fun z => hq (by rw [← z]; exact ha))]
    exact he
  refine ir_alen (pc := 23) X 0 (by decide) (v := Int32.ofNat n0) dJ7_copyOf_9075b_23 (List.mem_append_left _ ha) hq0 rfl ?_
  refine ir_iload_n (pc := 24) X dJ7_copyOf_9075b_24 rfl ?_
  refine ir_mmin (pc := 25) X wm_J7_304 (Nat.le_of_ble_eq_true rfl) (Nat.le_of_ble_eq_true rfl) dJ7_copyOf_9075b_25 ?_
  rw [cp_min h0 h1 h9]
  refine ir_copyi (pc := 28) X 0 rfl rfl (List.mem_append_left _ ha) hq0 (List.mem_append_right _ List.mem_cons_self) (va_up_self _ _ _) (by decide) (by decide) (cp_nn (by rw [show (Int32.ofNat n0).toInt = (n0 : Int) from nI_toInt h9]; omega)) (by rw [cp_cl h9, show (0 : Int32).toNatClampNeg = 0 by decide]; omega) (by rw [cp_cl h9, show (0 : Int32).toNatClampNeg = 0 by decide]; omega) (fun i hi => by rw [cp_cl h9] at hi; have := cp_by n0 f hz i hi; rw [show (0 : Int32).toNatClampNeg + i = i by rw [show (0 : Int32).toNatClampNeg = 0 by decide]; omega]; exact this) wm_J7_150 (Nat.le_of_ble_eq_true rfl) (Nat.le_of_ble_eq_true rfl) dJ7_copyOf_9075b_28 ?_
  refine ir_aload_n (pc := 31) X dJ7_copyOf_9075b_31 rfl ?_
  refine ir_aret (R := im_R 1 1 n.toNatClampNeg) (pc := 32) X dJ7_copyOf_9075b_32 ⟨q, rfl, hq, ?_⟩
  rw [cp_cl h9, cp_eq]
  congr 1
  funext z
  by_cases hz9 : z = q
  · subst hz9; rw [va_up_self, va_up_self]
  · rw [va_up_ne _ _ hz9, va_up_ne _ _ hz9]; exact va_up_ne _ _ hz9
set_option maxHeartbeats 4000000 in
set_option maxRecDepth 100000 in
theorem cp_yJ7_copyOf_59c91 (l : Launch) (g : im_G) {M : im_M} {a0 n0 : Nat} {f : Nat → Int32} {n : Int32} (ha : a0 ∈ M.1) (he : M.2 a0 = .inl (g.2.1 1, n0, .inl f)) (h0 : 0 ≤ n.toInt) (h1 : n0 < n.toNatClampNeg) (h3 : n.toNatClampNeg ≤ 67108864) : im_C l g 1 yJ7_copyOf_59c91 cJ7_copyOf_59c91 3 (some (.array .int)) 1 n.toNatClampNeg [.ref a0, .int n] M (fun r M' => ∃ q : Nat, r = some (.ref q) ∧ q ∉ M.1 ∧ M' = (M.1 ++ [q], va_up M.2 q (.inl (g.2.1 1, n.toNatClampNeg, .inl (fun k => if k < n0 then f k else 0))))) := by
  have h9 : n0 < 2 ^ 31 := by omega
  refine im_met (own := RJ7) (by decide +kernel) rfl (Nat.le_of_ble_eq_true rfl) (fun p e s m below meth c X _ => ?_)
  refine ir_iload_n (pc := 0) X dJ7_copyOf_59c91_0 rfl ?_
  refine ir_aload_n (pc := 1) X dJ7_copyOf_59c91_1 rfl ?_
  refine ir_alen (pc := 2) X 1 (by decide) (v := Int32.ofNat n0) dJ7_copyOf_59c91_2 ha he rfl ?_
  refine ir_icmp_ne (pc := 3) X dJ7_copyOf_59c91_3 (tgt := 14) rfl (fun _ => ?_) (fun hb => absurd (cp_ne h1 h9) hb)
  refine ir_iload_n (pc := 14) X dJ7_copyOf_59c91_14 rfl ?_
  refine ir_newa (pc := 15) (bc' := 0) (bs' := 0) X 1 rfl rfl (fun C h => by cases h) wa_int (n.toNatClampNeg, .inl (fun _ => 0)) (fun _ => rfl) (cp_nn h0) rfl (by show _ * 4 ≤ _; omega) dJ7_copyOf_59c91_15 (by omega) (by omega) (fun q hq _ => ?_)
  refine ir_astore_n (pc := 17) X dJ7_copyOf_59c91_17 (by decide) (lv' := [(2, .ref q), (0, .ref a0), (1, .int n)]) rfl ?_
  refine ir_aload_n (pc := 18) X dJ7_copyOf_59c91_18 rfl ?_
  refine ir_iconst (pc := 19) X dJ7_copyOf_59c91_19 ic_0 ?_
  refine ir_aload_n (pc := 20) X dJ7_copyOf_59c91_20 rfl ?_
  refine ir_iconst (pc := 21) X dJ7_copyOf_59c91_21 ic_0 ?_
  refine ir_aload_n (pc := 22) X dJ7_copyOf_59c91_22 rfl ?_
  have hq0 : va_up M.2 q (.inl (g.2.1 1, n.toNatClampNeg, .inl (fun _ => 0))) a0 = .inl (g.2.1 1, n0, .inl f) := by
    rw [va_up_ne _ _ (fun z => hq (by rw [← z]; exact ha))]
    exact he
  refine ir_alen (pc := 23) X 1 (by decide) (v := Int32.ofNat n0) dJ7_copyOf_59c91_23 (List.mem_append_left _ ha) hq0 rfl ?_
  refine ir_iload_n (pc := 24) X dJ7_copyOf_59c91_24 rfl ?_
  refine ir_mmin (pc := 25) X wm_J7_304 (Nat.le_of_ble_eq_true rfl) (Nat.le_of_ble_eq_true rfl) dJ7_copyOf_59c91_25 ?_
  rw [cp_min h0 h1 h9]
  refine ir_copyi (pc := 28) X 1 rfl rfl (List.mem_append_left _ ha) hq0 (List.mem_append_right _ List.mem_cons_self) (va_up_self _ _ _) (by decide) (by decide) (cp_nn (by rw [show (Int32.ofNat n0).toInt = (n0 : Int) from nI_toInt h9]; omega)) (by rw [cp_cl h9, show (0 : Int32).toNatClampNeg = 0 by decide]; omega) (by rw [cp_cl h9, show (0 : Int32).toNatClampNeg = 0 by decide]; omega) (fun i hi => rfl) wm_J7_150 (Nat.le_of_ble_eq_true rfl) (Nat.le_of_ble_eq_true rfl) dJ7_copyOf_59c91_28 ?_
  refine ir_aload_n (pc := 31) X dJ7_copyOf_59c91_31 rfl ?_
  refine ir_aret (R := im_R 1 1 n.toNatClampNeg) (pc := 32) X dJ7_copyOf_59c91_32 ⟨q, rfl, hq, ?_⟩
  rw [cp_cl h9, cp_eq]
  congr 1
  funext z
  by_cases hz9 : z = q
  · subst hz9; rw [va_up_self, va_up_self]
  · rw [va_up_ne _ _ hz9, va_up_ne _ _ hz9]; exact va_up_ne _ _ hz9
set_option maxHeartbeats 4000000 in
set_option maxRecDepth 100000 in
theorem cp_yJ7_copyOf_c38d5 (l : Launch) (g : im_G) {M : im_M} {a0 n0 : Nat} {f : Nat → Int64} {n : Int32} (ha : a0 ∈ M.1) (he : M.2 a0 = .inl (g.2.1 2, n0, .inr (.inl f))) (h0 : 0 ≤ n.toInt) (h1 : n0 < n.toNatClampNeg) (h3 : n.toNatClampNeg ≤ 67108864) : im_C l g 1 yJ7_copyOf_c38d5 cJ7_copyOf_c38d5 3 (some (.array .long)) 1 n.toNatClampNeg [.ref a0, .int n] M (fun r M' => ∃ q : Nat, r = some (.ref q) ∧ q ∉ M.1 ∧ M' = (M.1 ++ [q], va_up M.2 q (.inl (g.2.1 2, n.toNatClampNeg, .inr (.inl (fun k => if k < n0 then f k else 0)))))) := by
  have h9 : n0 < 2 ^ 31 := by omega
  refine im_met (own := RJ7) (by decide +kernel) rfl (Nat.le_of_ble_eq_true rfl) (fun p e s m below meth c X _ => ?_)
  refine ir_iload_n (pc := 0) X dJ7_copyOf_c38d5_0 rfl ?_
  refine ir_aload_n (pc := 1) X dJ7_copyOf_c38d5_1 rfl ?_
  refine ir_alen (pc := 2) X 2 (by decide) (v := Int32.ofNat n0) dJ7_copyOf_c38d5_2 ha he rfl ?_
  refine ir_icmp_ne (pc := 3) X dJ7_copyOf_c38d5_3 (tgt := 14) rfl (fun _ => ?_) (fun hb => absurd (cp_ne h1 h9) hb)
  refine ir_iload_n (pc := 14) X dJ7_copyOf_c38d5_14 rfl ?_
  refine ir_newa (pc := 15) (bc' := 0) (bs' := 0) X 2 rfl rfl (fun C h => by cases h) wa_long (n.toNatClampNeg, .inr (.inl (fun _ => 0))) (fun _ => rfl) (cp_nn h0) rfl (by show _ * 8 ≤ _; omega) dJ7_copyOf_c38d5_15 (by omega) (by omega) (fun q hq _ => ?_)
  refine ir_astore_n (pc := 17) X dJ7_copyOf_c38d5_17 (by decide) (lv' := [(2, .ref q), (0, .ref a0), (1, .int n)]) rfl ?_
  refine ir_aload_n (pc := 18) X dJ7_copyOf_c38d5_18 rfl ?_
  refine ir_iconst (pc := 19) X dJ7_copyOf_c38d5_19 ic_0 ?_
  refine ir_aload_n (pc := 20) X dJ7_copyOf_c38d5_20 rfl ?_
  refine ir_iconst (pc := 21) X dJ7_copyOf_c38d5_21 ic_0 ?_
  refine ir_aload_n (pc := 22) X dJ7_copyOf_c38d5_22 rfl ?_
  have hq0 : va_up M.2 q (.inl (g.2.1 2, n.toNatClampNeg, .inr (.inl (fun _ => 0)))) a0 = .inl (g.2.1 2, n0, .inr (.inl f)) := by
    rw [va_up_ne _ _ (fun z => hq (by rw [← z]; exact ha))]
    exact he
  refine ir_alen (pc := 23) X 2 (by decide) (v := Int32.ofNat n0) dJ7_copyOf_c38d5_23 (List.mem_append_left _ ha) hq0 rfl ?_
  refine ir_iload_n (pc := 24) X dJ7_copyOf_c38d5_24 rfl ?_
  refine ir_mmin (pc := 25) X wm_J7_304 (Nat.le_of_ble_eq_true rfl) (Nat.le_of_ble_eq_true rfl) dJ7_copyOf_c38d5_25 ?_
  rw [cp_min h0 h1 h9]
  refine ir_copyl (pc := 28) X 2 rfl rfl (List.mem_append_left _ ha) hq0 (List.mem_append_right _ List.mem_cons_self) (va_up_self _ _ _) (by decide) (by decide) (cp_nn (by rw [show (Int32.ofNat n0).toInt = (n0 : Int) from nI_toInt h9]; omega)) (by rw [cp_cl h9, show (0 : Int32).toNatClampNeg = 0 by decide]; omega) (by rw [cp_cl h9, show (0 : Int32).toNatClampNeg = 0 by decide]; omega) (fun i hi => rfl) wm_J7_150 (Nat.le_of_ble_eq_true rfl) (Nat.le_of_ble_eq_true rfl) dJ7_copyOf_c38d5_28 ?_
  refine ir_aload_n (pc := 31) X dJ7_copyOf_c38d5_31 rfl ?_
  refine ir_aret (R := im_R 1 1 n.toNatClampNeg) (pc := 32) X dJ7_copyOf_c38d5_32 ⟨q, rfl, hq, ?_⟩
  rw [cp_cl h9, cp_eq]
  congr 1
  funext z
  by_cases hz9 : z = q
  · subst hz9; rw [va_up_self, va_up_self]
  · rw [va_up_ne _ _ hz9, va_up_ne _ _ hz9]; exact va_up_ne _ _ hz9
def f_gr65 (n : Int32) (S : im_S) : Option (Unit × im_S) := gd (gok S 65 n) (gd (gby S 65) (some ((), gI S 65 n.toNatClampNeg)))
theorem gr65_some {n : Int32} {S S2 : im_S} {r : Unit} (h : f_gr65 n S = some (r, S2)) : gby S 65 = true ∧ S2 = gI S 65 n.toNatClampNeg ∧ 0 ≤ n.toInt ∧ S.2.2 65 + 64 ≤ n.toNatClampNeg ∧ 2 * S.2.2 65 ≤ n.toNatClampNeg ∧ n.toNatClampNeg ≤ 67108864 ∧ gP S2 = gP S + (n.toNatClampNeg - S.2.2 65) := by
  unfold f_gr65 at h
  obtain ⟨h1, h⟩ := gd_some h
  obtain ⟨h2, h⟩ := gd_some h
  cases h
  have q : 0 ≤ n.toInt ∧ S.2.2 65 + 64 ≤ n.toNatClampNeg ∧ 2 * S.2.2 65 ≤ n.toNatClampNeg ∧ n.toNatClampNeg ≤ 67108864 := of_decide_eq_true h1
  refine ⟨h2, rfl, q.1, q.2.1, q.2.2.1, q.2.2.2, ?_⟩
  have e : gP (gI S 65 n.toNatClampNeg) = n.toNatClampNeg + S.2.2 66 + S.2.2 68 + S.2.2 69 + S.2.2 70 + S.2.2 71 + S.2.2 73 + S.2.2 74 := rfl
  rw [e]
  unfold gP
  omega
theorem f_gr65_m (n : Int32) (S : im_S) : Mo (f_gr65 n S) S := fun r S2 h => by
  have := (gr65_some h).2.2.2.2.2.2
  omega
theorem gr_ad65_gA {ad ga : Nat → Nat} {q : Nat} : ∀ i, i < im_N → i ≠ 65 → mx gA ad (va_up ga 65 q) i = mx gA ad ga i := fun i _ h => by
  unfold mx
  rw [va_up_ne _ _ h]
set_option maxHeartbeats 4000000 in
set_option maxRecDepth 100000 in
theorem gr_sh65_gA {g : im_G} {ad ga : Nat → Nat} {q N : Nat} {S : im_S} : alln (fun i => i ≠ 65 → i ≠ 64 → im_cn g (mx gA ad ga) S i = im_cn g (mx gA ad (va_up ga 65 q)) (gI S 65 N) i) im_N := by
  repeat' first | exact trivial | refine ⟨?_, fun _ _ => rfl⟩ | refine ⟨?_, fun h _ => absurd rfl h⟩ | refine ⟨?_, fun _ h => absurd rfl h⟩
def f_gr66 (n : Int32) (S : im_S) : Option (Unit × im_S) := gd (gok S 66 n) (some ((), gJ S 66 n.toNatClampNeg))
theorem gr66_some {n : Int32} {S S2 : im_S} {r : Unit} (h : f_gr66 n S = some (r, S2)) : True ∧ S2 = gJ S 66 n.toNatClampNeg ∧ 0 ≤ n.toInt ∧ S.2.2 66 + 64 ≤ n.toNatClampNeg ∧ 2 * S.2.2 66 ≤ n.toNatClampNeg ∧ n.toNatClampNeg ≤ 67108864 ∧ gP S2 = gP S + (n.toNatClampNeg - S.2.2 66) := by
  unfold f_gr66 at h
  obtain ⟨h1, h⟩ := gd_some h
  skip
  cases h
  have q : 0 ≤ n.toInt ∧ S.2.2 66 + 64 ≤ n.toNatClampNeg ∧ 2 * S.2.2 66 ≤ n.toNatClampNeg ∧ n.toNatClampNeg ≤ 67108864 := of_decide_eq_true h1
  refine ⟨trivial, rfl, q.1, q.2.1, q.2.2.1, q.2.2.2, ?_⟩
  have e : gP (gJ S 66 n.toNatClampNeg) = S.2.2 65 + n.toNatClampNeg + S.2.2 68 + S.2.2 69 + S.2.2 70 + S.2.2 71 + S.2.2 73 + S.2.2 74 := rfl
  rw [e]
  unfold gP
  omega
theorem f_gr66_m (n : Int32) (S : im_S) : Mo (f_gr66 n S) S := fun r S2 h => by
  have := (gr66_some h).2.2.2.2.2.2
  omega
theorem gr_ad66_gA {ad ga : Nat → Nat} {q : Nat} : ∀ i, i < im_N → i ≠ 66 → mx gA ad (va_up ga 66 q) i = mx gA ad ga i := fun i _ h => by
  unfold mx
  rw [va_up_ne _ _ h]
set_option maxHeartbeats 4000000 in
set_option maxRecDepth 100000 in
theorem gr_sh66_gA {g : im_G} {ad ga : Nat → Nat} {q N : Nat} {S : im_S} : alln (fun i => i ≠ 66 → i ≠ 64 → im_cn g (mx gA ad ga) S i = im_cn g (mx gA ad (va_up ga 66 q)) (gJ S 66 N) i) im_N := by
  repeat' first | exact trivial | refine ⟨?_, fun _ _ => rfl⟩ | refine ⟨?_, fun h _ => absurd rfl h⟩ | refine ⟨?_, fun _ h => absurd rfl h⟩
def f_gr68 (n : Int32) (S : im_S) : Option (Unit × im_S) := gd (gok S 68 n) (some ((), gI S 68 n.toNatClampNeg))
theorem gr68_some {n : Int32} {S S2 : im_S} {r : Unit} (h : f_gr68 n S = some (r, S2)) : True ∧ S2 = gI S 68 n.toNatClampNeg ∧ 0 ≤ n.toInt ∧ S.2.2 68 + 64 ≤ n.toNatClampNeg ∧ 2 * S.2.2 68 ≤ n.toNatClampNeg ∧ n.toNatClampNeg ≤ 67108864 ∧ gP S2 = gP S + (n.toNatClampNeg - S.2.2 68) := by
  unfold f_gr68 at h
  obtain ⟨h1, h⟩ := gd_some h
  skip
  cases h
  have q : 0 ≤ n.toInt ∧ S.2.2 68 + 64 ≤ n.toNatClampNeg ∧ 2 * S.2.2 68 ≤ n.toNatClampNeg ∧ n.toNatClampNeg ≤ 67108864 := of_decide_eq_true h1
  refine ⟨trivial, rfl, q.1, q.2.1, q.2.2.1, q.2.2.2, ?_⟩
  have e : gP (gI S 68 n.toNatClampNeg) = S.2.2 65 + S.2.2 66 + n.toNatClampNeg + S.2.2 69 + S.2.2 70 + S.2.2 71 + S.2.2 73 + S.2.2 74 := rfl
  rw [e]
  unfold gP
  omega
theorem f_gr68_m (n : Int32) (S : im_S) : Mo (f_gr68 n S) S := fun r S2 h => by
  have := (gr68_some h).2.2.2.2.2.2
  omega
theorem gr_ad68_gA {ad ga : Nat → Nat} {q : Nat} : ∀ i, i < im_N → i ≠ 68 → mx gA ad (va_up ga 68 q) i = mx gA ad ga i := fun i _ h => by
  unfold mx
  rw [va_up_ne _ _ h]
set_option maxHeartbeats 4000000 in
set_option maxRecDepth 100000 in
theorem gr_sh68_gA {g : im_G} {ad ga : Nat → Nat} {q N : Nat} {S : im_S} : alln (fun i => i ≠ 68 → i ≠ 67 → im_cn g (mx gA ad ga) S i = im_cn g (mx gA ad (va_up ga 68 q)) (gI S 68 N) i) im_N := by
  repeat' first | exact trivial | refine ⟨?_, fun _ _ => rfl⟩ | refine ⟨?_, fun h _ => absurd rfl h⟩ | refine ⟨?_, fun _ h => absurd rfl h⟩
def f_gr69 (n : Int32) (S : im_S) : Option (Unit × im_S) := gd (gok S 69 n) (some ((), gI S 69 n.toNatClampNeg))
theorem gr69_some {n : Int32} {S S2 : im_S} {r : Unit} (h : f_gr69 n S = some (r, S2)) : True ∧ S2 = gI S 69 n.toNatClampNeg ∧ 0 ≤ n.toInt ∧ S.2.2 69 + 64 ≤ n.toNatClampNeg ∧ 2 * S.2.2 69 ≤ n.toNatClampNeg ∧ n.toNatClampNeg ≤ 67108864 ∧ gP S2 = gP S + (n.toNatClampNeg - S.2.2 69) := by
  unfold f_gr69 at h
  obtain ⟨h1, h⟩ := gd_some h
  skip
  cases h
  have q : 0 ≤ n.toInt ∧ S.2.2 69 + 64 ≤ n.toNatClampNeg ∧ 2 * S.2.2 69 ≤ n.toNatClampNeg ∧ n.toNatClampNeg ≤ 67108864 := of_decide_eq_true h1
  refine ⟨trivial, rfl, q.1, q.2.1, q.2.2.1, q.2.2.2, ?_⟩
  have e : gP (gI S 69 n.toNatClampNeg) = S.2.2 65 + S.2.2 66 + S.2.2 68 + n.toNatClampNeg + S.2.2 70 + S.2.2 71 + S.2.2 73 + S.2.2 74 := rfl
  rw [e]
  unfold gP
  omega
theorem f_gr69_m (n : Int32) (S : im_S) : Mo (f_gr69 n S) S := fun r S2 h => by
  have := (gr69_some h).2.2.2.2.2.2
  omega
theorem gr_ad69_gA {ad ga : Nat → Nat} {q : Nat} : ∀ i, i < im_N → i ≠ 69 → mx gA ad (va_up ga 69 q) i = mx gA ad ga i := fun i _ h => by
  unfold mx
  rw [va_up_ne _ _ h]
set_option maxHeartbeats 4000000 in
set_option maxRecDepth 100000 in
theorem gr_sh69_gA {g : im_G} {ad ga : Nat → Nat} {q N : Nat} {S : im_S} : alln (fun i => i ≠ 69 → i ≠ 67 → im_cn g (mx gA ad ga) S i = im_cn g (mx gA ad (va_up ga 69 q)) (gI S 69 N) i) im_N := by
  repeat' first | exact trivial | refine ⟨?_, fun _ _ => rfl⟩ | refine ⟨?_, fun h _ => absurd rfl h⟩ | refine ⟨?_, fun _ h => absurd rfl h⟩
def f_gr70 (n : Int32) (S : im_S) : Option (Unit × im_S) := gd (gok S 70 n) (some ((), gI S 70 n.toNatClampNeg))
theorem gr70_some {n : Int32} {S S2 : im_S} {r : Unit} (h : f_gr70 n S = some (r, S2)) : True ∧ S2 = gI S 70 n.toNatClampNeg ∧ 0 ≤ n.toInt ∧ S.2.2 70 + 64 ≤ n.toNatClampNeg ∧ 2 * S.2.2 70 ≤ n.toNatClampNeg ∧ n.toNatClampNeg ≤ 67108864 ∧ gP S2 = gP S + (n.toNatClampNeg - S.2.2 70) := by
  unfold f_gr70 at h
  obtain ⟨h1, h⟩ := gd_some h
  skip
  cases h
  have q : 0 ≤ n.toInt ∧ S.2.2 70 + 64 ≤ n.toNatClampNeg ∧ 2 * S.2.2 70 ≤ n.toNatClampNeg ∧ n.toNatClampNeg ≤ 67108864 := of_decide_eq_true h1
  refine ⟨trivial, rfl, q.1, q.2.1, q.2.2.1, q.2.2.2, ?_⟩
  have e : gP (gI S 70 n.toNatClampNeg) = S.2.2 65 + S.2.2 66 + S.2.2 68 + S.2.2 69 + n.toNatClampNeg + S.2.2 71 + S.2.2 73 + S.2.2 74 := rfl
  rw [e]
  unfold gP
  omega
theorem f_gr70_m (n : Int32) (S : im_S) : Mo (f_gr70 n S) S := fun r S2 h => by
  have := (gr70_some h).2.2.2.2.2.2
  omega
theorem gr_ad70_gA {ad ga : Nat → Nat} {q : Nat} : ∀ i, i < im_N → i ≠ 70 → mx gA ad (va_up ga 70 q) i = mx gA ad ga i := fun i _ h => by
  unfold mx
  rw [va_up_ne _ _ h]
set_option maxHeartbeats 4000000 in
set_option maxRecDepth 100000 in
theorem gr_sh70_gA {g : im_G} {ad ga : Nat → Nat} {q N : Nat} {S : im_S} : alln (fun i => i ≠ 70 → i ≠ 67 → im_cn g (mx gA ad ga) S i = im_cn g (mx gA ad (va_up ga 70 q)) (gI S 70 N) i) im_N := by
  repeat' first | exact trivial | refine ⟨?_, fun _ _ => rfl⟩ | refine ⟨?_, fun h _ => absurd rfl h⟩ | refine ⟨?_, fun _ h => absurd rfl h⟩
def f_gr71 (n : Int32) (S : im_S) : Option (Unit × im_S) := gd (gok S 71 n) (some ((), gI S 71 n.toNatClampNeg))
theorem gr71_some {n : Int32} {S S2 : im_S} {r : Unit} (h : f_gr71 n S = some (r, S2)) : True ∧ S2 = gI S 71 n.toNatClampNeg ∧ 0 ≤ n.toInt ∧ S.2.2 71 + 64 ≤ n.toNatClampNeg ∧ 2 * S.2.2 71 ≤ n.toNatClampNeg ∧ n.toNatClampNeg ≤ 67108864 ∧ gP S2 = gP S + (n.toNatClampNeg - S.2.2 71) := by
  unfold f_gr71 at h
  obtain ⟨h1, h⟩ := gd_some h
  skip
  cases h
  have q : 0 ≤ n.toInt ∧ S.2.2 71 + 64 ≤ n.toNatClampNeg ∧ 2 * S.2.2 71 ≤ n.toNatClampNeg ∧ n.toNatClampNeg ≤ 67108864 := of_decide_eq_true h1
  refine ⟨trivial, rfl, q.1, q.2.1, q.2.2.1, q.2.2.2, ?_⟩
  have e : gP (gI S 71 n.toNatClampNeg) = S.2.2 65 + S.2.2 66 + S.2.2 68 + S.2.2 69 + S.2.2 70 + n.toNatClampNeg + S.2.2 73 + S.2.2 74 := rfl
  rw [e]
  unfold gP
  omega
theorem f_gr71_m (n : Int32) (S : im_S) : Mo (f_gr71 n S) S := fun r S2 h => by
  have := (gr71_some h).2.2.2.2.2.2
  omega
theorem gr_ad71_gA {ad ga : Nat → Nat} {q : Nat} : ∀ i, i < im_N → i ≠ 71 → mx gA ad (va_up ga 71 q) i = mx gA ad ga i := fun i _ h => by
  unfold mx
  rw [va_up_ne _ _ h]
set_option maxHeartbeats 4000000 in
set_option maxRecDepth 100000 in
theorem gr_sh71_gA {g : im_G} {ad ga : Nat → Nat} {q N : Nat} {S : im_S} : alln (fun i => i ≠ 71 → i ≠ 67 → im_cn g (mx gA ad ga) S i = im_cn g (mx gA ad (va_up ga 71 q)) (gI S 71 N) i) im_N := by
  repeat' first | exact trivial | refine ⟨?_, fun _ _ => rfl⟩ | refine ⟨?_, fun h _ => absurd rfl h⟩ | refine ⟨?_, fun _ h => absurd rfl h⟩
def f_gr73 (n : Int32) (S : im_S) : Option (Unit × im_S) := gd (gok S 73 n) (some ((), gI S 73 n.toNatClampNeg))
theorem gr73_some {n : Int32} {S S2 : im_S} {r : Unit} (h : f_gr73 n S = some (r, S2)) : True ∧ S2 = gI S 73 n.toNatClampNeg ∧ 0 ≤ n.toInt ∧ S.2.2 73 + 64 ≤ n.toNatClampNeg ∧ 2 * S.2.2 73 ≤ n.toNatClampNeg ∧ n.toNatClampNeg ≤ 67108864 ∧ gP S2 = gP S + (n.toNatClampNeg - S.2.2 73) := by
  unfold f_gr73 at h
  obtain ⟨h1, h⟩ := gd_some h
  skip
  cases h
  have q : 0 ≤ n.toInt ∧ S.2.2 73 + 64 ≤ n.toNatClampNeg ∧ 2 * S.2.2 73 ≤ n.toNatClampNeg ∧ n.toNatClampNeg ≤ 67108864 := of_decide_eq_true h1
  refine ⟨trivial, rfl, q.1, q.2.1, q.2.2.1, q.2.2.2, ?_⟩
  have e : gP (gI S 73 n.toNatClampNeg) = S.2.2 65 + S.2.2 66 + S.2.2 68 + S.2.2 69 + S.2.2 70 + S.2.2 71 + n.toNatClampNeg + S.2.2 74 := rfl
  rw [e]
  unfold gP
  omega
theorem f_gr73_m (n : Int32) (S : im_S) : Mo (f_gr73 n S) S := fun r S2 h => by
  have := (gr73_some h).2.2.2.2.2.2
  omega
theorem gr_ad73_gA {ad ga : Nat → Nat} {q : Nat} : ∀ i, i < im_N → i ≠ 73 → mx gA ad (va_up ga 73 q) i = mx gA ad ga i := fun i _ h => by
  unfold mx
  rw [va_up_ne _ _ h]
set_option maxHeartbeats 4000000 in
set_option maxRecDepth 100000 in
theorem gr_sh73_gA {g : im_G} {ad ga : Nat → Nat} {q N : Nat} {S : im_S} : alln (fun i => i ≠ 73 → i ≠ 72 → im_cn g (mx gA ad ga) S i = im_cn g (mx gA ad (va_up ga 73 q)) (gI S 73 N) i) im_N := by
  repeat' first | exact trivial | refine ⟨?_, fun _ _ => rfl⟩ | refine ⟨?_, fun h _ => absurd rfl h⟩ | refine ⟨?_, fun _ h => absurd rfl h⟩
theorem gr_ad73_gC {ad ga : Nat → Nat} {q : Nat} : ∀ i, i < im_N → i ≠ 73 → mx gC ad (va_up ga 73 q) i = mx gC ad ga i := fun i _ h => by
  unfold mx
  rw [va_up_ne _ _ h]
set_option maxHeartbeats 4000000 in
set_option maxRecDepth 100000 in
theorem gr_sh73_gC {g : im_G} {ad ga : Nat → Nat} {q N : Nat} {S : im_S} : alln (fun i => i ≠ 73 → i ≠ 72 → im_cn g (mx gC ad ga) S i = im_cn g (mx gC ad (va_up ga 73 q)) (gI S 73 N) i) im_N := by
  repeat' first | exact trivial | refine ⟨?_, fun _ _ => rfl⟩ | refine ⟨?_, fun h _ => absurd rfl h⟩ | refine ⟨?_, fun _ h => absurd rfl h⟩
def f_gr74 (n : Int32) (S : im_S) : Option (Unit × im_S) := gd (gok S 74 n) (some ((), gI S 74 n.toNatClampNeg))
theorem gr74_some {n : Int32} {S S2 : im_S} {r : Unit} (h : f_gr74 n S = some (r, S2)) : True ∧ S2 = gI S 74 n.toNatClampNeg ∧ 0 ≤ n.toInt ∧ S.2.2 74 + 64 ≤ n.toNatClampNeg ∧ 2 * S.2.2 74 ≤ n.toNatClampNeg ∧ n.toNatClampNeg ≤ 67108864 ∧ gP S2 = gP S + (n.toNatClampNeg - S.2.2 74) := by
  unfold f_gr74 at h
  obtain ⟨h1, h⟩ := gd_some h
  skip
  cases h
  have q : 0 ≤ n.toInt ∧ S.2.2 74 + 64 ≤ n.toNatClampNeg ∧ 2 * S.2.2 74 ≤ n.toNatClampNeg ∧ n.toNatClampNeg ≤ 67108864 := of_decide_eq_true h1
  refine ⟨trivial, rfl, q.1, q.2.1, q.2.2.1, q.2.2.2, ?_⟩
  have e : gP (gI S 74 n.toNatClampNeg) = S.2.2 65 + S.2.2 66 + S.2.2 68 + S.2.2 69 + S.2.2 70 + S.2.2 71 + S.2.2 73 + n.toNatClampNeg := rfl
  rw [e]
  unfold gP
  omega
theorem f_gr74_m (n : Int32) (S : im_S) : Mo (f_gr74 n S) S := fun r S2 h => by
  have := (gr74_some h).2.2.2.2.2.2
  omega
theorem gr_ad74_gA {ad ga : Nat → Nat} {q : Nat} : ∀ i, i < im_N → i ≠ 74 → mx gA ad (va_up ga 74 q) i = mx gA ad ga i := fun i _ h => by
  unfold mx
  rw [va_up_ne _ _ h]
set_option maxHeartbeats 4000000 in
set_option maxRecDepth 100000 in
theorem gr_sh74_gA {g : im_G} {ad ga : Nat → Nat} {q N : Nat} {S : im_S} : alln (fun i => i ≠ 74 → i ≠ 72 → im_cn g (mx gA ad ga) S i = im_cn g (mx gA ad (va_up ga 74 q)) (gI S 74 N) i) im_N := by
  repeat' first | exact trivial | refine ⟨?_, fun _ _ => rfl⟩ | refine ⟨?_, fun h _ => absurd rfl h⟩ | refine ⟨?_, fun _ h => absurd rfl h⟩
theorem gr_ad74_gC {ad ga : Nat → Nat} {q : Nat} : ∀ i, i < im_N → i ≠ 74 → mx gC ad (va_up ga 74 q) i = mx gC ad ga i := fun i _ h => by
  unfold mx
  rw [va_up_ne _ _ h]
set_option maxHeartbeats 4000000 in
set_option maxRecDepth 100000 in
theorem gr_sh74_gC {g : im_G} {ad ga : Nat → Nat} {q N : Nat} {S : im_S} : alln (fun i => i ≠ 74 → i ≠ 72 → im_cn g (mx gC ad ga) S i = im_cn g (mx gC ad (va_up ga 74 q)) (gI S 74 N) i) im_N := by
  repeat' first | exact trivial | refine ⟨?_, fun _ _ => rfl⟩ | refine ⟨?_, fun h _ => absurd rfl h⟩ | refine ⟨?_, fun _ h => absurd rfl h⟩
