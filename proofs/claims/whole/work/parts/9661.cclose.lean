/-! the class's parser: what close does, by the latest open -/
section CCS
variable {K : Nat → Nat} {S : im_S} {sz fu : Nat} {x : Int32}
theorem cl_10 (h : S.1 34 3 = nI (sz + 1)) (hs : sz < 512) (hk : S.1 35 sz = 10) : f_X7_close fu x S = (f_X7_take 59 S).bind (fun q => if (q.1 : Int32) = 0 then some (0, q.2) else (f_X7_endBody fu q.2).bind (fun r => if (r.1 : Int32) = 0 then some (0, r.2) else some (1, r.2))) := by
  unfold f_X7_close
  rw [c_topK h hs, hk]
  rfl
theorem cl_11 (h : S.1 34 3 = nI (sz + 1)) (hs : sz < 512) (hk : S.1 35 sz = 11) : f_X7_close fu x S = (f_X7_take 41 S).bind (fun q => if (q.1 : Int32) = 0 then some (0, q.2) else (f_X7_endBracket q.2).bind (fun r => if (r.1 : Int32) = 0 then some (0, r.2) else some (1, r.2))) := by
  unfold f_X7_close
  rw [c_topK h hs, hk]
  rfl
theorem cl_12 (h : S.1 34 3 = nI (sz + 1)) (hs : sz < 512) (hk : S.1 35 sz = 12) : f_X7_close fu x S = (f_X7_take 93 S).bind (fun q => if (q.1 : Int32) = 0 then some (0, q.2) else (f_X7_endElement q.2).bind (fun r => if (r.1 : Int32) = 0 then some (0, r.2) else some (1, r.2))) := by
  unfold f_X7_close
  rw [c_topK h hs, hk]
  rfl
theorem cl_13 (h : S.1 34 3 = nI (sz + 1)) (hs : sz < 512) (hk : S.1 35 sz = 13) : f_X7_close fu x S = (f_X7_endArgument fu x S).bind (fun r => gd (z_b r.1) (some (r.1, r.2))) := by
  unfold f_X7_close
  rw [c_topK h hs, hk]
  rfl
theorem cl_14 (h : S.1 34 3 = nI (sz + 1)) (hs : sz < 512) (hk : S.1 35 sz = 14) : f_X7_close fu x S = (f_X7_take 5 S).bind (fun q => if (q.1 : Int32) = 0 then some (0, q.2) else (f_X7_endLetValue q.2).bind (fun r => if (r.1 : Int32) = 0 then some (0, r.2) else some (1, r.2))) := by
  unfold f_X7_close
  rw [c_topK h hs, hk]
  rfl
theorem cl_16 (h : S.1 34 3 = nI (sz + 1)) (hs : sz < 512) (hk : S.1 35 sz = 16) : f_X7_close fu x S = (f_X7_take 7 S).bind (fun q => if (q.1 : Int32) = 0 then some (0, q.2) else (f_X7_endCondition q.2).bind (fun r => if (r.1 : Int32) = 0 then some (0, r.2) else some (1, r.2))) := by
  unfold f_X7_close
  rw [c_topK h hs, hk]
  rfl
theorem cl_17 (h : S.1 34 3 = nI (sz + 1)) (hs : sz < 512) (hk : S.1 35 sz = 17) : f_X7_close fu x S = (f_X7_take 8 S).bind (fun q => if (q.1 : Int32) = 0 then some (0, q.2) else (f_X7_endThenPart q.2).bind (fun r => if (r.1 : Int32) = 0 then some (0, r.2) else some (1, r.2))) := by
  unfold f_X7_close
  rw [c_topK h hs, hk]
  rfl
theorem cl_19 (h : S.1 34 3 = nI (sz + 1)) (hs : sz < 512) (hk : S.1 35 sz = 19) : f_X7_close fu x S = (f_X7_endFirstValue fu x S).bind (fun r => gd (z_b r.1) (some (r.1, r.2))) := by
  unfold f_X7_close
  rw [c_topK h hs, hk]
  rfl
theorem cl_20 (h : S.1 34 3 = nI (sz + 1)) (hs : sz < 512) (hk : S.1 35 sz = 20) : f_X7_close fu x S = (f_X7_take 11 S).bind (fun q => if (q.1 : Int32) = 0 then some (0, q.2) else (f_X7_endWhilePart q.2).bind (fun r => if (r.1 : Int32) = 0 then some (0, r.2) else some (1, r.2))) := by
  unfold f_X7_close
  rw [c_topK h hs, hk]
  rfl
theorem cl_21 (h : S.1 34 3 = nI (sz + 1)) (hs : sz < 512) (hk : S.1 35 sz = 21) : f_X7_close fu x S = (f_X7_endNextValue fu x S).bind (fun r => gd (z_b r.1) (some (r.1, r.2))) := by
  unfold f_X7_close
  rw [c_topK h hs, hk]
  rfl
theorem cl_23 (h : S.1 34 3 = nI (sz + 1)) (hs : sz < 512) (hk : S.1 35 sz = 23) : f_X7_close fu x S = (f_X7_take 93 S).bind (fun q => if (q.1 : Int32) = 0 then some (0, q.2) else (f_X7_take 14 q.2).bind (fun p => if (p.1 : Int32) = 0 then some (0, p.2) else (f_X7_endTabSize p.2).bind (fun r => if (r.1 : Int32) = 0 then some (0, r.2) else some (1, r.2)))) := by
  unfold f_X7_close
  rw [c_topK h hs, hk]
  rfl
end CCS
theorem tyk_le {K : Nat → Nat} {t : Nat → Nat} (h : ∀ i, t i ≤ 3) : ∀ (s : Nat) (x : TR), tsz x ≤ s → tyk K t x ≤ 3 := by
  intro s
  induction s with
  | zero => intro x hs; cases x <;> simp [tsz] at hs
  | succ s ih =>
    intro x hs
    unfold tyk
    split
    · omega
    · omega
    · exact h _
    · exact h _
    · exact ih _ (by simp only [tsz] at hs; omega)
    · exact ih _ (by simp only [tsz] at hs; omega)
    · exact ih _ (by simp only [tsz] at hs; omega)
    · split <;> omega
    · split <;> omega
    · omega
    · omega
    · exact ih _ (by simp only [tsz] at hs; omega)
    · omega
theorem tyx_lt (K : Nat → Nat) (V : Nat → Int64) (x : TR) : tyk K (tv V) x < 100 := by
  have := tyk_le (K := K) (t := tv V) (fun i => (tvV_r (V i)).2) (tsz x) x (Nat.le_refl _)
  omega
