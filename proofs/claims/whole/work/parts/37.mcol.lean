/-! The reference's columns. -/
theorem mm_mix {Q : (Nat → Int64) → Prop} {i j : Nat} {f : Nat → Int64} (hi : i < 16) (hj : j < 16) (hij : i ≠ j) (h : Q (prV mixF i j f)) : wpX7_mix Q (nI i) (nI j) f := by
  unfold wpX7_mix
  refine pk_loop (σ := Nat → Int64) (fun n p s => wpX7_mix_2 Q n (nI i) (nI j) (nI p) s) (prI mixF i j f) 4 0 f (by omega) prI_0 ?_ ?_
  · intro n s hI
    simp (disch := omega) only [wpX7_mix_2, wpX7_mix_2b, not_true_eq_false, not_false_eq_true, forall_const, true_implies, false_implies, implies_true, and_true, true_and, and_self, Nat.not_lt_zero, ne_eq, if_true, if_false, reduceIte, Nat.reduceAdd, Nat.reduceMul, Nat.reduceSub, Nat.reduceLT, Nat.reduceLeDiff, Nat.reduceEqDiff, Nat.add_sub_cancel, eq_self_iff_true, L_0, L_1, L_2, L_3, L_4, L_5, L_6, L_7, L_8, L_9, L_10, L_16, L_20, L_21, L_24, L_31, L_64, L_100, L_320, L_400, L_1000, L_256, nI_add, pk_mul, pk_sub, nI_clamp, vp_in_nI, nI_ge, nI_le, nI_lt, nI_nlt, qI_ne, qI_eq, qI_m1, q_all, qI_nm, qI_nm2]
    rw [prI_4 hI]; exact h
  · intro n p s hp hI hk
    obtain ⟨a1, a2, a3⟩ := prI_s hij hp hI
    simp (disch := omega) only [wpX7_mix_2, wpX7_mix_2b, q_all, not_true_eq_false, not_false_eq_true, forall_const, true_implies, false_implies, implies_true, and_true, true_and, and_self, Nat.not_lt_zero, ne_eq, if_true, if_false, reduceIte, Nat.reduceAdd, Nat.reduceMul, Nat.reduceSub, Nat.reduceLT, Nat.reduceLeDiff, Nat.reduceEqDiff, Nat.add_sub_cancel, eq_self_iff_true, L_0, L_1, L_2, L_3, L_4, L_5, L_6, L_7, L_8, L_9, L_10, L_16, L_20, L_21, L_24, L_31, L_64, L_100, L_320, L_400, L_1000, L_256, nI_add, pk_mul, pk_sub, nI_clamp, vp_in_nI, nI_ge, nI_le, nI_lt, nI_nlt, qI_ne, qI_eq, qI_m1, q_all, qI_nm, qI_nm2]
    exact hk _ (a3 _ (fun k => by rw [up2' (by omega), a1, a2]; rfl))
theorem mm_change {Q : (Nat → Int64) → Prop} {i j : Nat} {f : Nat → Int64} (hi : i < 16) (hj : j < 16) (hij : i ≠ j) (h : Q (prV exF i j f)) : wpX7_change Q (nI i) (nI j) f := by
  unfold wpX7_change
  refine pk_loop (σ := Nat → Int64) (fun n p s => wpX7_change_2 Q n (nI i) (nI j) (nI p) s) (prI exF i j f) 4 0 f (by omega) prI_0 ?_ ?_
  · intro n s hI
    simp (disch := omega) only [wpX7_change_2, wpX7_change_2b, not_true_eq_false, not_false_eq_true, forall_const, true_implies, false_implies, implies_true, and_true, true_and, and_self, Nat.not_lt_zero, ne_eq, if_true, if_false, reduceIte, Nat.reduceAdd, Nat.reduceMul, Nat.reduceSub, Nat.reduceLT, Nat.reduceLeDiff, Nat.reduceEqDiff, Nat.add_sub_cancel, eq_self_iff_true, L_0, L_1, L_2, L_3, L_4, L_5, L_6, L_7, L_8, L_9, L_10, L_16, L_20, L_21, L_24, L_31, L_64, L_100, L_320, L_400, L_1000, L_256, nI_add, pk_mul, pk_sub, nI_clamp, vp_in_nI, nI_ge, nI_le, nI_lt, nI_nlt, qI_ne, qI_eq, qI_m1, q_all, qI_nm, qI_nm2]
    rw [prI_4 hI]; exact h
  · intro n p s hp hI hk
    obtain ⟨a1, a2, a3⟩ := prI_s hij hp hI
    simp (disch := omega) only [wpX7_change_2, wpX7_change_2b, q_all, not_true_eq_false, not_false_eq_true, forall_const, true_implies, false_implies, implies_true, and_true, true_and, and_self, Nat.not_lt_zero, ne_eq, if_true, if_false, reduceIte, Nat.reduceAdd, Nat.reduceMul, Nat.reduceSub, Nat.reduceLT, Nat.reduceLeDiff, Nat.reduceEqDiff, Nat.add_sub_cancel, eq_self_iff_true, L_0, L_1, L_2, L_3, L_4, L_5, L_6, L_7, L_8, L_9, L_10, L_16, L_20, L_21, L_24, L_31, L_64, L_100, L_320, L_400, L_1000, L_256, nI_add, pk_mul, pk_sub, nI_clamp, vp_in_nI, nI_ge, nI_le, nI_lt, nI_nlt, qI_ne, qI_eq, qI_m1, q_all, qI_nm, qI_nm2]
    exact hk _ (a3 _ (fun k => by rw [up2' (by omega), a1, a2]; rfl))
theorem mm_turn {Q : (Nat → Int64) → Prop} {i t : Nat} {f : Nat → Int64} (hi : i < 16) (ht : t < 8) (h : Q (tuV t i f)) : wpX7_turn Q (nI (4 * i)) (nI t) f := by
  unfold wpX7_turn
  refine pk_loop (σ := Nat → Int64) (fun n p s => wpX7_turn_2 Q n (nI (4 * i)) (nI t) (nI p) s) (fun p s => s = tuV p i f) t 0 f (by omega) rfl ?_ ?_
  · intro n s hI
    simp (disch := omega) only [wpX7_turn_2, wpX7_turn_2b, not_true_eq_false, not_false_eq_true, forall_const, true_implies, false_implies, implies_true, and_true, true_and, and_self, Nat.not_lt_zero, ne_eq, if_true, if_false, reduceIte, Nat.reduceAdd, Nat.reduceMul, Nat.reduceSub, Nat.reduceLT, Nat.reduceLeDiff, Nat.reduceEqDiff, Nat.add_sub_cancel, eq_self_iff_true, L_0, L_1, L_2, L_3, L_4, L_5, L_6, L_7, L_8, L_9, L_10, L_16, L_20, L_21, L_24, L_31, L_64, L_100, L_320, L_400, L_1000, L_256, nI_add, pk_mul, pk_sub, nI_clamp, vp_in_nI, nI_ge, nI_le, nI_lt, nI_nlt, qI_ne, qI_eq, qI_m1, q_all, qI_nm, qI_nm2]
    rw [hI]; exact h
  · intro n p s hp hI hk
    simp (disch := omega) only [wpX7_turn_2, wpX7_turn_2b, not_true_eq_false, not_false_eq_true, forall_const, true_implies, false_implies, implies_true, and_true, true_and, and_self, Nat.not_lt_zero, ne_eq, if_true, if_false, reduceIte, Nat.reduceAdd, Nat.reduceMul, Nat.reduceSub, Nat.reduceLT, Nat.reduceLeDiff, Nat.reduceEqDiff, Nat.add_sub_cancel, eq_self_iff_true, L_0, L_1, L_2, L_3, L_4, L_5, L_6, L_7, L_8, L_9, L_10, L_16, L_20, L_21, L_24, L_31, L_64, L_100, L_320, L_400, L_1000, L_256, nI_add, pk_mul, pk_sub, nI_clamp, vp_in_nI, nI_ge, nI_le, nI_lt, nI_nlt, qI_ne, qI_eq, qI_m1, q_all, qI_nm, qI_nm2]
    refine hk _ ?_
    rw [uL (a := 4 * i + 3) (b := 4 * i + 1) (by omega), uL (a := 4 * i + 2) (b := 4 * i) (by omega), uL (a := 4 * i + 3) (b := 4 * i) (by omega), w1_eq, hI, tuV_s]
theorem mm_grow {Q : (Nat → Int64) → Prop} {i : Nat} {f : Nat → Int64} (hi : i < 16) (h : Q (grV i f)) : wpX7_grow Q (nI (4 * i)) f := by
  rw [← gr_eq] at h
  simp (disch := omega) only [wpX7_grow, not_true_eq_false, not_false_eq_true, forall_const, true_implies, false_implies, implies_true, and_true, true_and, and_self, Nat.not_lt_zero, ne_eq, if_true, if_false, reduceIte, Nat.reduceAdd, Nat.reduceMul, Nat.reduceSub, Nat.reduceLT, Nat.reduceLeDiff, Nat.reduceEqDiff, Nat.add_sub_cancel, eq_self_iff_true, L_0, L_1, L_2, L_3, L_4, L_5, L_6, L_7, L_8, L_9, L_10, L_16, L_20, L_21, L_24, L_31, L_64, L_100, L_320, L_400, L_1000, L_256, nI_add, pk_mul, pk_sub, nI_clamp, vp_in_nI, nI_ge, nI_le, nI_lt, nI_nlt, qI_ne, qI_eq, qI_m1, q_all, qI_nm, qI_nm2]
  exact h
theorem z_bit {i w : Nat} (hi : i < 2 ^ 31) (hw : w < 32) : zvX7_bit (nI i) (nI w) = nI (bitN i w) := by
  have := bitN_lt i w
  unfold zvX7_bit
  simp (disch := omega) only [q_bit, not_true_eq_false, not_false_eq_true, forall_const, true_implies, false_implies, implies_true, and_true, true_and, and_self, Nat.not_lt_zero, ne_eq, if_true, if_false, reduceIte, Nat.reduceAdd, Nat.reduceMul, Nat.reduceSub, Nat.reduceLT, Nat.reduceLeDiff, Nat.reduceEqDiff, Nat.add_sub_cancel, eq_self_iff_true, L_0, L_1, L_2, L_3, L_4, L_5, L_6, L_7, L_8, L_9, L_10, L_16, L_20, L_21, L_24, L_31, L_64, L_100, L_320, L_400, L_1000, L_256, nI_add, pk_mul, pk_sub, nI_clamp, vp_in_nI, nI_ge, nI_le, nI_lt, nI_nlt, qI_ne, qI_eq, qI_m1, q_all, qI_nm, qI_nm2]
  by_cases e : bitN i w = 1
  · rw [e]; rfl
  · have e0 : bitN i w = 0 := by omega
    rw [e0]; rfl
theorem z_basis {n : Nat} (hn : n < 5) : zvX7_basis (nI n) = nI (2 ^ n) := by
  unfold zvX7_basis; exact q_shl1 (by omega)
theorem bt1 : ∀ i, i < 16 → ∀ a, a < 4 → ((i &&& 2 ^ a == 0) == (bitN i a == 0)) = true ∧ ((i &&& 2 ^ a == 2 ^ a) == (bitN i a == 1)) = true := by decide +kernel
theorem bt2 : ∀ i, i < 16 → ∀ a, a < 4 → ∀ b, b < 4 → ((i &&& (2 ^ a ||| 2 ^ b) == 2 ^ a ||| 2 ^ b) == (bitN i a == 1 && bitN i b == 1)) = true := by decide +kernel
theorem bt3 : ∀ a, a < 4 → ∀ b, b < 4 → ∀ c, c < 4 → (a == b || a == c || b == c || ((2 ^ a ||| 2 ^ b ||| 2 ^ c) &&& (2 ^ c ^^^ 4294967295) == 2 ^ a ||| 2 ^ b)) = true ∧ (a == b || ((2 ^ a ||| 2 ^ b) &&& (2 ^ b ^^^ 4294967295) == 2 ^ a)) = true ∧ ((2 ^ a) &&& (2 ^ a ^^^ 4294967295) == 0) = true := by decide +kernel
theorem b0 {i a : Nat} (hi : i < 16) (ha : a < 4) : i &&& 2 ^ a = 0 ↔ bitN i a = 0 := by
  have h := (bt1 i hi a ha).1
  simp only [beq_iff_eq] at h
  rw [Bool.eq_iff_iff] at h
  simpa using h
theorem b1 {i a : Nat} (hi : i < 16) (ha : a < 4) : i &&& 2 ^ a = 2 ^ a ↔ bitN i a = 1 := by
  have h := (bt1 i hi a ha).2
  simp only [beq_iff_eq] at h
  rw [Bool.eq_iff_iff] at h
  simpa using h
theorem b2 {i a b : Nat} (hi : i < 16) (ha : a < 4) (hb : b < 4) : i &&& (2 ^ a ||| 2 ^ b) = 2 ^ a ||| 2 ^ b ↔ bitN i a = 1 ∧ bitN i b = 1 := by
  have h := bt2 i hi a ha b hb
  simp only [beq_iff_eq] at h
  rw [Bool.eq_iff_iff] at h
  simpa using h
section
variable {g i : Nat} {V : Nat → Int64}
theorem st1 (e : kN g = 1) (hi : i < 16) (ha : aN g < 4) : stG g i V = if bitN i (aN g) = 0 then prV mixF i (i ||| 2 ^ aN g) V else V := by
  unfold stG; rw [if_pos e]; simp only [b0 hi ha]
theorem stT (e : kN g = 2 ∨ kN g = 3 ∨ kN g = 5) (hi : i < 16) (ha : aN g < 4) : stG g i V = if bitN i (aN g) = 0 then V else tuV (tuN g) i V := by
  have hb := bitN_lt i (aN g)
  have hw : wbN g = 2 ^ aN g := by unfold wbN wsN; rw [if_neg (by omega : ¬ kN g = 9), if_pos (by omega : kN g < 6), if_pos (by omega)]
  unfold stG; rw [if_neg (by omega), if_neg (by omega), if_neg (by omega), if_neg (by omega : ¬ kN g = 7), hw]
  simp only [b1 hi ha]
  by_cases e0 : bitN i (aN g) = 0
  · rw [if_pos e0, if_neg (by omega)]
  · rw [if_neg e0, if_pos (by omega)]
theorem st4 (e : kN g = 4) (hi : i < 16) (ha : aN g < 4) : stG g i V = if bitN i (aN g) = 0 then prV exF i (i ||| 2 ^ aN g) V else V := by
  have hw : wbN g = 2 ^ aN g := by unfold wbN wsN; rw [if_neg (by omega : ¬ kN g = 9), if_pos (by omega : kN g < 6), if_pos (by omega)]
  have ht : tbN g = 2 ^ aN g := by unfold tbN; rw [if_neg (by omega), if_neg (by omega)]
  have hc : cbN g = 0 := by unfold cbN; rw [if_neg (by omega), if_neg (by omega)]
  unfold stG; rw [if_neg (by omega), if_neg (by omega), if_pos (by omega), hc, ht]
  simp only [Nat.and_zero, true_and, b0 hi ha]
theorem st6 (e : kN g = 6) (hi : i < 16) (ha : aN g < 4) (hb : bN g < 4) (hab : bN g ≠ aN g) : stG g i V = if bitN i (aN g) = 0 then V else if bitN i (bN g) = 0 then prV exF i (i ||| 2 ^ bN g) V else V := by
  have hw : wbN g = 2 ^ aN g ||| 2 ^ bN g := by unfold wbN wsN; rw [if_neg (by omega : ¬ kN g = 9), if_neg (by omega : ¬ kN g < 6), if_neg (by omega), if_pos (by omega)]
  have ht : tbN g = 2 ^ bN g := by unfold tbN; rw [if_neg (by omega), if_pos e]
  have hc : cbN g = 2 ^ aN g := by unfold cbN; rw [if_neg (by omega), if_pos e]
  have hl := bitN_lt i (aN g)
  unfold stG; rw [if_neg (by omega), if_neg (by omega), if_pos (by omega), hc, ht]
  simp only [b0 hi hb, b1 hi ha]
  by_cases e0 : bitN i (aN g) = 0
  · rw [if_pos e0, if_neg (by omega)]
  · rw [if_neg e0]
    by_cases e1 : bitN i (bN g) = 0
    · rw [if_pos e1, if_pos (by omega)]
    · rw [if_neg e1, if_neg (by omega)]
theorem st7 (e : kN g = 7) (hi : i < 16) (ha : aN g < 4) (hb : bN g < 4) : stG g i V = if bitN i (aN g) = 0 then V else if bitN i (bN g) = 0 then V else tuV 4 i V := by
  have hw : wbN g = 2 ^ aN g ||| 2 ^ bN g := by unfold wbN wsN; rw [if_neg (by omega : ¬ kN g = 9), if_neg (by omega : ¬ kN g < 6), if_neg (by omega), if_pos (by omega)]
  have hl := bitN_lt i (aN g); have hl2 := bitN_lt i (bN g)
  unfold stG; rw [if_neg (by omega), if_neg (by omega), if_neg (by omega), if_pos e, hw]
  simp only [b2 hi ha hb]
  by_cases e0 : bitN i (aN g) = 0
  · rw [if_pos e0, if_neg (by omega)]
  · rw [if_neg e0]
    by_cases e1 : bitN i (bN g) = 0
    · rw [if_pos e1, if_neg (by omega)]
    · rw [if_neg e1, if_pos (by omega)]
theorem st8 (e : kN g = 8) (hi : i < 16) (ha : aN g < 4) (hb : bN g < 4) : stG g i V = if bitN i (aN g) = 0 then V else if bitN i (bN g) = 0 then prV exF i (i ^^^ 2 ^ aN g ^^^ 2 ^ bN g) V else V := by
  unfold stG; rw [if_neg (by omega), if_pos e]
  simp only [ne_eq, b0 hi ha, b0 hi hb]
  by_cases e0 : bitN i (aN g) = 0
  · rw [if_pos e0, if_neg (by omega)]
  · rw [if_neg e0]
    by_cases e1 : bitN i (bN g) = 0
    · rw [if_pos e1, if_pos (by omega)]
    · rw [if_neg e1, if_neg (by omega)]
theorem st9 (e : kN g = 9) (hi : i < 16) (ha : aN g < 4) (hb : bN g < 4) (hc : cN g < 4) (hab : bN g ≠ aN g) (hac : cN g ≠ aN g) (hbc : cN g ≠ bN g) : stG g i V = if bitN i (aN g) = 0 then V else if bitN i (bN g) = 0 then V else if bitN i (cN g) = 0 then prV exF i (i ||| 2 ^ cN g) V else V := by
  have hw : wbN g = 2 ^ aN g ||| 2 ^ bN g ||| 2 ^ cN g := by unfold wbN wsN; rw [if_pos e, if_neg (by omega), if_neg (by omega)]
  have ht : tbN g = 2 ^ cN g := by unfold tbN; rw [if_pos e]
  have hcb : cbN g = 2 ^ aN g ||| 2 ^ bN g := by unfold cbN; rw [if_pos e]
  have hl := bitN_lt i (aN g); have hl2 := bitN_lt i (bN g)
  unfold stG; rw [if_neg (by omega), if_neg (by omega), if_pos (by omega), hcb, ht]
  simp only [b2 hi ha hb, b0 hi hc]
  by_cases e0 : bitN i (aN g) = 0
  · rw [if_pos e0, if_neg (by omega)]
  · rw [if_neg e0]
    by_cases e1 : bitN i (bN g) = 0
    · rw [if_pos e1, if_neg (by omega)]
    · rw [if_neg e1]
      by_cases e2 : bitN i (cN g) = 0
      · rw [if_pos e2, if_pos (by omega)]
      · rw [if_neg e2, if_neg (by omega)]
end
theorem m_act {Q : (Nat → Int64) → Prop} {n g i : Nat} {k a b c : Nat → Int32} {f : Nat → Int64} (hn : n < 5) (hi : i < 320) (hg : gv n g = true) (hM : MG k a b c i g) (h : Q (actV n g f)) : wpX7_act Q (nI i) (nI n) k a b c f := by
  obtain ⟨f1, f2, f3, f4⟩ := hM
  have hl := gv_lt hg
  obtain ⟨k1, k9, ha⟩ := gv_k hg
  have hb16 := p16 (n := n) (by omega)
  have tl := tuN_lt g
  simp (disch := omega) only [wpX7_act, f2, f3, f4, not_true_eq_false, not_false_eq_true, forall_const, true_implies, false_implies, implies_true, and_true, true_and, and_self, Nat.not_lt_zero, ne_eq, if_true, if_false, reduceIte, Nat.reduceAdd, Nat.reduceMul, Nat.reduceSub, Nat.reduceLT, Nat.reduceLeDiff, Nat.reduceEqDiff, Nat.add_sub_cancel, eq_self_iff_true, L_0, L_1, L_2, L_3, L_4, L_5, L_6, L_7, L_8, L_9, L_10, L_16, L_20, L_21, L_24, L_31, L_64, L_100, L_320, L_400, L_1000, L_256, nI_add, pk_mul, pk_sub, nI_clamp, vp_in_nI, nI_ge, nI_le, nI_lt, nI_nlt, qI_ne, qI_eq, qI_m1, q_all, qI_nm, qI_nm2]
  refine pk_loop (σ := Nat → Int64) (fun m j s => wpX7_act_26 Q (nI n) k a b c m (nI i) (nI (aN g)) (m2 g) (m3 g) (nI j) s) (fun j s => s = foN (stG g) j f) (2 ^ n) 0 f (Nat.zero_le _) rfl ?_ ?_
  · intro m s hI
    simp (disch := omega) only [wpX7_act_26, wpX7_act_26b, z_basis hn, not_true_eq_false, not_false_eq_true, forall_const, true_implies, false_implies, implies_true, and_true, true_and, and_self, Nat.not_lt_zero, ne_eq, if_true, if_false, reduceIte, Nat.reduceAdd, Nat.reduceMul, Nat.reduceSub, Nat.reduceLT, Nat.reduceLeDiff, Nat.reduceEqDiff, Nat.add_sub_cancel, eq_self_iff_true, L_0, L_1, L_2, L_3, L_4, L_5, L_6, L_7, L_8, L_9, L_10, L_16, L_20, L_21, L_24, L_31, L_64, L_100, L_320, L_400, L_1000, L_256, nI_add, pk_mul, pk_sub, nI_clamp, vp_in_nI, nI_ge, nI_le, nI_lt, nI_nlt, qI_ne, qI_eq, qI_m1, q_all, qI_nm, qI_nm2]
    rw [hI]; exact h
  · intro m j s hj hI hk
    have hk : ∀ s', s' = stG g j s → wpX7_act_26 Q (nI n) k a b c m (nI i) (nI (aN g)) (m2 g) (m3 g) (nI (j + 1)) s' := fun s' e => hk s' (by rw [e, hI]; rfl)
    have hx : ∀ w, nI (bitN j w) = nI 0 ↔ bitN j w = 0 := fun w => q_biteq (by omega)
    rcases (show kN g = 1 ∨ kN g = 2 ∨ kN g = 3 ∨ kN g = 4 ∨ kN g = 5 ∨ kN g = 6 ∨ kN g = 7 ∨ kN g = 8 ∨ kN g = 9 by omega) with e | e | e | e | e | e | e | e | e
    all_goals rw [e] at f1
    · have es := st1 (V := s) e (show j < 16 by omega) (by omega)
      simp (disch := omega) only [wpX7_act_26, wpX7_act_26b, z_basis hn, f1, z_bit, hx, q_shl1, q_or, not_true_eq_false, not_false_eq_true, forall_const, true_implies, false_implies, implies_true, and_true, true_and, and_self, Nat.not_lt_zero, ne_eq, if_true, if_false, reduceIte, Nat.reduceAdd, Nat.reduceMul, Nat.reduceSub, Nat.reduceLT, Nat.reduceLeDiff, Nat.reduceEqDiff, Nat.add_sub_cancel, eq_self_iff_true, L_0, L_1, L_2, L_3, L_4, L_5, L_6, L_7, L_8, L_9, L_10, L_16, L_20, L_21, L_24, L_31, L_64, L_100, L_320, L_400, L_1000, L_256, nI_add, pk_mul, pk_sub, nI_clamp, vp_in_nI, nI_ge, nI_le, nI_lt, nI_nlt, qI_ne, qI_eq, qI_m1, q_all, qI_nm, qI_nm2]
      refine ⟨fun h9 => ?_, fun h9 => hk _ (by rw [es, if_neg h9])⟩
      obtain ⟨c1, c2⟩ := b_or n hn _ ha j hj ((b0 (by omega) (by omega)).mpr h9)
      exact mm_mix (by omega) (by omega) c2 (hk _ (by rw [es, if_pos h9]))
    · have es := stT (V := s) (Or.inl e) (show j < 16 by omega) (by omega)
      have et : zvX7_turnsOf (nI 2) = nI (tuN g) := by have := m_tu g; rw [e] at this; exact this
      simp (disch := omega) only [wpX7_act_26, wpX7_act_26b, z_basis hn, f1, z_bit, hx, et, not_true_eq_false, not_false_eq_true, forall_const, true_implies, false_implies, implies_true, and_true, true_and, and_self, Nat.not_lt_zero, ne_eq, if_true, if_false, reduceIte, Nat.reduceAdd, Nat.reduceMul, Nat.reduceSub, Nat.reduceLT, Nat.reduceLeDiff, Nat.reduceEqDiff, Nat.add_sub_cancel, eq_self_iff_true, L_0, L_1, L_2, L_3, L_4, L_5, L_6, L_7, L_8, L_9, L_10, L_16, L_20, L_21, L_24, L_31, L_64, L_100, L_320, L_400, L_1000, L_256, nI_add, pk_mul, pk_sub, nI_clamp, vp_in_nI, nI_ge, nI_le, nI_lt, nI_nlt, qI_ne, qI_eq, qI_m1, q_all, qI_nm, qI_nm2]
      exact ⟨fun h9 => mm_turn (t := 0) (by omega) (by omega) (hk _ (by rw [es, if_pos h9]; rfl)), fun h9 => mm_turn (by omega) (by omega) (hk _ (by rw [es, if_neg h9]))⟩
    · have es := stT (V := s) (Or.inr (Or.inl e)) (show j < 16 by omega) (by omega)
      have et : zvX7_turnsOf (nI 3) = nI (tuN g) := by have := m_tu g; rw [e] at this; exact this
      simp (disch := omega) only [wpX7_act_26, wpX7_act_26b, z_basis hn, f1, z_bit, hx, et, not_true_eq_false, not_false_eq_true, forall_const, true_implies, false_implies, implies_true, and_true, true_and, and_self, Nat.not_lt_zero, ne_eq, if_true, if_false, reduceIte, Nat.reduceAdd, Nat.reduceMul, Nat.reduceSub, Nat.reduceLT, Nat.reduceLeDiff, Nat.reduceEqDiff, Nat.add_sub_cancel, eq_self_iff_true, L_0, L_1, L_2, L_3, L_4, L_5, L_6, L_7, L_8, L_9, L_10, L_16, L_20, L_21, L_24, L_31, L_64, L_100, L_320, L_400, L_1000, L_256, nI_add, pk_mul, pk_sub, nI_clamp, vp_in_nI, nI_ge, nI_le, nI_lt, nI_nlt, qI_ne, qI_eq, qI_m1, q_all, qI_nm, qI_nm2]
      exact ⟨fun h9 => mm_turn (t := 0) (by omega) (by omega) (hk _ (by rw [es, if_pos h9]; rfl)), fun h9 => mm_turn (by omega) (by omega) (hk _ (by rw [es, if_neg h9]))⟩
    · have es := st4 (V := s) e (show j < 16 by omega) (by omega)
      simp (disch := omega) only [wpX7_act_26, wpX7_act_26b, z_basis hn, f1, z_bit, hx, q_shl1, q_or, not_true_eq_false, not_false_eq_true, forall_const, true_implies, false_implies, implies_true, and_true, true_and, and_self, Nat.not_lt_zero, ne_eq, if_true, if_false, reduceIte, Nat.reduceAdd, Nat.reduceMul, Nat.reduceSub, Nat.reduceLT, Nat.reduceLeDiff, Nat.reduceEqDiff, Nat.add_sub_cancel, eq_self_iff_true, L_0, L_1, L_2, L_3, L_4, L_5, L_6, L_7, L_8, L_9, L_10, L_16, L_20, L_21, L_24, L_31, L_64, L_100, L_320, L_400, L_1000, L_256, nI_add, pk_mul, pk_sub, nI_clamp, vp_in_nI, nI_ge, nI_le, nI_lt, nI_nlt, qI_ne, qI_eq, qI_m1, q_all, qI_nm, qI_nm2]
      refine ⟨fun h9 => ?_, fun h9 => hk _ (by rw [es, if_neg h9])⟩
      obtain ⟨c1, c2⟩ := b_or n hn _ ha j hj ((b0 (by omega) (by omega)).mpr h9)
      exact mm_change (by omega) (by omega) c2 (hk _ (by rw [es, if_pos h9]))
    · have es := stT (V := s) (Or.inr (Or.inr e)) (show j < 16 by omega) (by omega)
      have et : zvX7_turnsOf (nI 5) = nI (tuN g) := by have := m_tu g; rw [e] at this; exact this
      simp (disch := omega) only [wpX7_act_26, wpX7_act_26b, z_basis hn, f1, z_bit, hx, et, not_true_eq_false, not_false_eq_true, forall_const, true_implies, false_implies, implies_true, and_true, true_and, and_self, Nat.not_lt_zero, ne_eq, if_true, if_false, reduceIte, Nat.reduceAdd, Nat.reduceMul, Nat.reduceSub, Nat.reduceLT, Nat.reduceLeDiff, Nat.reduceEqDiff, Nat.add_sub_cancel, eq_self_iff_true, L_0, L_1, L_2, L_3, L_4, L_5, L_6, L_7, L_8, L_9, L_10, L_16, L_20, L_21, L_24, L_31, L_64, L_100, L_320, L_400, L_1000, L_256, nI_add, pk_mul, pk_sub, nI_clamp, vp_in_nI, nI_ge, nI_le, nI_lt, nI_nlt, qI_ne, qI_eq, qI_m1, q_all, qI_nm, qI_nm2]
      exact ⟨fun h9 => mm_turn (t := 0) (by omega) (by omega) (hk _ (by rw [es, if_pos h9]; rfl)), fun h9 => mm_turn (by omega) (by omega) (hk _ (by rw [es, if_neg h9]))⟩
    · have h2 := gv_2 hg (by omega)
      have es := st6 (V := s) e (show j < 16 by omega) (by omega) (by omega) h2.2
      rw [m2_p (by omega)] at hk ⊢
      simp (disch := omega) only [wpX7_act_26, wpX7_act_26b, z_basis hn, f1, z_bit, hx, q_shl1, q_or, not_true_eq_false, not_false_eq_true, forall_const, true_implies, false_implies, implies_true, and_true, true_and, and_self, Nat.not_lt_zero, ne_eq, if_true, if_false, reduceIte, Nat.reduceAdd, Nat.reduceMul, Nat.reduceSub, Nat.reduceLT, Nat.reduceLeDiff, Nat.reduceEqDiff, Nat.add_sub_cancel, eq_self_iff_true, L_0, L_1, L_2, L_3, L_4, L_5, L_6, L_7, L_8, L_9, L_10, L_16, L_20, L_21, L_24, L_31, L_64, L_100, L_320, L_400, L_1000, L_256, nI_add, pk_mul, pk_sub, nI_clamp, vp_in_nI, nI_ge, nI_le, nI_lt, nI_nlt, qI_ne, qI_eq, qI_m1, q_all, qI_nm, qI_nm2]
      refine ⟨fun h9 => hk _ (by rw [es, if_pos h9]), fun h9 => ⟨fun h8 => ?_, fun h8 => hk _ (by rw [es, if_neg h9, if_neg h8])⟩⟩
      obtain ⟨c1, c2⟩ := b_or n hn _ h2.1 j hj ((b0 (by omega) (by omega)).mpr h8)
      exact mm_change (by omega) (by omega) c2 (hk _ (by rw [es, if_neg h9, if_pos h8]))
    · have h2 := gv_2 hg (by omega)
      have es := st7 (V := s) e (show j < 16 by omega) (by omega) (by omega)
      rw [m2_p (by omega)] at hk ⊢
      simp (disch := omega) only [wpX7_act_26, wpX7_act_26b, z_basis hn, f1, z_bit, hx, not_true_eq_false, not_false_eq_true, forall_const, true_implies, false_implies, implies_true, and_true, true_and, and_self, Nat.not_lt_zero, ne_eq, if_true, if_false, reduceIte, Nat.reduceAdd, Nat.reduceMul, Nat.reduceSub, Nat.reduceLT, Nat.reduceLeDiff, Nat.reduceEqDiff, Nat.add_sub_cancel, eq_self_iff_true, L_0, L_1, L_2, L_3, L_4, L_5, L_6, L_7, L_8, L_9, L_10, L_16, L_20, L_21, L_24, L_31, L_64, L_100, L_320, L_400, L_1000, L_256, nI_add, pk_mul, pk_sub, nI_clamp, vp_in_nI, nI_ge, nI_le, nI_lt, nI_nlt, qI_ne, qI_eq, qI_m1, q_all, qI_nm, qI_nm2]
      exact ⟨fun h9 => mm_turn (t := 0) (by omega) (by omega) (hk _ (by rw [es, if_pos h9]; rfl)), fun h9 => ⟨fun h8 => mm_turn (t := 0) (by omega) (by omega) (hk _ (by rw [es, if_neg h9, if_pos h8]; rfl)), fun h8 => mm_turn (t := 4) (by omega) (by omega) (hk _ (by rw [es, if_neg h9, if_neg h8]))⟩⟩
    · have h2 := gv_2 hg (by omega)
      have es := st8 (V := s) e (show j < 16 by omega) (by omega) (by omega)
      rw [m2_p (by omega)] at hk ⊢
      simp (disch := omega) only [wpX7_act_26, wpX7_act_26b, z_basis hn, f1, z_bit, hx, q_shl1, q_xor, not_true_eq_false, not_false_eq_true, forall_const, true_implies, false_implies, implies_true, and_true, true_and, and_self, Nat.not_lt_zero, ne_eq, if_true, if_false, reduceIte, Nat.reduceAdd, Nat.reduceMul, Nat.reduceSub, Nat.reduceLT, Nat.reduceLeDiff, Nat.reduceEqDiff, Nat.add_sub_cancel, eq_self_iff_true, L_0, L_1, L_2, L_3, L_4, L_5, L_6, L_7, L_8, L_9, L_10, L_16, L_20, L_21, L_24, L_31, L_64, L_100, L_320, L_400, L_1000, L_256, nI_add, pk_mul, pk_sub, nI_clamp, vp_in_nI, nI_ge, nI_le, nI_lt, nI_nlt, qI_ne, qI_eq, qI_m1, q_all, qI_nm, qI_nm2]
      refine ⟨fun h9 => hk _ (by rw [es, if_pos h9]), fun h9 => ⟨fun h8 => ?_, fun h8 => hk _ (by rw [es, if_neg h9, if_neg h8])⟩⟩
      obtain ⟨c1, c2⟩ := b_sw n hn _ ha _ h2.1 j hj (fun h7 => h9 ((b0 (by omega) (by omega)).mp h7)) ((b0 (by omega) (by omega)).mpr h8)
      exact mm_change (by omega) (by omega) c2 (hk _ (by rw [es, if_neg h9, if_pos h8]))
    · have h2 := gv_2 hg (by omega)
      have h3 := gv_3 hg e
      have es := st9 (V := s) e (show j < 16 by omega) (by omega) (by omega) (by omega) h2.2 h3.2.1 h3.2.2
      rw [m2_p (by omega), m3_p e] at hk ⊢
      simp (disch := omega) only [wpX7_act_26, wpX7_act_26b, z_basis hn, f1, z_bit, hx, q_shl1, q_or, not_true_eq_false, not_false_eq_true, forall_const, true_implies, false_implies, implies_true, and_true, true_and, and_self, Nat.not_lt_zero, ne_eq, if_true, if_false, reduceIte, Nat.reduceAdd, Nat.reduceMul, Nat.reduceSub, Nat.reduceLT, Nat.reduceLeDiff, Nat.reduceEqDiff, Nat.add_sub_cancel, eq_self_iff_true, L_0, L_1, L_2, L_3, L_4, L_5, L_6, L_7, L_8, L_9, L_10, L_16, L_20, L_21, L_24, L_31, L_64, L_100, L_320, L_400, L_1000, L_256, nI_add, pk_mul, pk_sub, nI_clamp, vp_in_nI, nI_ge, nI_le, nI_lt, nI_nlt, qI_ne, qI_eq, qI_m1, q_all, qI_nm, qI_nm2]
      refine ⟨fun h9 => hk _ (by rw [es, if_pos h9]), fun h9 => ⟨fun h8 => hk _ (by rw [es, if_neg h9, if_pos h8]), fun h8 => ⟨fun h7 => ?_, fun h7 => hk _ (by rw [es, if_neg h9, if_neg h8, if_neg h7])⟩⟩⟩
      obtain ⟨c1, c2⟩ := b_or n hn _ h3.1 j hj ((b0 (by omega) (by omega)).mpr h7)
      exact mm_change (by omega) (by omega) c2 (hk _ (by rw [es, if_neg h9, if_neg h8, if_pos h7]))
