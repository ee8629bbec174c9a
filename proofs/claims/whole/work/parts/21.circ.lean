/-! The program's circuits, in rows of numbers. -/
theorem y_kind {g : Nat} (h : g < 10000) : zvX2_kind (nI g) = nI (g % 10) := by
  unfold zvX2_kind; exact pk_rem (d := 10) (by omega) (by omega) (by omega)
theorem y_a {g : Nat} (h : g < 10000) : zvX2_a (nI g) = nI (g / 10 % 10) := by
  unfold zvX2_a
  have e : nI g / 10 = nI (g / 10) := pk_div (d := 10) (by omega) (by omega) (by omega)
  rw [e]; exact pk_rem (d := 10) (by omega) (by omega) (by omega)
theorem y_b {g : Nat} (h : g < 10000) : zvX2_b (nI g) = nI (g / 100 % 10) := by
  unfold zvX2_b
  have e : nI g / 100 = nI (g / 100) := pk_div (d := 100) (by omega) (by omega) (by omega)
  rw [e]; exact pk_rem (d := 10) (by omega) (by omega) (by omega)
theorem y_c {g : Nat} (h : g < 10000) : zvX2_c (nI g) = nI (g / 1000 % 10) := by
  unfold zvX2_c
  have e : nI g / 1000 = nI (g / 1000) := pk_div (d := 1000) (by omega) (by omega) (by omega)
  rw [e]; exact pk_rem (d := 10) (by omega) (by omega) (by omega)
theorem y_at {Q : Int32 → Prop} {c : Int32} {f : Nat → Int32} {L : List Nat} (hC : CR c f L) {i : Nat} (hi : i < L.length) (h : Q (nI (L.getD i 0))) : wpX0_at Q (nI i) c f := by
  obtain ⟨rfl, hl, hf⟩ := hC
  rw [← (hf i hi).2] at h
  simp (disch := omega) only [wpX0_at, not_true_eq_false, not_false_eq_true, forall_const, true_implies, false_implies, implies_true, and_true, true_and, and_self, Nat.not_lt_zero, ne_eq, if_true, if_false, reduceIte, Nat.reduceAdd, Nat.reduceMul, Nat.reduceSub, Nat.reduceLT, Nat.reduceLeDiff, Nat.reduceEqDiff, eq_self_iff_true, L_0, L_1, L_2, L_3, L_4, L_5, L_6, L_7, L_8, L_9, L_10, L_16, L_20, L_21, L_24, L_31, L_64, L_100, L_320, L_400, L_1000, L_256, nI_add, pk_mul, pk_sub, nI_clamp, vp_in_nI, nI_ge, nI_le, nI_lt, nI_nlt, qI_ne, qI_eq, qI_m1, q_all, qI_nm, qI_nm2]
  exact h
theorem y_add {Q : Int32 → (Nat → Int32) → Prop} {c : Int32} {f : Nat → Int32} {L : List Nat} {g : Nat} (hC : CR c f L) (hl : L.length < 64) (hg : g < 10000) (h : ∀ c' f', CR c' f' (L ++ [g]) → Q c' f') : wpX0_add Q (nI g) c f := by
  obtain ⟨rfl, hC⟩ := hC
  simp (disch := omega) only [wpX0_add, not_true_eq_false, not_false_eq_true, forall_const, true_implies, false_implies, implies_true, and_true, true_and, and_self, Nat.not_lt_zero, ne_eq, if_true, if_false, reduceIte, Nat.reduceAdd, Nat.reduceMul, Nat.reduceSub, Nat.reduceLT, Nat.reduceLeDiff, Nat.reduceEqDiff, eq_self_iff_true, L_0, L_1, L_2, L_3, L_4, L_5, L_6, L_7, L_8, L_9, L_10, L_16, L_20, L_21, L_24, L_31, L_64, L_100, L_320, L_400, L_1000, L_256, nI_add, pk_mul, pk_sub, nI_clamp, vp_in_nI, nI_ge, nI_le, nI_lt, nI_nlt, qI_ne, qI_eq, qI_m1, q_all, qI_nm, qI_nm2]
  exact h _ _ (CR_add ⟨rfl, hC⟩ hl hg)
theorem y_addAll {Q : Int32 → (Nat → Int32) → Prop} {c c2 : Int32} {f f2 : Nat → Int32} {L M : List Nat} (hC : CR c f L) (hM : CR c2 f2 M) (hl : L.length + M.length ≤ 64) (h : ∀ c' f', CR c' f' (L ++ M) → Q c' f') : wpX0_addAll Q c2 f2 c f := by
  unfold wpX0_addAll
  have hb : M.length ≤ 64 := hM.2.1
  refine pk_loop (σ := Int32 × (Nat → Int32)) (fun n i s => wpX0_addAll_7 Q c2 f2 n c2 (nI i) s.1 s.2) (fun i s => CR s.1 s.2 (L ++ M.take i)) M.length 0 (c, f) (Nat.zero_le _) (by simpa using hC) ?_ ?_
  · intro n s hI
    rw [hM.1]
    simp (disch := omega) only [wpX0_addAll_7, wpX0_addAll_7b, not_true_eq_false, not_false_eq_true, forall_const, true_implies, false_implies, implies_true, and_true, true_and, and_self, Nat.not_lt_zero, ne_eq, if_true, if_false, reduceIte, Nat.reduceAdd, Nat.reduceMul, Nat.reduceSub, Nat.reduceLT, Nat.reduceLeDiff, Nat.reduceEqDiff, eq_self_iff_true, L_0, L_1, L_2, L_3, L_4, L_5, L_6, L_7, L_8, L_9, L_10, L_16, L_20, L_21, L_24, L_31, L_64, L_100, L_320, L_400, L_1000, L_256, nI_add, pk_mul, pk_sub, nI_clamp, vp_in_nI, nI_ge, nI_le, nI_lt, nI_nlt, qI_ne, qI_eq, qI_m1, q_all, qI_nm, qI_nm2]
    rw [List.take_length] at hI
    exact h _ _ hI
  · intro n i s hi hI hk
    have e := hM.1
    rw [e] at hk ⊢
    simp (disch := omega) only [wpX0_addAll_7, wpX0_addAll_7b, not_true_eq_false, not_false_eq_true, forall_const, true_implies, false_implies, implies_true, and_true, true_and, and_self, Nat.not_lt_zero, ne_eq, if_true, if_false, reduceIte, Nat.reduceAdd, Nat.reduceMul, Nat.reduceSub, Nat.reduceLT, Nat.reduceLeDiff, Nat.reduceEqDiff, eq_self_iff_true, L_0, L_1, L_2, L_3, L_4, L_5, L_6, L_7, L_8, L_9, L_10, L_16, L_20, L_21, L_24, L_31, L_64, L_100, L_320, L_400, L_1000, L_256, nI_add, pk_mul, pk_sub, nI_clamp, vp_in_nI, nI_ge, nI_le, nI_lt, nI_nlt, qI_ne, qI_eq, qI_m1, q_all, qI_nm, qI_nm2]
    rw [e] at hM
    refine y_at hM hi (y_add hI (by simp; omega) ((hM.2.2 i hi).1) (fun c' f' h' => hk (c', f') ?_))
    show CR c' f' (L ++ M.take (i + 1))
    rw [g_take (d := 0) hi, ← List.append_assoc]; exact h'
theorem y_addSelf {Q : Int32 → (Nat → Int32) → Prop} {c : Int32} {f : Nat → Int32} {L : List Nat} (hC : CR c f L) (hl : L.length + L.length ≤ 64) (h : ∀ c' f', CR c' f' (L ++ L) → Q c' f') : wpX0_addAll_a1this Q c f := by
  unfold wpX0_addAll_a1this
  have hc := hC.1
  rw [show c = nI L.length from hc] 
  rw [hc] at hC
  refine pk_loop (σ := Int32 × (Nat → Int32)) (fun n i s => wpX0_addAll_a1this_7 Q n (nI L.length) (nI i) s.1 s.2) (fun i s => CR s.1 s.2 (L ++ L.take i)) L.length 0 (nI L.length, f) (Nat.zero_le _) (by simpa using hC) ?_ ?_
  · intro n s hI
    simp (disch := omega) only [wpX0_addAll_a1this_7, wpX0_addAll_a1this_7b, not_true_eq_false, not_false_eq_true, forall_const, true_implies, false_implies, implies_true, and_true, true_and, and_self, Nat.not_lt_zero, ne_eq, if_true, if_false, reduceIte, Nat.reduceAdd, Nat.reduceMul, Nat.reduceSub, Nat.reduceLT, Nat.reduceLeDiff, Nat.reduceEqDiff, eq_self_iff_true, L_0, L_1, L_2, L_3, L_4, L_5, L_6, L_7, L_8, L_9, L_10, L_16, L_20, L_21, L_24, L_31, L_64, L_100, L_320, L_400, L_1000, L_256, nI_add, pk_mul, pk_sub, nI_clamp, vp_in_nI, nI_ge, nI_le, nI_lt, nI_nlt, qI_ne, qI_eq, qI_m1, q_all, qI_nm, qI_nm2]
    rw [List.take_length] at hI
    exact h _ _ hI
  · intro n i s hi hI hk
    simp (disch := omega) only [wpX0_addAll_a1this_7, wpX0_addAll_a1this_7b, not_true_eq_false, not_false_eq_true, forall_const, true_implies, false_implies, implies_true, and_true, true_and, and_self, Nat.not_lt_zero, ne_eq, if_true, if_false, reduceIte, Nat.reduceAdd, Nat.reduceMul, Nat.reduceSub, Nat.reduceLT, Nat.reduceLeDiff, Nat.reduceEqDiff, eq_self_iff_true, L_0, L_1, L_2, L_3, L_4, L_5, L_6, L_7, L_8, L_9, L_10, L_16, L_20, L_21, L_24, L_31, L_64, L_100, L_320, L_400, L_1000, L_256, nI_add, pk_mul, pk_sub, nI_clamp, vp_in_nI, nI_ge, nI_le, nI_lt, nI_nlt, qI_ne, qI_eq, qI_m1, q_all, qI_nm, qI_nm2]
    refine y_at hI (i := i) (by simp; omega) ?_
    rw [g_lo hi]
    refine y_add hI (by simp; omega) ((hC.2.2 i hi).1) (fun c' f' h' => hk (c', f') ?_)
    show CR c' f' (L ++ L.take (i + 1))
    rw [g_take (d := 0) hi, ← List.append_assoc]; exact h'
theorem y_become {Q : Int32 → (Nat → Int32) → Prop} {c c2 : Int32} {f f2 : Nat → Int32} {M : List Nat} (hM : CR c2 f2 M) (h : ∀ c' f', CR c' f' M → Q c' f') : wpX0_become Q c2 f2 c f := by
  unfold wpX0_become wpX0_removeAll
  exact y_addAll (CR_0 f) hM (by simpa using hM.2.1) (fun c' f' h' => h c' f' (by simpa using h'))
theorem y_countKind {Q : Int32 → Prop} {c : Int32} {f : Nat → Int32} {L : List Nat} {k : Nat} (hk9 : k < 10) (hC : CR c f L) (h : Q (nI (L.countP (fun g => g % 10 = k)))) : wpX0_countKind Q (nI k) c f := by
  unfold wpX0_countKind
  have hl := hC.2.1
  obtain ⟨rfl, -, hf⟩ := hC
  refine pk_loop (σ := Nat) (fun n i s => wpX0_countKind_4 Q (nI L.length) f n (nI k) (nI s) (nI i)) (fun i s => s = (L.take i).countP (fun g => g % 10 = k)) L.length 0 0 (Nat.zero_le _) rfl ?_ ?_
  · intro n s hI
    rw [List.take_length] at hI
    simp (disch := omega) only [wpX0_countKind_4, wpX0_countKind_4b, not_true_eq_false, not_false_eq_true, forall_const, true_implies, false_implies, implies_true, and_true, true_and, and_self, Nat.not_lt_zero, ne_eq, if_true, if_false, reduceIte, Nat.reduceAdd, Nat.reduceMul, Nat.reduceSub, Nat.reduceLT, Nat.reduceLeDiff, Nat.reduceEqDiff, eq_self_iff_true, L_0, L_1, L_2, L_3, L_4, L_5, L_6, L_7, L_8, L_9, L_10, L_16, L_20, L_21, L_24, L_31, L_64, L_100, L_320, L_400, L_1000, L_256, nI_add, pk_mul, pk_sub, nI_clamp, vp_in_nI, nI_ge, nI_le, nI_lt, nI_nlt, qI_ne, qI_eq, qI_m1, q_all, qI_nm, qI_nm2]
    rw [hI]; exact h
  · intro n i s hi hI hk
    have hcl : s ≤ i := by
      rw [hI]
      have h1 := List.countP_le_length (p := fun g => decide (g % 10 = k)) (l := L.take i)
      simp at h1 ⊢
      omega
    simp (disch := omega) only [wpX0_countKind_4, wpX0_countKind_4b, (hf i hi).2, y_kind (hf i hi).1, not_true_eq_false, not_false_eq_true, forall_const, true_implies, false_implies, implies_true, and_true, true_and, and_self, Nat.not_lt_zero, ne_eq, if_true, if_false, reduceIte, Nat.reduceAdd, Nat.reduceMul, Nat.reduceSub, Nat.reduceLT, Nat.reduceLeDiff, Nat.reduceEqDiff, eq_self_iff_true, L_0, L_1, L_2, L_3, L_4, L_5, L_6, L_7, L_8, L_9, L_10, L_16, L_20, L_21, L_24, L_31, L_64, L_100, L_320, L_400, L_1000, L_256, nI_add, pk_mul, pk_sub, nI_clamp, vp_in_nI, nI_ge, nI_le, nI_lt, nI_nlt, qI_ne, qI_eq, qI_m1, q_all, qI_nm, qI_nm2]
    rw [nI_eq (by omega) (by omega)]
    have e := g_take (d := 0) hi
    refine ⟨fun h9 => hk _ ?_, fun h9 => ?_⟩
    · rw [e, List.countP_append, ← hI]; simp only [List.countP_singleton]; rw [if_pos (by simpa using h9)]
    · have h8 := hk s (by rw [e, List.countP_append, ← hI]; simp only [List.countP_singleton]; rw [if_neg (by simpa using h9)]; rfl)
      exact h8
