/-! The reference's columns: a circuit, two circuits, turned or not. -/
section
variable {z k a b c : Nat → Int32} {Ls : Nat → List Nat}
theorem m_column {Q : Int32 → (Nat → Int64) → Prop} {n s i : Nat} {f : Nat → Int64} (hn : n < 5) (hM : MM z k a b c Ls) (hs : s < 4) (hi : i < 16) (hv : ∀ x ∈ Ls s, gv n x = true) (h : Q (nI (hN (Ls s))) (acts n (Ls s) (iniV f i))) : wpX7_column Q (nI s) (nI i) (nI n) z k a b c f := by
  obtain ⟨es, hl, hgs⟩ := hM s hs
  unfold wpX7_column
  refine pk_loop (σ := Nat → Int64) (fun m j v => wpX7_column_3 Q (nI n) z k a b c m (nI s) (nI i) (nI j) v) (fun j v => ∀ p, v p = if p < j then (if p = 4 * i then 1 else 0) else f p) 64 0 f (by omega) (fun p => by rw [if_neg (by omega)]) ?_ ?_
  · intro m v hI
    simp (disch := omega) only [wpX7_column_3, wpX7_column_3b, wpX7_column_33, not_true_eq_false, not_false_eq_true, forall_const, true_implies, false_implies, implies_true, and_true, true_and, and_self, Nat.not_lt_zero, ne_eq, if_true, if_false, reduceIte, Nat.reduceAdd, Nat.reduceMul, Nat.reduceSub, Nat.reduceLT, Nat.reduceLeDiff, Nat.reduceEqDiff, Nat.add_sub_cancel, eq_self_iff_true, L_0, L_1, L_2, L_3, L_4, L_5, L_6, L_7, L_8, L_9, L_10, L_16, L_20, L_21, L_24, L_31, L_64, L_100, L_320, L_400, L_1000, L_256, nI_add, pk_mul, pk_sub, nI_clamp, vp_in_nI, nI_ge, nI_le, nI_lt, nI_nlt, qI_ne, qI_eq, qI_m1, q_all, qI_nm, qI_nm2]
    have ev : v = iniV f i := by
      funext p; rw [hI p]; unfold iniV
      by_cases e : p = 4 * i
      · rw [if_pos (by omega), if_pos e, if_pos e]
      · rw [if_neg e]
        by_cases e2 : p < 64
        · rw [if_pos e2, if_neg e]
        · rw [if_neg e2, if_neg e]
    rw [ev]
    refine pk_loop (σ := Nat → Int64) (fun m j v => wpX7_column_39 Q (nI n) z k a b c m (nI s) (nI (hN ((Ls s).take j))) (nI j) v) (fun j v => v = acts n ((Ls s).take j) (iniV f i)) (Ls s).length 0 (iniV f i) (Nat.zero_le _) rfl ?_ ?_
    · intro m v hI
      rw [List.take_length] at hI ⊢
      simp (disch := omega) only [wpX7_column_39, wpX7_column_39b, es, not_true_eq_false, not_false_eq_true, forall_const, true_implies, false_implies, implies_true, and_true, true_and, and_self, Nat.not_lt_zero, ne_eq, if_true, if_false, reduceIte, Nat.reduceAdd, Nat.reduceMul, Nat.reduceSub, Nat.reduceLT, Nat.reduceLeDiff, Nat.reduceEqDiff, Nat.add_sub_cancel, eq_self_iff_true, L_0, L_1, L_2, L_3, L_4, L_5, L_6, L_7, L_8, L_9, L_10, L_16, L_20, L_21, L_24, L_31, L_64, L_100, L_320, L_400, L_1000, L_256, nI_add, pk_mul, pk_sub, nI_clamp, vp_in_nI, nI_ge, nI_le, nI_lt, nI_nlt, qI_ne, qI_eq, qI_m1, q_all, qI_nm, qI_nm2]
      rw [hI]; exact h
    · intro m j v hj hI hk
      have e1 := g_take (d := 0) hj
      have MGj := (hgs j hj).2
      have hg := hv _ (g_mem (d := 0) hj)
      have hk9 := kN_lt ((Ls s).getD j 0)
      simp (disch := omega) only [wpX7_column_39, wpX7_column_39b, es, not_true_eq_false, not_false_eq_true, forall_const, true_implies, false_implies, implies_true, and_true, true_and, and_self, Nat.not_lt_zero, ne_eq, if_true, if_false, reduceIte, Nat.reduceAdd, Nat.reduceMul, Nat.reduceSub, Nat.reduceLT, Nat.reduceLeDiff, Nat.reduceEqDiff, Nat.add_sub_cancel, eq_self_iff_true, L_0, L_1, L_2, L_3, L_4, L_5, L_6, L_7, L_8, L_9, L_10, L_16, L_20, L_21, L_24, L_31, L_64, L_100, L_320, L_400, L_1000, L_256, nI_add, pk_mul, pk_sub, nI_clamp, vp_in_nI, nI_ge, nI_le, nI_lt, nI_nlt, qI_ne, qI_eq, qI_m1, q_all, qI_nm, qI_nm2]
      refine m_act hn (by omega) hg MGj ?_
      simp (disch := omega) only [MGj.1, not_true_eq_false, not_false_eq_true, forall_const, true_implies, false_implies, implies_true, and_true, true_and, and_self, Nat.not_lt_zero, ne_eq, if_true, if_false, reduceIte, Nat.reduceAdd, Nat.reduceMul, Nat.reduceSub, Nat.reduceLT, Nat.reduceLeDiff, Nat.reduceEqDiff, Nat.add_sub_cancel, eq_self_iff_true, L_0, L_1, L_2, L_3, L_4, L_5, L_6, L_7, L_8, L_9, L_10, L_16, L_20, L_21, L_24, L_31, L_64, L_100, L_320, L_400, L_1000, L_256, nI_add, pk_mul, pk_sub, nI_clamp, vp_in_nI, nI_ge, nI_le, nI_lt, nI_nlt, qI_ne, qI_eq, qI_m1, q_all, qI_nm, qI_nm2]
      have e3 : acts n ((Ls s).take (j + 1)) (iniV f i) = actV n ((Ls s).getD j 0) v := by rw [e1, hI]; unfold acts; rw [List.foldl_append]; rfl
      by_cases e : kN ((Ls s).getD j 0) = 1
      · simp (disch := omega) only [not_true_eq_false, not_false_eq_true, forall_const, true_implies, false_implies, implies_true, and_true, true_and, and_self, Nat.not_lt_zero, ne_eq, if_true, if_false, reduceIte, Nat.reduceAdd, Nat.reduceMul, Nat.reduceSub, Nat.reduceLT, Nat.reduceLeDiff, Nat.reduceEqDiff, Nat.add_sub_cancel, eq_self_iff_true, L_0, L_1, L_2, L_3, L_4, L_5, L_6, L_7, L_8, L_9, L_10, L_16, L_20, L_21, L_24, L_31, L_64, L_100, L_320, L_400, L_1000, L_256, nI_add, pk_mul, pk_sub, nI_clamp, vp_in_nI, nI_ge, nI_le, nI_lt, nI_nlt, qI_ne, qI_eq, qI_m1, q_all, qI_nm, qI_nm2]
        have e2 : hN ((Ls s).take j) + 1 = hN ((Ls s).take (j + 1)) := by
          rw [e1]; unfold hN; rw [List.countP_append, List.countP_singleton]; unfold kN at e; rw [if_pos (by simpa using e)]
        rw [e2]
        exact hk _ e3.symm
      · simp (disch := omega) only [not_true_eq_false, not_false_eq_true, forall_const, true_implies, false_implies, implies_true, and_true, true_and, and_self, Nat.not_lt_zero, ne_eq, if_true, if_false, reduceIte, Nat.reduceAdd, Nat.reduceMul, Nat.reduceSub, Nat.reduceLT, Nat.reduceLeDiff, Nat.reduceEqDiff, Nat.add_sub_cancel, eq_self_iff_true, L_0, L_1, L_2, L_3, L_4, L_5, L_6, L_7, L_8, L_9, L_10, L_16, L_20, L_21, L_24, L_31, L_64, L_100, L_320, L_400, L_1000, L_256, nI_add, pk_mul, pk_sub, nI_clamp, vp_in_nI, nI_ge, nI_le, nI_lt, nI_nlt, qI_ne, qI_eq, qI_m1, q_all, qI_nm, qI_nm2]
        have e2 : hN ((Ls s).take j) = hN ((Ls s).take (j + 1)) := by
          rw [e1]; unfold hN; rw [List.countP_append, List.countP_singleton]; unfold kN at e; rw [if_neg (by simpa using e)]; rfl
        rw [e2]
        exact hk _ e3.symm
  · intro m j v hj hI hk
    simp (disch := omega) only [wpX7_column_3, wpX7_column_3b, not_true_eq_false, not_false_eq_true, forall_const, true_implies, false_implies, implies_true, and_true, true_and, and_self, Nat.not_lt_zero, ne_eq, if_true, if_false, reduceIte, Nat.reduceAdd, Nat.reduceMul, Nat.reduceSub, Nat.reduceLT, Nat.reduceLeDiff, Nat.reduceEqDiff, Nat.add_sub_cancel, eq_self_iff_true, L_0, L_1, L_2, L_3, L_4, L_5, L_6, L_7, L_8, L_9, L_10, L_16, L_20, L_21, L_24, L_31, L_64, L_100, L_320, L_400, L_1000, L_256, nI_add, pk_mul, pk_sub, nI_clamp, vp_in_nI, nI_ge, nI_le, nI_lt, nI_nlt, qI_ne, qI_eq, qI_m1, q_all, qI_nm, qI_nm2]
    by_cases e : j = 4 * i
    · simp (disch := omega) only [not_true_eq_false, not_false_eq_true, forall_const, true_implies, false_implies, implies_true, and_true, true_and, and_self, Nat.not_lt_zero, ne_eq, if_true, if_false, reduceIte, Nat.reduceAdd, Nat.reduceMul, Nat.reduceSub, Nat.reduceLT, Nat.reduceLeDiff, Nat.reduceEqDiff, Nat.add_sub_cancel, eq_self_iff_true, L_0, L_1, L_2, L_3, L_4, L_5, L_6, L_7, L_8, L_9, L_10, L_16, L_20, L_21, L_24, L_31, L_64, L_100, L_320, L_400, L_1000, L_256, nI_add, pk_mul, pk_sub, nI_clamp, vp_in_nI, nI_ge, nI_le, nI_lt, nI_nlt, qI_ne, qI_eq, qI_m1, q_all, qI_nm, qI_nm2]
      refine hk _ (fun p => ?_)
      by_cases e2 : p = j
      · rw [e2, pk_uLs, if_pos (by omega), if_pos e]
      · rw [pk_uLn e2, hI p]
        by_cases e3 : p < j
        · have e4 : p < j + 1 := by omega
          simp only [if_pos e3, if_pos e4]
        · have e4 : ¬ p < j + 1 := by omega
          simp only [if_neg e3, if_neg e4]
    · simp (disch := omega) only [not_true_eq_false, not_false_eq_true, forall_const, true_implies, false_implies, implies_true, and_true, true_and, and_self, Nat.not_lt_zero, ne_eq, if_true, if_false, reduceIte, Nat.reduceAdd, Nat.reduceMul, Nat.reduceSub, Nat.reduceLT, Nat.reduceLeDiff, Nat.reduceEqDiff, Nat.add_sub_cancel, eq_self_iff_true, L_0, L_1, L_2, L_3, L_4, L_5, L_6, L_7, L_8, L_9, L_10, L_16, L_20, L_21, L_24, L_31, L_64, L_100, L_320, L_400, L_1000, L_256, nI_add, pk_mul, pk_sub, nI_clamp, vp_in_nI, nI_ge, nI_le, nI_lt, nI_nlt, qI_ne, qI_eq, qI_m1, q_all, qI_nm, qI_nm2]
      refine hk _ (fun p => ?_)
      by_cases e2 : p = j
      · rw [e2, pk_uLs, if_pos (by omega), if_neg e]
      · rw [pk_uLn e2, hI p]
        by_cases e3 : p < j
        · have e4 : p < j + 1 := by omega
          simp only [if_pos e3, if_pos e4]
        · have e4 : ¬ p < j + 1 := by omega
          simp only [if_neg e3, if_neg e4]
theorem hN_le (L : List Nat) : hN L ≤ L.length := List.countP_le_length
theorem m_b79 {Q : Int32 → Int32 → (Nat → Int64) → (Nat → Int64) → Prop} {n fs : Nat} {A X : Nat → Int64} (hf : fs < 1000) (h : Q (nI fs) (nI fs) A X) : ∀ d os B, os + d = fs → rtV 4 d B = X → ∃ m, wpX7_both_79 Q (nI n) z k a b c m (nI fs) (nI os) A B := by
  intro d os B hd hX
  refine ⟨d + 1, ?_⟩
  refine pk_loopD (σ := Nat × (Nat → Int64)) (fun m d s => wpX7_both_79 Q (nI n) z k a b c m (nI fs) (nI s.1) A s.2) (fun d s => s.1 + d = fs ∧ rtV 4 d s.2 = X) ?_ ?_ d (os, B) ⟨hd, hX⟩
  · intro m s hI
    have e : s.1 = fs := by omega
    rw [e]
    simp (disch := omega) only [wpX7_both_79, wpX7_both_79b, not_true_eq_false, not_false_eq_true, forall_const, true_implies, false_implies, implies_true, and_true, true_and, and_self, Nat.not_lt_zero, ne_eq, if_true, if_false, reduceIte, Nat.reduceAdd, Nat.reduceMul, Nat.reduceSub, Nat.reduceLT, Nat.reduceLeDiff, Nat.reduceEqDiff, Nat.add_sub_cancel, eq_self_iff_true, L_0, L_1, L_2, L_3, L_4, L_5, L_6, L_7, L_8, L_9, L_10, L_16, L_20, L_21, L_24, L_31, L_64, L_100, L_320, L_400, L_1000, L_256, nI_add, pk_mul, pk_sub, nI_clamp, vp_in_nI, nI_ge, nI_le, nI_lt, nI_nlt, qI_ne, qI_eq, qI_m1, q_all, qI_nm, qI_nm2]
    rw [show s.2 = X from hI.2]; exact h
  · intro m d s hI hk
    simp (disch := omega) only [wpX7_both_79, wpX7_both_79b, not_true_eq_false, not_false_eq_true, forall_const, true_implies, false_implies, implies_true, and_true, true_and, and_self, Nat.not_lt_zero, ne_eq, if_true, if_false, reduceIte, Nat.reduceAdd, Nat.reduceMul, Nat.reduceSub, Nat.reduceLT, Nat.reduceLeDiff, Nat.reduceEqDiff, Nat.add_sub_cancel, eq_self_iff_true, L_0, L_1, L_2, L_3, L_4, L_5, L_6, L_7, L_8, L_9, L_10, L_16, L_20, L_21, L_24, L_31, L_64, L_100, L_320, L_400, L_1000, L_256, nI_add, pk_mul, pk_sub, nI_clamp, vp_in_nI, nI_ge, nI_le, nI_lt, nI_nlt, qI_ne, qI_eq, qI_m1, q_all, qI_nm, qI_nm2]
    refine pk_loop (σ := Nat → Int64) (fun m9 i v => wpX7_both_93 Q (wpX7_both_79 Q (nI n) z k a b c m) (nI n) z k a b c m9 (nI i) (nI fs) (nI s.1) A v) (fun i v => v = foN grV i s.2) 16 0 s.2 (by omega) rfl ?_ ?_
    · intro m9 v hv
      simp (disch := omega) only [wpX7_both_93, wpX7_both_93b, not_true_eq_false, not_false_eq_true, forall_const, true_implies, false_implies, implies_true, and_true, true_and, and_self, Nat.not_lt_zero, ne_eq, if_true, if_false, reduceIte, Nat.reduceAdd, Nat.reduceMul, Nat.reduceSub, Nat.reduceLT, Nat.reduceLeDiff, Nat.reduceEqDiff, Nat.add_sub_cancel, eq_self_iff_true, L_0, L_1, L_2, L_3, L_4, L_5, L_6, L_7, L_8, L_9, L_10, L_16, L_20, L_21, L_24, L_31, L_64, L_100, L_320, L_400, L_1000, L_256, nI_add, pk_mul, pk_sub, nI_clamp, vp_in_nI, nI_ge, nI_le, nI_lt, nI_nlt, qI_ne, qI_eq, qI_m1, q_all, qI_nm, qI_nm2]
      exact hk (s.1 + 1, v) ⟨by show s.1 + 1 + d = fs; omega, by rw [hv]; exact hI.2⟩
    · intro m9 i v hi hv hk9
      simp (disch := omega) only [wpX7_both_93, wpX7_both_93b, not_true_eq_false, not_false_eq_true, forall_const, true_implies, false_implies, implies_true, and_true, true_and, and_self, Nat.not_lt_zero, ne_eq, if_true, if_false, reduceIte, Nat.reduceAdd, Nat.reduceMul, Nat.reduceSub, Nat.reduceLT, Nat.reduceLeDiff, Nat.reduceEqDiff, Nat.add_sub_cancel, eq_self_iff_true, L_0, L_1, L_2, L_3, L_4, L_5, L_6, L_7, L_8, L_9, L_10, L_16, L_20, L_21, L_24, L_31, L_64, L_100, L_320, L_400, L_1000, L_256, nI_add, pk_mul, pk_sub, nI_clamp, vp_in_nI, nI_ge, nI_le, nI_lt, nI_nlt, qI_ne, qI_eq, qI_m1, q_all, qI_nm, qI_nm2]
      exact mm_grow hi (hk9 _ (by rw [hv]; rfl))
theorem m_b28 {Q : Int32 → Int32 → (Nat → Int64) → (Nat → Int64) → Prop} {n os : Nat} {B X : Nat → Int64} (hf : os < 1000) (h : Q (nI os) (nI os) X B) : ∀ d fs A, fs + d = os → rtV 4 d A = X → ∃ m, wpX7_both_28 Q (nI n) z k a b c m (nI fs) (nI os) A B := by
  intro d fs A hd hX
  refine ⟨d + 1, ?_⟩
  refine pk_loopD (σ := Nat × (Nat → Int64)) (fun m d s => wpX7_both_28 Q (nI n) z k a b c m (nI s.1) (nI os) s.2 B) (fun d s => s.1 + d = os ∧ rtV 4 d s.2 = X) ?_ ?_ d (fs, A) ⟨hd, hX⟩
  · intro m s hI
    have e : s.1 = os := by omega
    rw [e]
    simp (disch := omega) only [wpX7_both_28, wpX7_both_28b, not_true_eq_false, not_false_eq_true, forall_const, true_implies, false_implies, implies_true, and_true, true_and, and_self, Nat.not_lt_zero, ne_eq, if_true, if_false, reduceIte, Nat.reduceAdd, Nat.reduceMul, Nat.reduceSub, Nat.reduceLT, Nat.reduceLeDiff, Nat.reduceEqDiff, Nat.add_sub_cancel, eq_self_iff_true, L_0, L_1, L_2, L_3, L_4, L_5, L_6, L_7, L_8, L_9, L_10, L_16, L_20, L_21, L_24, L_31, L_64, L_100, L_320, L_400, L_1000, L_256, nI_add, pk_mul, pk_sub, nI_clamp, vp_in_nI, nI_ge, nI_le, nI_lt, nI_nlt, qI_ne, qI_eq, qI_m1, q_all, qI_nm, qI_nm2]
    rw [show s.2 = X from hI.2]
    exact m_b79 hf h 0 os B rfl rfl
  · intro m d s hI hk
    simp (disch := omega) only [wpX7_both_28, wpX7_both_28b, not_true_eq_false, not_false_eq_true, forall_const, true_implies, false_implies, implies_true, and_true, true_and, and_self, Nat.not_lt_zero, ne_eq, if_true, if_false, reduceIte, Nat.reduceAdd, Nat.reduceMul, Nat.reduceSub, Nat.reduceLT, Nat.reduceLeDiff, Nat.reduceEqDiff, Nat.add_sub_cancel, eq_self_iff_true, L_0, L_1, L_2, L_3, L_4, L_5, L_6, L_7, L_8, L_9, L_10, L_16, L_20, L_21, L_24, L_31, L_64, L_100, L_320, L_400, L_1000, L_256, nI_add, pk_mul, pk_sub, nI_clamp, vp_in_nI, nI_ge, nI_le, nI_lt, nI_nlt, qI_ne, qI_eq, qI_m1, q_all, qI_nm, qI_nm2]
    refine pk_loop (σ := Nat → Int64) (fun m9 i v => wpX7_both_42 Q (wpX7_both_28 Q (nI n) z k a b c m) (nI n) z k a b c m9 (nI i) (nI s.1) (nI os) v B) (fun i v => v = foN grV i s.2) 16 0 s.2 (by omega) rfl ?_ ?_
    · intro m9 v hv
      simp (disch := omega) only [wpX7_both_42, wpX7_both_42b, not_true_eq_false, not_false_eq_true, forall_const, true_implies, false_implies, implies_true, and_true, true_and, and_self, Nat.not_lt_zero, ne_eq, if_true, if_false, reduceIte, Nat.reduceAdd, Nat.reduceMul, Nat.reduceSub, Nat.reduceLT, Nat.reduceLeDiff, Nat.reduceEqDiff, Nat.add_sub_cancel, eq_self_iff_true, L_0, L_1, L_2, L_3, L_4, L_5, L_6, L_7, L_8, L_9, L_10, L_16, L_20, L_21, L_24, L_31, L_64, L_100, L_320, L_400, L_1000, L_256, nI_add, pk_mul, pk_sub, nI_clamp, vp_in_nI, nI_ge, nI_le, nI_lt, nI_nlt, qI_ne, qI_eq, qI_m1, q_all, qI_nm, qI_nm2]
      exact hk (s.1 + 1, v) ⟨by show s.1 + 1 + d = os; omega, by rw [hv]; exact hI.2⟩
    · intro m9 i v hi hv hk9
      simp (disch := omega) only [wpX7_both_42, wpX7_both_42b, not_true_eq_false, not_false_eq_true, forall_const, true_implies, false_implies, implies_true, and_true, true_and, and_self, Nat.not_lt_zero, ne_eq, if_true, if_false, reduceIte, Nat.reduceAdd, Nat.reduceMul, Nat.reduceSub, Nat.reduceLT, Nat.reduceLeDiff, Nat.reduceEqDiff, Nat.add_sub_cancel, eq_self_iff_true, L_0, L_1, L_2, L_3, L_4, L_5, L_6, L_7, L_8, L_9, L_10, L_16, L_20, L_21, L_24, L_31, L_64, L_100, L_320, L_400, L_1000, L_256, nI_add, pk_mul, pk_sub, nI_clamp, vp_in_nI, nI_ge, nI_le, nI_lt, nI_nlt, qI_ne, qI_eq, qI_m1, q_all, qI_nm, qI_nm2]
      exact mm_grow hi (hk9 _ (by rw [hv]; rfl))
def mxH (L M : List Nat) : Nat := if hN L < hN M then hN M else hN L
theorem m_both {Q : Int32 → Int32 → (Nat → Int64) → (Nat → Int64) → Prop} {n s t i : Nat} {fs os : Int32} {A B : Nat → Int64} (hn : n < 5) (hM : MM z k a b c Ls) (hs : s < 4) (ht : t < 4) (hi : i < 16) (hv : ∀ x ∈ Ls s, gv n x = true) (hw : ∀ x ∈ Ls t, gv n x = true)
    (h : ∀ fs os A B, AG n A (CV n (Ls s) i (mxH (Ls s) (Ls t) - hN (Ls s))) → AG n B (CV n (Ls t) i (mxH (Ls s) (Ls t) - hN (Ls t))) → Q fs os A B) : wpX7_both Q (nI s) (nI t) (nI i) (nI n) z k a b c fs os A B := by
  have l1 := hN_le (Ls s); have l2 := hN_le (Ls t); have l3 := (hM s hs).2.1; have l4 := (hM t ht).2.1
  unfold wpX7_both
  refine m_column hn hM hs hi hv (m_column hn hM ht hi hw ?_)
  have c1 := ag_M hn hv A i (mxH (Ls s) (Ls t) - hN (Ls s))
  have c2 := ag_M hn hw B i (mxH (Ls s) (Ls t) - hN (Ls t))
  have h := h (nI (mxH (Ls s) (Ls t))) (nI (mxH (Ls s) (Ls t))) _ _ c1 c2
  unfold mxH at h
  by_cases e : hN (Ls s) < hN (Ls t)
  · rw [if_pos e, Nat.sub_self] at h
    exact m_b28 (by omega) h (hN (Ls t) - hN (Ls s)) (hN (Ls s)) _ (by omega) rfl
  · rw [if_neg e, Nat.sub_self] at h
    refine ⟨1, ?_⟩
    simp (disch := omega) only [wpX7_both_28, wpX7_both_28b, not_true_eq_false, not_false_eq_true, forall_const, true_implies, false_implies, implies_true, and_true, true_and, and_self, Nat.not_lt_zero, ne_eq, if_true, if_false, reduceIte, Nat.reduceAdd, Nat.reduceMul, Nat.reduceSub, Nat.reduceLT, Nat.reduceLeDiff, Nat.reduceEqDiff, Nat.add_sub_cancel, eq_self_iff_true, L_0, L_1, L_2, L_3, L_4, L_5, L_6, L_7, L_8, L_9, L_10, L_16, L_20, L_21, L_24, L_31, L_64, L_100, L_320, L_400, L_1000, L_256, nI_add, pk_mul, pk_sub, nI_clamp, vp_in_nI, nI_ge, nI_le, nI_lt, nI_nlt, qI_ne, qI_eq, qI_m1, q_all, qI_nm, qI_nm2]
    exact m_b79 (by omega) h (hN (Ls s) - hN (Ls t)) (hN (Ls t)) _ (by omega) rfl
end
theorem tu_ne {t i q : Nat} {V : Nat → Int64} (h : q / 4 ≠ i) : tuV t i V q = V q := by
  induction t with
  | zero => rfl
  | succ t ih => rw [tuV_s]; unfold w1; rw [if_neg h]; exact ih
theorem tu_at (i : Nat) (V : Nat → Int64) : ∀ t, t < 8 → ∀ p, p < 4 → tuV t i V (4 * i + p) = if frN p t < 4 then V (4 * i + frN p t) else -V (4 * i + (frN p t - 4)) := by
  intro t
  induction t with
  | zero =>
    intro _ p hp
    rw [if_pos (by unfold frN; omega)]
    show V _ = V _
    congr 1; unfold frN; omega
  | succ t ih =>
    intro ht p hp
    rw [tuV_s]
    rcases (show p = 0 ∨ ∃ q, p = q + 1 ∧ q < 3 from by rcases p with _ | q; exact Or.inl rfl; exact Or.inr ⟨q, rfl, by omega⟩) with rfl | ⟨q, rfl, hq⟩
    · have e := w1_at0 i i (tuV t i V)
      rw [if_pos rfl] at e
      rw [Nat.add_zero, e, ih (by omega) 3 (by omega)]
      by_cases h3 : t ≤ 3
      · rw [if_pos (by unfold frN; omega), if_neg (by unfold frN; omega)]
        congr 2; unfold frN; omega
      · rw [if_neg (by unfold frN; omega), if_pos (by unfold frN; omega), Int64.neg_neg]
        congr 1; unfold frN; omega
    · have e := w1_atp i i q (tuV t i V) hq
      rw [if_pos rfl] at e
      rw [e, ih (by omega) q (by omega)]
      have ef : frN (q + 1) (t + 1) = frN q t := by unfold frN; omega
      rw [ef]
theorem tw_at {t i p : Nat} (V : Nat → Int64) (ht : t < 8) (hp : p < 4) : tuV t i V (4 * i + p) = twP t V (4 * i + p) := by
  rw [tu_at i V t ht p hp]
  unfold twP
  rw [show (4 * i + p) % 4 = p by omega, show (4 * i + p) / 4 = i by omega]
theorem ag_tw {n t j : Nat} {V W : Nat → Int64} (h : AG n V W) (hj : j < 4 * 2 ^ n) : twP t V j = twP t W j := by
  have hf : frN (j % 4) t < 8 := Nat.mod_lt _ (by omega)
  unfold twP
  by_cases e : frN (j % 4) t < 4
  · rw [if_pos e, if_pos e, h _ (by omega)]
  · rw [if_neg e, if_neg e, h _ (by omega)]
theorem allN_c {p q : Nat → Bool} : ∀ {m : Nat}, (∀ i, i < m → p i = q i) → allN p m = allN q m := by
  intro m
  induction m with
  | zero => intro _; rfl
  | succ m ih => intro h; unfold allN; rw [ih (fun i hi => h i (by omega)), h m (by omega)]
theorem ag_tr {n t : Nat} {V W V' W' : Nat → Int64} (h1 : AG n V V') (h2 : AG n W W') : trB n t V W = trB n t V' W' :=
  allN_c (fun j hj => by rw [h1 j hj, ag_tw h2 hj])
/-- whether the matrix of L is w to the t times that of M (both over one scale) -/
def trA (n t : Nat) (L M : List Nat) : Bool := allN (fun i => trB n t (CV n L i (mxH L M - hN L)) (CV n M i (mxH L M - hN M))) (2 ^ n)
section
variable {z k a b c : Nat → Int32} {Ls : Nat → List Nat}
theorem m_isT {Q : Int32 → Int32 → Int32 → (Nat → Int64) → (Nat → Int64) → Prop} {n s t r : Nat} {fs os : Int32} {A B : Nat → Int64} (hn : n < 5) (hr8 : r < 8) (hM : MM z k a b c Ls) (hs : s < 4) (ht : t < 4) (hv : ∀ x ∈ Ls s, gv n x = true) (hw : ∀ x ∈ Ls t, gv n x = true)
    (h : ∀ fs os A B, Q (if trA n r (Ls s) (Ls t) then 1 else 0) fs os A B) : wpX7_isTurned Q (nI s) (nI t) (nI r) (nI n) z k a b c fs os A B := by
  have hb := p16 (n := n) (by omega)
  unfold wpX7_isTurned
  let P : Nat → Bool := fun i => trB n r (CV n (Ls s) i (mxH (Ls s) (Ls t) - hN (Ls s))) (CV n (Ls t) i (mxH (Ls s) (Ls t) - hN (Ls t)))
  refine pk_loop (σ := Int32 × Int32 × Int32 × (Nat → Int64) × (Nat → Int64)) (fun m i v => wpX7_isTurned_6 Q (nI n) z k a b c m (nI s) (nI t) (nI r) v.1 (nI i) v.2.1 v.2.2.1 v.2.2.2.1 v.2.2.2.2) (fun i v => v.1 = if allN P i then 1 else 0) (2 ^ n) 0 (1, fs, os, A, B) (Nat.zero_le _) rfl ?_ ?_
  · intro m v hI
    simp (disch := omega) only [wpX7_isTurned_6, wpX7_isTurned_6b, z_basis hn, not_true_eq_false, not_false_eq_true, forall_const, true_implies, false_implies, implies_true, and_true, true_and, and_self, Nat.not_lt_zero, ne_eq, if_true, if_false, reduceIte, Nat.reduceAdd, Nat.reduceMul, Nat.reduceSub, Nat.reduceLT, Nat.reduceLeDiff, Nat.reduceEqDiff, Nat.add_sub_cancel, eq_self_iff_true, L_0, L_1, L_2, L_3, L_4, L_5, L_6, L_7, L_8, L_9, L_10, L_16, L_20, L_21, L_24, L_31, L_64, L_100, L_320, L_400, L_1000, L_256, nI_add, pk_mul, pk_sub, nI_clamp, vp_in_nI, nI_ge, nI_le, nI_lt, nI_nlt, qI_ne, qI_eq, qI_m1, q_all, qI_nm, qI_nm2]
    rw [hI]
    exact ⟨nb01 _, h _ _ _ _⟩
  · intro m i v hi hI hk
    simp (disch := omega) only [wpX7_isTurned_6, wpX7_isTurned_6b, z_basis hn, not_true_eq_false, not_false_eq_true, forall_const, true_implies, false_implies, implies_true, and_true, true_and, and_self, Nat.not_lt_zero, ne_eq, if_true, if_false, reduceIte, Nat.reduceAdd, Nat.reduceMul, Nat.reduceSub, Nat.reduceLT, Nat.reduceLeDiff, Nat.reduceEqDiff, Nat.add_sub_cancel, eq_self_iff_true, L_0, L_1, L_2, L_3, L_4, L_5, L_6, L_7, L_8, L_9, L_10, L_16, L_20, L_21, L_24, L_31, L_64, L_100, L_320, L_400, L_1000, L_256, nI_add, pk_mul, pk_sub, nI_clamp, vp_in_nI, nI_ge, nI_le, nI_lt, nI_nlt, qI_ne, qI_eq, qI_m1, q_all, qI_nm, qI_nm2]
    cases eP : allN P i with
    | false =>
      rw [eP] at hI
      rw [hI]
      refine ⟨fun _ => ⟨nb01 false, ?_⟩, fun h9 => absurd rfl h9⟩
      have e : trA n r (Ls s) (Ls t) = false := by
        cases e : trA n r (Ls s) (Ls t) with
        | false => rfl
        | true =>
          have h1 := allN_t.mp e
          have h2 : allN P i = true := allN_t.mpr (fun j hj => h1 j (by omega))
          rw [eP] at h2; exact absurd h2 (by decide)
      have h9 := h v.2.1 v.2.2.1 v.2.2.2.1 v.2.2.2.2
      rw [e] at h9; exact h9
    | true =>
      rw [eP] at hI
      rw [hI]
      refine ⟨fun h9 => absurd h9 (by decide), fun _ => ?_⟩
      refine m_both hn hM hs ht (by omega) hv hw (fun fs os A B hA hB => ?_)
      have hP : P i = allN (fun j => A j == twP r B j) (4 * 2 ^ n) := (ag_tr hA hB).symm
      refine pk_loop (σ := Int32 × (Nat → Int64)) (fun m9 q w => wpX7_isTurned_31 Q (wpX7_isTurned_6 Q (nI n) z k a b c m) (nI n) z k a b c m9 (nI s) (nI t) (nI r) w.1 (nI i) (nI q) fs os A w.2) (fun q w => (∀ x, 4 * q ≤ x → w.2 x = B x) ∧ w.1 = if allN (fun j => A j == twP r B j) (4 * q) then 1 else 0) (2 ^ n) 0 (1, B) (Nat.zero_le _) ⟨fun _ _ => rfl, rfl⟩ ?_ ?_
      · intro m9 w hw9
        simp (disch := omega) only [wpX7_isTurned_31, wpX7_isTurned_31b, z_basis hn, not_true_eq_false, not_false_eq_true, forall_const, true_implies, false_implies, implies_true, and_true, true_and, and_self, Nat.not_lt_zero, ne_eq, if_true, if_false, reduceIte, Nat.reduceAdd, Nat.reduceMul, Nat.reduceSub, Nat.reduceLT, Nat.reduceLeDiff, Nat.reduceEqDiff, Nat.add_sub_cancel, eq_self_iff_true, L_0, L_1, L_2, L_3, L_4, L_5, L_6, L_7, L_8, L_9, L_10, L_16, L_20, L_21, L_24, L_31, L_64, L_100, L_320, L_400, L_1000, L_256, nI_add, pk_mul, pk_sub, nI_clamp, vp_in_nI, nI_ge, nI_le, nI_lt, nI_nlt, qI_ne, qI_eq, qI_m1, q_all, qI_nm, qI_nm2]
        refine hk (w.1, fs, os, A, w.2) ?_
        show w.1 = if (allN P i && P i) = true then 1 else 0
        rw [eP, hP, hw9.2, Bool.true_and]
      · intro m9 q w hq hw9 hk9
        simp (disch := omega) only [wpX7_isTurned_31, wpX7_isTurned_31b, z_basis hn, not_true_eq_false, not_false_eq_true, forall_const, true_implies, false_implies, implies_true, and_true, true_and, and_self, Nat.not_lt_zero, ne_eq, if_true, if_false, reduceIte, Nat.reduceAdd, Nat.reduceMul, Nat.reduceSub, Nat.reduceLT, Nat.reduceLeDiff, Nat.reduceEqDiff, Nat.add_sub_cancel, eq_self_iff_true, L_0, L_1, L_2, L_3, L_4, L_5, L_6, L_7, L_8, L_9, L_10, L_16, L_20, L_21, L_24, L_31, L_64, L_100, L_320, L_400, L_1000, L_256, nI_add, pk_mul, pk_sub, nI_clamp, vp_in_nI, nI_ge, nI_le, nI_lt, nI_nlt, qI_ne, qI_eq, qI_m1, q_all, qI_nm, qI_nm2]
        refine mm_turn (by omega) hr8 ?_
        refine pk_loop (σ := Int32) (fun m8 p x => wpX7_isTurned_55 Q (wpX7_isTurned_6 Q (nI n) z k a b c m) (wpX7_isTurned_31 Q (wpX7_isTurned_6 Q (nI n) z k a b c m) (nI n) z k a b c m9) (nI n) z k a b c m8 (nI s) (nI t) (nI r) x (nI i) (nI q) (nI p) fs os A (tuV r q w.2)) (fun p x => x = if allN (fun j => A j == twP r B j) (4 * q + p) then 1 else 0) 4 0 w.1 (by omega) hw9.2 ?_ ?_
        · intro m8 x hx
          simp (disch := omega) only [wpX7_isTurned_55, wpX7_isTurned_55b, not_true_eq_false, not_false_eq_true, forall_const, true_implies, false_implies, implies_true, and_true, true_and, and_self, Nat.not_lt_zero, ne_eq, if_true, if_false, reduceIte, Nat.reduceAdd, Nat.reduceMul, Nat.reduceSub, Nat.reduceLT, Nat.reduceLeDiff, Nat.reduceEqDiff, Nat.add_sub_cancel, eq_self_iff_true, L_0, L_1, L_2, L_3, L_4, L_5, L_6, L_7, L_8, L_9, L_10, L_16, L_20, L_21, L_24, L_31, L_64, L_100, L_320, L_400, L_1000, L_256, nI_add, pk_mul, pk_sub, nI_clamp, vp_in_nI, nI_ge, nI_le, nI_lt, nI_nlt, qI_ne, qI_eq, qI_m1, q_all, qI_nm, qI_nm2]
          refine hk9 (x, tuV r q w.2) ⟨fun y hy => ?_, ?_⟩
          · show tuV r q w.2 y = B y
            rw [tu_ne (by omega)]; exact hw9.1 y (by omega)
          · show x = _
            rw [hx, show 4 * (q + 1) = 4 * q + 4 by omega]
        · intro m8 p x hp hx hk8
          simp (disch := omega) only [wpX7_isTurned_55, wpX7_isTurned_55b, not_true_eq_false, not_false_eq_true, forall_const, true_implies, false_implies, implies_true, and_true, true_and, and_self, Nat.not_lt_zero, ne_eq, if_true, if_false, reduceIte, Nat.reduceAdd, Nat.reduceMul, Nat.reduceSub, Nat.reduceLT, Nat.reduceLeDiff, Nat.reduceEqDiff, Nat.add_sub_cancel, eq_self_iff_true, L_0, L_1, L_2, L_3, L_4, L_5, L_6, L_7, L_8, L_9, L_10, L_16, L_20, L_21, L_24, L_31, L_64, L_100, L_320, L_400, L_1000, L_256, nI_add, pk_mul, pk_sub, nI_clamp, vp_in_nI, nI_ge, nI_le, nI_lt, nI_nlt, qI_ne, qI_eq, qI_m1, q_all, qI_nm, qI_nm2]
          have e1 : tuV r q w.2 (4 * q + p) = twP r B (4 * q + p) := by
            rw [tw_at _ hr8 hp]
            have hf : frN ((4 * q + p) % 4) r < 8 := Nat.mod_lt _ (by omega)
            unfold twP
            by_cases e : frN ((4 * q + p) % 4) r < 4
            · rw [if_pos e, if_pos e, hw9.1 _ (by omega)]
            · rw [if_neg e, if_neg e, hw9.1 _ (by omega)]
          have e2 : allN (fun j => A j == twP r B j) (4 * q + (p + 1)) = (allN (fun j => A j == twP r B j) (4 * q + p) && (A (4 * q + p) == twP r B (4 * q + p))) := rfl
          rw [e1, ← L_0, lg_cmp_eq]
          cases e3 : allN (fun j => A j == twP r B j) (4 * q + p) with
          | false =>
            rw [e3] at hx e2
            rw [hx]
            refine ⟨fun _ => hk8 0 ?_, fun h9 => absurd rfl h9⟩
            rw [e2]; rfl
          | true =>
            rw [e3] at hx e2
            rw [hx]
            refine ⟨fun h9 => absurd h9 (by decide), fun _ => ⟨fun h9 => hk8 1 ?_, fun h9 => hk8 0 ?_⟩⟩
            · rw [e2, h9]; simp
            · rw [e2]; simp [h9]
end
