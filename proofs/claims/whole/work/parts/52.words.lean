/-! The least form, the reference's side: the table of the words. -/
def FRt : List Nat := [0, 0, 0, 1, 2, 2, 3, 3, 4, 5, 5, 6, 7, 7, 8, 9, 11, 12, 14, 14, 15, 16, 16, 17]
def LTt : List Nat := [0, 1, 2, 2, 1, 2, 1, 2, 2, 1, 2, 2, 1, 2, 2, 2, 2, 2, 1, 2, 2, 1, 2, 2]
def CTt : List Nat := [1, 2, 3, 3, 4, 5, 6, 7, 8, 8, 9, 10, 11, 11, 12, 13, 14, 14, 15, 15, 16, 16, 16, 16, 17, 17, 18, 18, 18, 19, 20, 20, 21, 22, 23, 23, 24, 24, 24, 24, 24, 24, 24, 24, 24, 24, 24, 24, 24]
def DPt : List Nat := [0, 1, 1, 2, 2, 2, 3, 3, 3, 3, 3, 4, 4, 4, 4, 4, 5, 5, 5, 5, 5, 6, 6, 6]
def elN (j : Nat) : Nat := EL.getD j 0
def ctN (t : Nat) : Nat := CTt.getD t 0
def faN (k : Nat) : Nat := FRt.getD k 0
def ltN (k : Nat) : Nat := LTt.getD k 0
def dpN (k : Nat) : Nat := DPt.getD k 0
def upN : Nat → Nat → Nat
  | 0, j => j
  | n + 1, j => faN (upN n j)
def FT (c : Nat) (fx fz fr lt : Nat → Int32) : Prop := ∀ i, i < c → fx i = sI (elN i / 100) ∧ fz i = sI (elN i % 10) ∧ fr i = (if i = 0 then -1 else nI (faN i)) ∧ (0 < i → lt i = nI (ltN i))
theorem fw_ck : (List.range 48).all (fun t => decide (t / 2 < ctN t) && decide (ctN t ≤ 24) && decide (EL.idxOf (prN (rhN (t % 2 + 1)) (elN (t / 2))) < 24) && elN (EL.idxOf (prN (rhN (t % 2 + 1)) (elN (t / 2)))) == prN (rhN (t % 2 + 1)) (elN (t / 2)) && (if EL.idxOf (prN (rhN (t % 2 + 1)) (elN (t / 2))) < ctN t then ctN (t + 1) == ctN t else EL.idxOf (prN (rhN (t % 2 + 1)) (elN (t / 2))) == ctN t && decide (ctN t < 24) && ctN (t + 1) == ctN t + 1 && faN (ctN t) == t / 2 && ltN (ctN t) == t % 2 + 1)) = true := by decide +kernel
theorem fw_s {t : Nat} (ht : t < 48) : t / 2 < ctN t ∧ ctN t ≤ 24 ∧ ∃ p, p < 24 ∧ elN p = prN (rhN (t % 2 + 1)) (elN (t / 2)) ∧ (p < ctN t → ctN (t + 1) = ctN t) ∧ (¬ p < ctN t → p = ctN t ∧ ctN t < 24 ∧ ctN (t + 1) = ctN t + 1 ∧ faN (ctN t) = t / 2 ∧ ltN (ctN t) = t % 2 + 1) := by
  have h := List.all_eq_true.mp fw_ck t (List.mem_range.mpr ht)
  simp only [Bool.and_eq_true, decide_eq_true_eq, beq_iff_eq] at h
  obtain ⟨⟨⟨⟨h1, h2⟩, h3⟩, h4⟩, h5⟩ := h
  refine ⟨h1, h2, _, h3, h4, fun hp => ?_, fun hp => ?_⟩
  · rw [if_pos hp] at h5; simpa using h5
  · rw [if_neg hp] at h5
    simp only [Bool.and_eq_true, decide_eq_true_eq, beq_iff_eq] at h5
    obtain ⟨⟨⟨⟨k1, k2⟩, k3⟩, k4⟩, k5⟩ := h5
    exact ⟨k1, k2, k3, k4, k5⟩
theorem el_mem {j : Nat} (h : j < 24) : elN j ∈ EL := g_mem (by show j < 24; exact h)
theorem el_of {e : Nat} (h : e ∈ EL) : ∃ j, j < 24 ∧ elN j = e := g_of h
theorem el_ck : (List.range 24).all (fun j => (List.range 24).all (fun i => (sI (elN i / 100) == sI (elN j / 100) && sI (elN i % 10) == sI (elN j % 10)) == (i == j))) = true := by decide +kernel
theorem el_i {i j : Nat} (hi : i < 24) (hj : j < 24) : (sI (elN i / 100) = sI (elN j / 100) ∧ sI (elN i % 10) = sI (elN j % 10)) ↔ i = j := by
  have h := List.all_eq_true.mp (List.all_eq_true.mp el_ck j (List.mem_range.mpr hj)) i (List.mem_range.mpr hi)
  rw [beq_iff_eq, Bool.eq_iff_iff] at h
  simpa using h
theorem m_find {Q : Int32 → Prop} {c j : Nat} {fx fz fr lt : Nat → Int32} (hc : c ≤ 24) (hj : j < 24) (hF : FT c fx fz fr lt) (hq : Q (if j < c then nI j else -1)) : wpX7_findElement Q (sI (elN j / 100)) (sI (elN j % 10)) (nI c) fx fz := by
  unfold wpX7_findElement
  have key : ∀ i, i ≤ c → i ≤ j → ∃ n, wpX7_findElement_2 Q (nI c) fx fz n (sI (elN j / 100)) (sI (elN j % 10)) (nI i) := by
    intro i hi hij
    induction hd : c - i generalizing i with
    | zero =>
      refine ⟨1, ?_⟩
      have e : i = c := by omega
      subst e
      simp (disch := omega) only [wpX7_findElement_2, wpX7_findElement_2b, not_true_eq_false, not_false_eq_true, forall_const, true_implies, false_implies, implies_true, and_true, true_and, and_self, Nat.not_lt_zero, ne_eq, if_true, if_false, reduceIte, Nat.reduceAdd, Nat.reduceMul, Nat.reduceSub, Nat.reduceLT, Nat.reduceLeDiff, Nat.reduceEqDiff, Nat.add_sub_cancel, eq_self_iff_true, L_0, L_1, L_2, L_3, L_4, L_5, L_6, L_7, L_8, L_9, L_10, L_16, L_20, L_21, L_24, L_31, L_64, L_100, L_320, L_400, L_1000, L_256, nI_add, pk_mul, pk_sub, nI_clamp, vp_in_nI, nI_ge, nI_le, nI_lt, nI_nlt, qI_ne, qI_eq, qI_m1, q_all, qI_nm, qI_nm2]
      rw [if_neg (by omega)] at hq; exact hq
    | succ d ih =>
      obtain ⟨f1, f2, -⟩ := hF i (by omega)
      by_cases e : i = j
      · subst e
        refine ⟨1, ?_⟩
        rw [if_pos (by omega)] at hq
        simp (disch := omega) only [wpX7_findElement_2, wpX7_findElement_2b, f1, f2, not_true_eq_false, not_false_eq_true, forall_const, true_implies, false_implies, implies_true, and_true, true_and, and_self, Nat.not_lt_zero, ne_eq, if_true, if_false, reduceIte, Nat.reduceAdd, Nat.reduceMul, Nat.reduceSub, Nat.reduceLT, Nat.reduceLeDiff, Nat.reduceEqDiff, Nat.add_sub_cancel, eq_self_iff_true, L_0, L_1, L_2, L_3, L_4, L_5, L_6, L_7, L_8, L_9, L_10, L_16, L_20, L_21, L_24, L_31, L_64, L_100, L_320, L_400, L_1000, L_256, nI_add, pk_mul, pk_sub, nI_clamp, vp_in_nI, nI_ge, nI_le, nI_lt, nI_nlt, qI_ne, qI_eq, qI_m1, q_all, qI_nm, qI_nm2]
        exact hq
      · obtain ⟨n, hn⟩ := ih (i + 1) (by omega) (by omega) (by omega)
        refine ⟨n + 1, ?_⟩
        simp (disch := omega) only [wpX7_findElement_2, wpX7_findElement_2b, f1, not_true_eq_false, not_false_eq_true, forall_const, true_implies, false_implies, implies_true, and_true, true_and, and_self, Nat.not_lt_zero, ne_eq, if_true, if_false, reduceIte, Nat.reduceAdd, Nat.reduceMul, Nat.reduceSub, Nat.reduceLT, Nat.reduceLeDiff, Nat.reduceEqDiff, Nat.add_sub_cancel, eq_self_iff_true, L_0, L_1, L_2, L_3, L_4, L_5, L_6, L_7, L_8, L_9, L_10, L_16, L_20, L_21, L_24, L_31, L_64, L_100, L_320, L_400, L_1000, L_256, nI_add, pk_mul, pk_sub, nI_clamp, vp_in_nI, nI_ge, nI_le, nI_lt, nI_nlt, qI_ne, qI_eq, qI_m1, q_all, qI_nm, qI_nm2]
        refine ⟨fun h1 => ?_, fun _ => hn⟩
        rw [f2]
        refine ⟨fun h2 => absurd ((el_i (by omega) hj).mp ⟨h1, h2⟩) e, fun _ => hn⟩
  exact key 0 (Nat.zero_le _) (Nat.zero_le _)
abbrev MW : Type := Int32 × Int32 × Int32 × Int32 × Nat × (Nat → Int32) × (Nat → Int32) × (Nat → Int32) × (Nat → Int32)
theorem m_words {Q : (Int32) → (Int32) → (Int32) → (Int32) → (Int32) → (Nat → Int32) → (Nat → Int32) → (Nat → Int32) → (Nat → Int32) → Prop} {a b c d e : Int32} {fx fz fr lt : Nat → Int32} (hq : ∀ a b c d fx fz fr lt, FT 24 fx fz fr lt → Q a b c d (nI 24) fx fz fr lt) : wpX7_findWords Q a b c d e fx fz fr lt := by
  unfold wpX7_findWords
  simp (disch := omega) only [not_true_eq_false, not_false_eq_true, forall_const, true_implies, false_implies, implies_true, and_true, true_and, and_self, Nat.not_lt_zero, ne_eq, if_true, if_false, reduceIte, Nat.reduceAdd, Nat.reduceMul, Nat.reduceSub, Nat.reduceLT, Nat.reduceLeDiff, Nat.reduceEqDiff, Nat.add_sub_cancel, eq_self_iff_true, L_0, L_1, L_2, L_3, L_4, L_5, L_6, L_7, L_8, L_9, L_10, L_16, L_20, L_21, L_24, L_31, L_64, L_100, L_320, L_400, L_1000, L_256, nI_add, pk_mul, pk_sub, nI_clamp, vp_in_nI, nI_ge, nI_le, nI_lt, nI_nlt, qI_ne, qI_eq, qI_m1, q_all, qI_nm, qI_nm2]
  refine pk_loop (σ := MW) (fun n i s => wpX7_findWords_28 Q n (nI i) s.1 s.2.1 s.2.2.1 s.2.2.2.1 (nI s.2.2.2.2.1) s.2.2.2.2.2.1 s.2.2.2.2.2.2.1 s.2.2.2.2.2.2.2.1 s.2.2.2.2.2.2.2.2) (fun i s => s.2.2.2.2.1 = ctN (2 * i) ∧ FT s.2.2.2.2.1 s.2.2.2.2.2.1 s.2.2.2.2.2.2.1 s.2.2.2.2.2.2.2.1 s.2.2.2.2.2.2.2.2) 24 0 (a, b, c, d, 1, upd fx 0 (nI 1), upd fz 0 (nI 3), upd fr 0 (-nI 1), lt) (Nat.zero_le _) ⟨by show 1 = ctN 0; decide, fun i hi => ?_⟩ ?_ ?_
  · have e : i = 0 := by simp at hi; exact hi
    subst e
    simp only
    rw [pk_us, pk_us, pk_us]
    exact ⟨by decide, by decide, by decide, fun h => absurd h (by omega)⟩
  · intro n s hI
    obtain ⟨a, b, c, d, m, fx, fz, fr, lt⟩ := s
    obtain ⟨rfl, h2⟩ := hI
    have e : ctN (2 * 24) = 24 := by decide
    simp only [e] at h2 ⊢
    simp (disch := omega) only [wpX7_findWords_28, wpX7_findWords_28b, not_true_eq_false, not_false_eq_true, forall_const, true_implies, false_implies, implies_true, and_true, true_and, and_self, Nat.not_lt_zero, ne_eq, if_true, if_false, reduceIte, Nat.reduceAdd, Nat.reduceMul, Nat.reduceSub, Nat.reduceLT, Nat.reduceLeDiff, Nat.reduceEqDiff, Nat.add_sub_cancel, eq_self_iff_true, L_0, L_1, L_2, L_3, L_4, L_5, L_6, L_7, L_8, L_9, L_10, L_16, L_20, L_21, L_24, L_31, L_64, L_100, L_320, L_400, L_1000, L_256, nI_add, pk_mul, pk_sub, nI_clamp, vp_in_nI, nI_ge, nI_le, nI_lt, nI_nlt, qI_ne, qI_eq, qI_m1, q_all, qI_nm, qI_nm2]
    exact hq _ _ _ _ _ _ _ _ h2
  · intro n i s hi hI hk
    obtain ⟨a, b, c, d, m, fx, fz, fr, lt⟩ := s
    obtain ⟨h1, h2⟩ := hI
    simp only at h1 h2 ⊢
    have g1 := (fw_s (t := 2 * i) (by omega)).1
    have g2 := (fw_s (t := 2 * i) (by omega)).2.1
    simp (disch := omega) only [wpX7_findWords_28, wpX7_findWords_28b, not_true_eq_false, not_false_eq_true, forall_const, true_implies, false_implies, implies_true, and_true, true_and, and_self, Nat.not_lt_zero, ne_eq, if_true, if_false, reduceIte, Nat.reduceAdd, Nat.reduceMul, Nat.reduceSub, Nat.reduceLT, Nat.reduceLeDiff, Nat.reduceEqDiff, Nat.add_sub_cancel, eq_self_iff_true, L_0, L_1, L_2, L_3, L_4, L_5, L_6, L_7, L_8, L_9, L_10, L_16, L_20, L_21, L_24, L_31, L_64, L_100, L_320, L_400, L_1000, L_256, nI_add, pk_mul, pk_sub, nI_clamp, vp_in_nI, nI_ge, nI_le, nI_lt, nI_nlt, qI_ne, qI_eq, qI_m1, q_all, qI_nm, qI_nm2]
    refine pk_loop (σ := MW) (fun f x s => wpX7_findWords_38 Q (wpX7_findWords_28 Q n) f (nI i) (nI x) s.1 s.2.1 s.2.2.1 s.2.2.2.1 (nI s.2.2.2.2.1) s.2.2.2.2.2.1 s.2.2.2.2.2.2.1 s.2.2.2.2.2.2.2.1 s.2.2.2.2.2.2.2.2) (fun x s => 1 ≤ x ∧ s.2.2.2.2.1 = ctN (2 * i + (x - 1)) ∧ FT s.2.2.2.2.1 s.2.2.2.2.2.1 s.2.2.2.2.2.2.1 s.2.2.2.2.2.2.2.1 s.2.2.2.2.2.2.2.2) 3 1 (a, b, c, d, m, fx, fz, fr, lt) (by omega) ⟨by omega, h1, h2⟩ ?_ ?_
    · intro f s hI
      obtain ⟨a, b, c, d, m, fx, fz, fr, lt⟩ := s
      obtain ⟨-, h1, h2⟩ := hI
      simp only at h1 h2 ⊢
      simp (disch := omega) only [wpX7_findWords_38, wpX7_findWords_38b, not_true_eq_false, not_false_eq_true, forall_const, true_implies, false_implies, implies_true, and_true, true_and, and_self, Nat.not_lt_zero, ne_eq, if_true, if_false, reduceIte, Nat.reduceAdd, Nat.reduceMul, Nat.reduceSub, Nat.reduceLT, Nat.reduceLeDiff, Nat.reduceEqDiff, Nat.add_sub_cancel, eq_self_iff_true, L_0, L_1, L_2, L_3, L_4, L_5, L_6, L_7, L_8, L_9, L_10, L_16, L_20, L_21, L_24, L_31, L_64, L_100, L_320, L_400, L_1000, L_256, nI_add, pk_mul, pk_sub, nI_clamp, vp_in_nI, nI_ge, nI_le, nI_lt, nI_nlt, qI_ne, qI_eq, qI_m1, q_all, qI_nm, qI_nm2]
      exact hk (a, b, c, d, m, fx, fz, fr, lt) ⟨h1, h2⟩
    · intro f x s hx hI hk
      obtain ⟨a, b, c, d, m, fx, fz, fr, lt⟩ := s
      obtain ⟨x1, h1, h2⟩ := hI
      simp only at h1 h2 ⊢
      obtain ⟨t1, t2, p, p1, p2, p3, p4⟩ := fw_s (t := 2 * i + (x - 1)) (by omega)
      rw [show (2 * i + (x - 1)) / 2 = i by omega] at t1 p2 p4
      rw [show (2 * i + (x - 1)) % 2 + 1 = x by omega] at p2 p4
      rw [show 2 * i + (x - 1) + 1 = 2 * i + (x + 1 - 1) by omega] at p3 p4
      rw [← h1] at t1 t2 p3 p4
      obtain ⟨f1, f2, -⟩ := h2 i t1
      simp (disch := omega) only [wpX7_findWords_38, wpX7_findWords_38b, f1, f2, not_true_eq_false, not_false_eq_true, forall_const, true_implies, false_implies, implies_true, and_true, true_and, and_self, Nat.not_lt_zero, ne_eq, if_true, if_false, reduceIte, Nat.reduceAdd, Nat.reduceMul, Nat.reduceSub, Nat.reduceLT, Nat.reduceLeDiff, Nat.reduceEqDiff, Nat.add_sub_cancel, eq_self_iff_true, L_0, L_1, L_2, L_3, L_4, L_5, L_6, L_7, L_8, L_9, L_10, L_16, L_20, L_21, L_24, L_31, L_64, L_100, L_320, L_400, L_1000, L_256, nI_add, pk_mul, pk_sub, nI_clamp, vp_in_nI, nI_ge, nI_le, nI_lt, nI_nlt, qI_ne, qI_eq, qI_m1, q_all, qI_nm, qI_nm2]
      refine m_setL (by omega) ?_
      refine m_join (l := rhN x) (h := elN i) (q_e4.1 x (by omega)) (el_mem hi) ?_
      rw [← p2]
      refine m_find t2 p1 h2 ?_
      by_cases hp : p < m
      · rw [if_pos hp]
        simp (disch := omega) only [not_true_eq_false, not_false_eq_true, forall_const, true_implies, false_implies, implies_true, and_true, true_and, and_self, Nat.not_lt_zero, ne_eq, if_true, if_false, reduceIte, Nat.reduceAdd, Nat.reduceMul, Nat.reduceSub, Nat.reduceLT, Nat.reduceLeDiff, Nat.reduceEqDiff, Nat.add_sub_cancel, eq_self_iff_true, L_0, L_1, L_2, L_3, L_4, L_5, L_6, L_7, L_8, L_9, L_10, L_16, L_20, L_21, L_24, L_31, L_64, L_100, L_320, L_400, L_1000, L_256, nI_add, pk_mul, pk_sub, nI_clamp, vp_in_nI, nI_ge, nI_le, nI_lt, nI_nlt, qI_ne, qI_eq, qI_m1, q_all, qI_nm, qI_nm2]
        exact hk (_, _, _, _, m, fx, fz, fr, lt) ⟨by omega, (h1.trans (h1 ▸ (p3 hp).symm)), h2⟩
      · obtain ⟨r1, r2, r3, r4, r5⟩ := p4 hp
        rw [if_neg hp]
        refine ⟨fun h9 => absurd h9 (by decide), fun _ => ?_⟩
        simp (disch := omega) only [not_true_eq_false, not_false_eq_true, forall_const, true_implies, false_implies, implies_true, and_true, true_and, and_self, Nat.not_lt_zero, ne_eq, if_true, if_false, reduceIte, Nat.reduceAdd, Nat.reduceMul, Nat.reduceSub, Nat.reduceLT, Nat.reduceLeDiff, Nat.reduceEqDiff, Nat.add_sub_cancel, eq_self_iff_true, L_0, L_1, L_2, L_3, L_4, L_5, L_6, L_7, L_8, L_9, L_10, L_16, L_20, L_21, L_24, L_31, L_64, L_100, L_320, L_400, L_1000, L_256, nI_add, pk_mul, pk_sub, nI_clamp, vp_in_nI, nI_ge, nI_le, nI_lt, nI_nlt, qI_ne, qI_eq, qI_m1, q_all, qI_nm, qI_nm2]
        refine hk (_, _, _, _, m + 1, upd fx m _, upd fz m _, upd fr m (nI i), upd lt m (nI x)) ⟨by omega, r3.symm, fun j hj => ?_⟩
        simp only at hj ⊢
        by_cases ej : j = m
        · subst ej
          rw [pk_us, pk_us, pk_us, pk_us, r1, if_neg (by omega), r4, r5]
          exact ⟨rfl, rfl, rfl, fun _ => rfl⟩
        · rw [pk_un ej, pk_un ej, pk_un ej, pk_un ej]
          exact h2 j (by omega)
theorem pw_ck : (List.range 24).all (fun j => decide (dpN j ≤ 6) && (List.range 8).all (fun i => decide (dpN j < i) || decide (upN i j < 24) && (upN i j == 0) == (i == dpN j) && (i == dpN j || ltN (upN i j) == 1 || ltN (upN i j) == 2)) && (List.range (dpN j)).map (fun i => ltN (upN (dpN j - 1 - i) j)) == wdL (woN (elN j))) = true := by decide +kernel
theorem pw_s {j : Nat} (hj : j < 24) : dpN j ≤ 6 ∧ (∀ i, i ≤ dpN j → upN i j < 24 ∧ (upN i j = 0 ↔ i = dpN j) ∧ (i = dpN j ∨ ltN (upN i j) = 1 ∨ ltN (upN i j) = 2)) ∧ (List.range (dpN j)).map (fun i => ltN (upN (dpN j - 1 - i) j)) = wdL (woN (elN j)) := by
  have h := List.all_eq_true.mp pw_ck j (List.mem_range.mpr hj)
  simp only [Bool.and_eq_true, decide_eq_true_eq, beq_iff_eq, List.all_eq_true, List.mem_range] at h
  refine ⟨h.1.1, fun i hi => ?_, h.2⟩
  have h1 := h.1.2 i (by have := h.1.1; omega)
  simp only [Bool.or_eq_true, Bool.and_eq_true, decide_eq_true_eq, beq_iff_eq] at h1
  rcases h1 with h1 | h1
  · omega
  · obtain ⟨⟨a1, a2⟩, a3⟩ := h1
    refine ⟨a1, ?_, ?_⟩
    · rw [Bool.eq_iff_iff] at a2; simpa using a2
    · rcases a3 with (a3 | a3) | a3
      · exact Or.inl a3
      · exact Or.inr (Or.inl a3)
      · exact Or.inr (Or.inr a3)
theorem m_cnt {Q : Int32 → Prop} {P : Nat → Int32 → Int32 → Prop} {j : Nat} {fx fz fr lt : Nat → Int32} (hj : j < 24) (hF : FT 24 fx fz fr lt) (h0 : ∀ m x k, vp_in k 24 → fr k.toNatClampNeg < 0 → Q x → P (m + 1) x k) (h1 : ∀ m x k, vp_in k 24 → ¬ fr k.toNatClampNeg < 0 → P m (x + 1) (fr k.toNatClampNeg) → P (m + 1) x k) (hq : Q (nI (dpN j))) : ∃ n, P n 0 (nI j) := by
  obtain ⟨d6, hu, -⟩ := pw_s hj
  refine pk_loop (σ := Unit) (fun m i s => P m (nI i) (nI (upN i j))) (fun i s => True) (dpN j) 0 () (Nat.zero_le _) trivial ?_ ?_
  · intro m s hI
    obtain ⟨u1, u2, -⟩ := hu (dpN j) (Nat.le_refl _)
    refine h0 m _ _ (vp_in_nI (by omega) (by omega)) ?_ hq
    rw [nI_clamp (by omega), (hF _ u1).2.2.1, if_pos (u2.mpr rfl)]; decide
  · intro m i s hi hI hk
    obtain ⟨u1, u2, -⟩ := hu i (by omega)
    have e : fr (nI (upN i j)).toNatClampNeg = nI (upN (i + 1) j) := by
      rw [nI_clamp (by omega), (hF _ u1).2.2.1, if_neg (fun h => by have := u2.mp h; omega)]; rfl
    have u3 := (hu (i + 1) (by omega)).1
    refine h1 m _ _ (vp_in_nI (by omega) (by omega)) ?_ ?_
    · rw [e, L_0]; exact nI_nlt (by omega) (by omega)
    · rw [e]
      simp (disch := omega) only [not_true_eq_false, not_false_eq_true, forall_const, true_implies, false_implies, implies_true, and_true, true_and, and_self, Nat.not_lt_zero, ne_eq, if_true, if_false, reduceIte, Nat.reduceAdd, Nat.reduceMul, Nat.reduceSub, Nat.reduceLT, Nat.reduceLeDiff, Nat.reduceEqDiff, Nat.add_sub_cancel, eq_self_iff_true, L_0, L_1, L_2, L_3, L_4, L_5, L_6, L_7, L_8, L_9, L_10, L_16, L_20, L_21, L_24, L_31, L_64, L_100, L_320, L_400, L_1000, L_256, nI_add, pk_mul, pk_sub, nI_clamp, vp_in_nI, nI_ge, nI_le, nI_lt, nI_nlt, qI_ne, qI_eq, qI_m1, q_all, qI_nm, qI_nm2]
      exact hk () trivial
theorem m_putWord {Q : (Nat → Int32) → (Nat → Int32) → (Nat → Int32) → (Nat → Int32) → (Nat → Int32) → Prop} {j w : Nat} {fx fz fr lt z k a b c : Nat → Int32} {Ls : Nat → List Nat} (hj : j < 24) (hw : w < 10) (hF : FT 24 fx fz fr lt) (hM : MM z k a b c Ls) (h3 : Ls 3 = []) (hq : ∀ z k a b c, MM z k a b c (upS Ls 3 ((wdL (woN (elN j))).map (fun k => gi k w))) → Q z k a b c) : wpX7_putWord Q (nI j) (nI w) fr lt z k a b c := by
  obtain ⟨d6, hu, hwd⟩ := pw_s hj
  unfold wpX7_putWord
  refine m_cnt (Q := fun x => wpX7_putWord_30 Q fr lt (nI j) (nI w) x z k a b c) (P := fun n x y => wpX7_putWord_5 Q fr lt n (nI j) (nI w) x y z k a b c) hj hF (fun m x y h1 h2 h => ⟨h1, fun _ => h, fun h9 => absurd h2 h9⟩) (fun m x y h1 h2 h => ⟨h1, fun h9 => absurd h9 h2, fun _ => ⟨h1, h⟩⟩) ?_
  unfold wpX7_putWord_30
  rw [← hwd] at hq
  rw [L_1]
  refine ⟨dpN j + 1, ?_⟩
  refine pk_loopD (σ := M5) (fun n i m => wpX7_putWord_35 Q fr lt n (nI j) (nI w) (nI i - nI 1) m.1 m.2.1 m.2.2.1 m.2.2.2.1 m.2.2.2.2) (fun i m => i ≤ dpN j ∧ MM m.1 m.2.1 m.2.2.1 m.2.2.2.1 m.2.2.2.2 (upS Ls 3 (((List.range (dpN j - i)).map (fun i => ltN (upN (dpN j - 1 - i) j))).map (fun k => gi k w)))) ?_ ?_ (dpN j) (z, k, a, b, c) ⟨Nat.le_refl _, by rw [Nat.sub_self]; show MM z k a b c (upS Ls 3 []); rw [upS_i h3]; exact hM⟩
  · intro m s hI
    refine ⟨fun _ => hq _ _ _ _ _ ?_, fun h9 => absurd neg0 h9⟩
    exact hI.2
  · intro m i s hI hk
    obtain ⟨hi, hI⟩ := hI
    obtain ⟨u1, u2, u3⟩ := hu i (by omega)
    show wpX7_putWord_35b _ _ _ _ _ _ _ _ _ _ _ _
    unfold wpX7_putWord_35b
    rw [sub1]
    refine ⟨fun h9 => absurd h9 (nI_nlt (b := 0) (by omega) (by omega)), fun _ => ?_⟩
    refine pk_loop (σ := Unit) (fun n x _ => wpX7_putWord_46 Q (wpX7_putWord_35 Q fr lt m) fr lt n (nI j) (nI w) (nI i) (nI (upN x j)) (nI x) s.1 s.2.1 s.2.2.1 s.2.2.2.1 s.2.2.2.2) (fun _ _ => True) i 0 () (Nat.zero_le _) trivial ?_ ?_
    · intro n _ _
      have hlt : lt (upN i j) = nI (ltN (upN i j)) := (hF _ u1).2.2.2 (by have := u2; omega)
      simp (disch := omega) only [wpX7_putWord_46, wpX7_putWord_46b, wpX7_putWord_68, hlt, not_true_eq_false, not_false_eq_true, forall_const, true_implies, false_implies, implies_true, and_true, true_and, and_self, Nat.not_lt_zero, ne_eq, if_true, if_false, reduceIte, Nat.reduceAdd, Nat.reduceMul, Nat.reduceSub, Nat.reduceLT, Nat.reduceLeDiff, Nat.reduceEqDiff, Nat.add_sub_cancel, eq_self_iff_true, L_0, L_1, L_2, L_3, L_4, L_5, L_6, L_7, L_8, L_9, L_10, L_16, L_20, L_21, L_24, L_31, L_64, L_100, L_320, L_400, L_1000, L_256, nI_add, pk_mul, pk_sub, nI_clamp, vp_in_nI, nI_ge, nI_le, nI_lt, nI_nlt, qI_ne, qI_eq, qI_m1, q_all, qI_nm, qI_nm2]
      refine m_putI hI (s := 3) (x := ltN (upN i j)) (w := w) (by omega) (by rw [upS_s]; simp; omega) (by omega) hw (fun z k a b c h' => ?_)
      rw [m1s]
      refine hk (z, k, a, b, c) ⟨by omega, ?_⟩
      rw [upS_s, upS_u] at h'
      rw [show dpN j - i = (dpN j - (i + 1)) + 1 by omega, List.range_succ, List.map_append, List.map_append]
      rw [show ([dpN j - (i + 1)].map (fun i => ltN (upN (dpN j - 1 - i) j))).map (fun k => gi k w) = [gi (ltN (upN (dpN j - 1 - (dpN j - (i + 1))) j)) w] from rfl, show dpN j - 1 - (dpN j - (i + 1)) = i by omega]
      exact h'
    · intro n x _ hx _ hk2
      obtain ⟨v1, v2, -⟩ := hu x (by omega)
      have hfr : fr (upN x j) = nI (upN (x + 1) j) := by rw [(hF _ v1).2.2.1, if_neg (by omega)]; rfl
      simp (disch := omega) only [wpX7_putWord_46, wpX7_putWord_46b, hfr, not_true_eq_false, not_false_eq_true, forall_const, true_implies, false_implies, implies_true, and_true, true_and, and_self, Nat.not_lt_zero, ne_eq, if_true, if_false, reduceIte, Nat.reduceAdd, Nat.reduceMul, Nat.reduceSub, Nat.reduceLT, Nat.reduceLeDiff, Nat.reduceEqDiff, Nat.add_sub_cancel, eq_self_iff_true, L_0, L_1, L_2, L_3, L_4, L_5, L_6, L_7, L_8, L_9, L_10, L_16, L_20, L_21, L_24, L_31, L_64, L_100, L_320, L_400, L_1000, L_256, nI_add, pk_mul, pk_sub, nI_clamp, vp_in_nI, nI_ge, nI_le, nI_lt, nI_nlt, qI_ne, qI_eq, qI_m1, q_all, qI_nm, qI_nm2]
      exact hk2 () trivial
