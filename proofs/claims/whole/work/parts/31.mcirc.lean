/-! The reference's circuits: copying, inverse, expanding. -/
section
variable {z k a b c : Nat → Int32} {Ls : Nat → List Nat}
abbrev QM : Type := (Nat → Int32) → (Nat → Int32) → (Nat → Int32) → (Nat → Int32) → (Nat → Int32) → Prop
theorem m_append {Q : Int32 → Int32 → (Nat → Int32) → (Nat → Int32) → (Nat → Int32) → (Nat → Int32) → (Nat → Int32) → Prop} {ft : Int32} (hM : MM z k a b c Ls) {s t : Nat} (hs : s < 3) (ht : t < 3)
    (h1 : 64 < (Ls s).length + (Ls t).length → Q 0 2 z k a b c)
    (h0 : (Ls s).length + (Ls t).length ≤ 64 → ∀ z k a b c, MM z k a b c (upS Ls s (Ls s ++ Ls t)) → Q (nI (Ls s ++ Ls t).length) 0 z k a b c) : wpX7_append Q (nI s) (nI t) ft z k a b c := by
  obtain ⟨es, hls, -⟩ := hM s (by omega)
  obtain ⟨et, hlt, -⟩ := hM t (by omega)
  unfold wpX7_append
  rw [slot_t hs, slot_t ht]
  simp (disch := omega) only [es, et, not_true_eq_false, not_false_eq_true, forall_const, true_implies, false_implies, implies_true, and_true, true_and, and_self, Nat.not_lt_zero, ne_eq, if_true, if_false, reduceIte, Nat.reduceAdd, Nat.reduceMul, Nat.reduceSub, Nat.reduceLT, Nat.reduceLeDiff, Nat.reduceEqDiff, Nat.add_sub_cancel, eq_self_iff_true, L_0, L_1, L_2, L_3, L_4, L_5, L_6, L_7, L_8, L_9, L_10, L_16, L_20, L_21, L_24, L_31, L_64, L_100, L_320, L_400, L_1000, L_256, nI_add, pk_mul, pk_sub, nI_clamp, vp_in_nI, nI_ge, nI_le, nI_lt, nI_nlt, qI_ne, qI_eq, qI_m1, q_all, qI_nm, qI_nm2]
  rw [nI_leI (by omega) (by omega)]
  refine ⟨fun h9 => ?_, fun h9 => ?_⟩
  · simp (disch := omega) only [wpX7_append_42, et, not_true_eq_false, not_false_eq_true, forall_const, true_implies, false_implies, implies_true, and_true, true_and, and_self, Nat.not_lt_zero, ne_eq, if_true, if_false, reduceIte, Nat.reduceAdd, Nat.reduceMul, Nat.reduceSub, Nat.reduceLT, Nat.reduceLeDiff, Nat.reduceEqDiff, Nat.add_sub_cancel, eq_self_iff_true, L_0, L_1, L_2, L_3, L_4, L_5, L_6, L_7, L_8, L_9, L_10, L_16, L_20, L_21, L_24, L_31, L_64, L_100, L_320, L_400, L_1000, L_256, nI_add, pk_mul, pk_sub, nI_clamp, vp_in_nI, nI_ge, nI_le, nI_lt, nI_nlt, qI_ne, qI_eq, qI_m1, q_all, qI_nm, qI_nm2]
    refine pk_loop (σ := M5) (fun n i m => wpX7_append_64 Q n (nI s) (nI t) (nI (Ls t).length) (nI i) (nI 0) m.1 m.2.1 m.2.2.1 m.2.2.2.1 m.2.2.2.2) (fun i m => MM m.1 m.2.1 m.2.2.1 m.2.2.2.1 m.2.2.2.2 (upS Ls s (Ls s ++ (Ls t).take i))) (Ls t).length 0 (z, k, a, b, c) (Nat.zero_le _) (by rw [List.take_zero, List.append_nil, upS_i rfl]; exact hM) ?_ ?_
    · intro n m hI
      have e := (hI s (by omega)).1
      rw [upS_s] at e
      simp (disch := omega) only [wpX7_append_64, wpX7_append_64b, e, not_true_eq_false, not_false_eq_true, forall_const, true_implies, false_implies, implies_true, and_true, true_and, and_self, Nat.not_lt_zero, ne_eq, if_true, if_false, reduceIte, Nat.reduceAdd, Nat.reduceMul, Nat.reduceSub, Nat.reduceLT, Nat.reduceLeDiff, Nat.reduceEqDiff, Nat.add_sub_cancel, eq_self_iff_true, L_0, L_1, L_2, L_3, L_4, L_5, L_6, L_7, L_8, L_9, L_10, L_16, L_20, L_21, L_24, L_31, L_64, L_100, L_320, L_400, L_1000, L_256, nI_add, pk_mul, pk_sub, nI_clamp, vp_in_nI, nI_ge, nI_le, nI_lt, nI_nlt, qI_ne, qI_eq, qI_m1, q_all, qI_nm, qI_nm2]
      rw [List.take_length] at hI ⊢
      exact h0 h9 _ _ _ _ _ hI
    · intro n i m hi hI hk
      simp (disch := omega) only [wpX7_append_64, wpX7_append_64b, not_true_eq_false, not_false_eq_true, forall_const, true_implies, false_implies, implies_true, and_true, true_and, and_self, Nat.not_lt_zero, ne_eq, if_true, if_false, reduceIte, Nat.reduceAdd, Nat.reduceMul, Nat.reduceSub, Nat.reduceLT, Nat.reduceLeDiff, Nat.reduceEqDiff, Nat.add_sub_cancel, eq_self_iff_true, L_0, L_1, L_2, L_3, L_4, L_5, L_6, L_7, L_8, L_9, L_10, L_16, L_20, L_21, L_24, L_31, L_64, L_100, L_320, L_400, L_1000, L_256, nI_add, pk_mul, pk_sub, nI_clamp, vp_in_nI, nI_ge, nI_le, nI_lt, nI_nlt, qI_ne, qI_eq, qI_m1, q_all, qI_nm, qI_nm2]
      refine m_copyGate hI (i := i) (s := s) (t := t) (by omega) (by omega) ?_ (by rw [upS_s]; simp; omega) (fun z k a b c h' => hk (z, k, a, b, c) ?_)
      · by_cases e : t = s
        · rw [e, upS_s]; simp; rw [e] at hi; omega
        · rw [upS_n e]; exact hi
      · have eg : (upS Ls s (Ls s ++ (Ls t).take i) t).getD i 0 = (Ls t).getD i 0 := by
          by_cases e : t = s
          · subst e; rw [upS_s, g_lo hi]
          · rw [upS_n e]
        rw [eg, upS_s, upS_u, List.append_assoc, ← g_take (d := 0) hi] at h'
        exact h'
  · simp (disch := omega) only [wpX7_append_42, not_true_eq_false, not_false_eq_true, forall_const, true_implies, false_implies, implies_true, and_true, true_and, and_self, Nat.not_lt_zero, ne_eq, if_true, if_false, reduceIte, Nat.reduceAdd, Nat.reduceMul, Nat.reduceSub, Nat.reduceLT, Nat.reduceLeDiff, Nat.reduceEqDiff, Nat.add_sub_cancel, eq_self_iff_true, L_0, L_1, L_2, L_3, L_4, L_5, L_6, L_7, L_8, L_9, L_10, L_16, L_20, L_21, L_24, L_31, L_64, L_100, L_320, L_400, L_1000, L_256, nI_add, pk_mul, pk_sub, nI_clamp, vp_in_nI, nI_ge, nI_le, nI_lt, nI_nlt, qI_ne, qI_eq, qI_m1, q_all, qI_nm, qI_nm2]
    exact h1 (by omega)
theorem gv1 {n g : Nat} (h : gv n g = true) (hk : kN g < 6) : g = gi (kN g) (aN g) := by
  have e := gv_e h; rw [if_pos hk] at e; exact e
theorem m_inverse {Q : Int32 → Int32 → (Nat → Int32) → (Nat → Int32) → (Nat → Int32) → (Nat → Int32) → (Nat → Int32) → Prop} {ft : Int32} (hM : MM z k a b c Ls) {s : Nat} (hs : s < 3) (hv : ∀ x ∈ Ls s, gv 4 x = true)
    (h1 : 64 < (invL (Ls s)).length → Q 0 2 z k a b c)
    (h0 : (invL (Ls s)).length ≤ 64 → ∀ z k a b c, MM z k a b c (upS (upS Ls 3 (invL (Ls s))) s (invL (Ls s))) → Q (nI (invL (Ls s)).length) 0 z k a b c) : wpX7_inverse Q (nI s) ft z k a b c := by
  obtain ⟨es, hls, hgs⟩ := hM s (by omega)
  unfold wpX7_inverse
  rw [slot_t hs]
  refine ⟨fun h9 => absurd h9 (by decide), fun _ => ?_⟩
  simp (disch := omega) only [wpX7_inverse_13, not_true_eq_false, not_false_eq_true, forall_const, true_implies, false_implies, implies_true, and_true, true_and, and_self, Nat.not_lt_zero, ne_eq, if_true, if_false, reduceIte, Nat.reduceAdd, Nat.reduceMul, Nat.reduceSub, Nat.reduceLT, Nat.reduceLeDiff, Nat.reduceEqDiff, Nat.add_sub_cancel, eq_self_iff_true, L_0, L_1, L_2, L_3, L_4, L_5, L_6, L_7, L_8, L_9, L_10, L_16, L_20, L_21, L_24, L_31, L_64, L_100, L_320, L_400, L_1000, L_256, nI_add, pk_mul, pk_sub, nI_clamp, vp_in_nI, nI_ge, nI_le, nI_lt, nI_nlt, qI_ne, qI_eq, qI_m1, q_all, qI_nm, qI_nm2]
  have hsum : (invL (Ls s)).length = ((Ls s).flatMap invG).length := by rw [invL_len, invG_len]
  refine pk_loop (σ := Nat) (fun n i m => wpX7_inverse_29 Q n (nI s) (nI m) (nI i) (nI 0) z k a b c) (fun i m => m = (((Ls s).take i).flatMap invG).length) (Ls s).length 0 0 (Nat.zero_le _) rfl ?_ ?_
  · intro n m hI
    rw [List.take_length, ← hsum] at hI
    subst hI
    have hb : (invL (Ls s)).length < 1000 := by
      rw [invL_len]
      have c1 := List.countP_le_length (p := fun g => decide (g % 10 = 2)) (l := Ls s)
      have c2 := List.countP_le_length (p := fun g => decide (g % 10 = 3)) (l := Ls s)
      omega
    simp (disch := omega) only [wpX7_inverse_29, wpX7_inverse_29b, es, wpX7_inverse_82, not_true_eq_false, not_false_eq_true, forall_const, true_implies, false_implies, implies_true, and_true, true_and, and_self, Nat.not_lt_zero, ne_eq, if_true, if_false, reduceIte, Nat.reduceAdd, Nat.reduceMul, Nat.reduceSub, Nat.reduceLT, Nat.reduceLeDiff, Nat.reduceEqDiff, Nat.add_sub_cancel, eq_self_iff_true, L_0, L_1, L_2, L_3, L_4, L_5, L_6, L_7, L_8, L_9, L_10, L_16, L_20, L_21, L_24, L_31, L_64, L_100, L_320, L_400, L_1000, L_256, nI_add, pk_mul, pk_sub, nI_clamp, vp_in_nI, nI_ge, nI_le, nI_lt, nI_nlt, qI_ne, qI_eq, qI_m1, q_all, qI_nm, qI_nm2]
    rw [nI_leI (by omega) (by omega)]
    refine ⟨fun h9 => ?_, fun h9 => h1 (by omega)⟩
    have h0 := h0 h9
    have hs3 : s ≠ 3 := by omega
    rw [pk_un hs3, es]
    have hcut : ∀ i, (((Ls s).drop i).reverse.flatMap invG).length ≤ 64 := fun i => by
      have e : invL (Ls s) = ((Ls s).drop i).reverse.flatMap invG ++ ((Ls s).take i).reverse.flatMap invG := by
        unfold invL
        conv => lhs; rw [← List.take_append_drop i (Ls s)]
        rw [List.reverse_append, List.flatMap_append]
      rw [e, List.length_append] at h9
      omega
    refine ⟨(Ls s).length + 1, ?_⟩
    refine pk_loopD (σ := M5) (fun n i m => wpX7_inverse_111 Q n (nI s) (nI i - nI 1) (nI 0) m.1 m.2.1 m.2.2.1 m.2.2.2.1 m.2.2.2.2) (fun i m => i ≤ (Ls s).length ∧ MM m.1 m.2.1 m.2.2.1 m.2.2.2.1 m.2.2.2.2 (upS Ls 3 (((Ls s).drop i).reverse.flatMap invG))) ?_ ?_ (Ls s).length (upd z 3 (nI 0), k, a, b, c) ⟨Nat.le_refl _, by simp only [List.drop_length, List.reverse_nil, List.flatMap_nil]; exact MM_z hM (by omega)⟩
    · intro n m hI
      simp (disch := omega) only [wpX7_inverse_111, wpX7_inverse_111b, neg0, wpX7_inverse_199, not_true_eq_false, not_false_eq_true, forall_const, true_implies, false_implies, implies_true, and_true, true_and, and_self, Nat.not_lt_zero, ne_eq, if_true, if_false, reduceIte, Nat.reduceAdd, Nat.reduceMul, Nat.reduceSub, Nat.reduceLT, Nat.reduceLeDiff, Nat.reduceEqDiff, Nat.add_sub_cancel, eq_self_iff_true, L_0, L_1, L_2, L_3, L_4, L_5, L_6, L_7, L_8, L_9, L_10, L_16, L_20, L_21, L_24, L_31, L_64, L_100, L_320, L_400, L_1000, L_256, nI_add, pk_mul, pk_sub, nI_clamp, vp_in_nI, nI_ge, nI_le, nI_lt, nI_nlt, qI_ne, qI_eq, qI_m1, q_all, qI_nm, qI_nm2]
      have hI2 := hI.2
      rw [List.drop_zero] at hI2
      refine m_copy hI2 (s := 3) (t := s) (by omega) (by omega) (by omega) (fun z k a b c h' => ?_)
      rw [upS_s] at h'
      have e := (h' s (by omega)).1
      rw [upS_s] at e
      rw [e]
      exact h0 _ _ _ _ _ h'
    · intro n i m hI hk
      obtain ⟨hi, hI⟩ := hI
      obtain ⟨g1, -⟩ := hgs i (by omega)
      have hgv := hv _ (g_mem (d := 0) (show i < (Ls s).length by omega))
      have k1 := kN_lt ((Ls s).getD i 0); have a1 := aN_lt ((Ls s).getD i 0)
      have hcu := hcut i
      have e : ((Ls s).drop i).reverse.flatMap invG = ((Ls s).drop (i + 1)).reverse.flatMap invG ++ invG ((Ls s).getD i 0) := by
        rw [drop_c (show i < (Ls s).length by omega), List.reverse_cons, List.flatMap_append]; simp
      rw [e] at hk hcu
      rw [List.length_append] at hcu
      have him : ∀ z k a b c X, MM z k a b c (upS Ls 3 X) → k (64 * s + i) = nI (kN ((Ls s).getD i 0)) ∧ a (64 * s + i) = nI (aN ((Ls s).getD i 0)) := fun z k a b c X h' => by
        have h8 := (h' s (by omega)).2.2 i (by rw [upS_n hs3]; omega)
        rw [upS_n hs3] at h8
        exact ⟨h8.2.1, h8.2.2.1⟩
      simp (disch := omega) only [wpX7_inverse_111, wpX7_inverse_111b, sub1, q_all, not_true_eq_false, not_false_eq_true, forall_const, true_implies, false_implies, implies_true, and_true, true_and, and_self, Nat.not_lt_zero, ne_eq, if_true, if_false, reduceIte, Nat.reduceAdd, Nat.reduceMul, Nat.reduceSub, Nat.reduceLT, Nat.reduceLeDiff, Nat.reduceEqDiff, Nat.add_sub_cancel, eq_self_iff_true, L_0, L_1, L_2, L_3, L_4, L_5, L_6, L_7, L_8, L_9, L_10, L_16, L_20, L_21, L_24, L_31, L_64, L_100, L_320, L_400, L_1000, L_256, nI_add, pk_mul, pk_sub, nI_clamp, vp_in_nI, nI_ge, nI_le, nI_lt, nI_nlt, qI_ne, qI_eq, qI_m1, q_all, qI_nm, qI_nm2]
      refine m_copyGate hI (i := i) (s := 3) (t := s) (by omega) (by omega) (by rw [upS_n hs3]; omega) ?_ (fun z1 k1 a1 b1 c1 hA => ?_)
      · rw [upS_s]
        have : 1 ≤ (invG ((Ls s).getD i 0)).length := by unfold invG; split <;> simp; split <;> simp
        omega
      · rw [upS_s, upS_u, upS_n hs3] at hA
        obtain ⟨f1, f2⟩ := him _ _ _ _ _ _ hA
        simp (disch := omega) only [f1, f2, not_true_eq_false, not_false_eq_true, forall_const, true_implies, false_implies, implies_true, and_true, true_and, and_self, Nat.not_lt_zero, ne_eq, if_true, if_false, reduceIte, Nat.reduceAdd, Nat.reduceMul, Nat.reduceSub, Nat.reduceLT, Nat.reduceLeDiff, Nat.reduceEqDiff, Nat.add_sub_cancel, eq_self_iff_true, L_0, L_1, L_2, L_3, L_4, L_5, L_6, L_7, L_8, L_9, L_10, L_16, L_20, L_21, L_24, L_31, L_64, L_100, L_320, L_400, L_1000, L_256, nI_add, pk_mul, pk_sub, nI_clamp, vp_in_nI, nI_ge, nI_le, nI_lt, nI_nlt, qI_ne, qI_eq, qI_m1, q_all, qI_nm, qI_nm2]
        by_cases e3 : kN ((Ls s).getD i 0) = 3
        · have ei : invG ((Ls s).getD i 0) = [(Ls s).getD i 0, gi 2 (aN ((Ls s).getD i 0)), gi 5 (aN ((Ls s).getD i 0))] := by
            have := gv1 hgv (by omega)
            unfold invG; rw [if_pos e3]; rw [e3] at this; rw [← this]
          rw [ei] at hk hcu
          simp only [List.length_cons, List.length_nil] at hcu
          rw [e3]
          refine ⟨fun _ => ?_, fun h8 => absurd rfl h8⟩
          refine m_putI (x := 2) hA (by omega) (by rw [upS_s]; simp only [List.length_append, List.length_cons, List.length_nil]; omega) (by omega) (by omega) (fun z2 k2 a2 b2 c2 hB => ?_)
          rw [upS_s, upS_u] at hB
          obtain ⟨f3, f4⟩ := him _ _ _ _ _ _ hB
          simp (disch := omega) only [wpX7_inverse_156, wpX7_inverse_178, f3, f4, not_true_eq_false, not_false_eq_true, forall_const, true_implies, false_implies, implies_true, and_true, true_and, and_self, Nat.not_lt_zero, ne_eq, if_true, if_false, reduceIte, Nat.reduceAdd, Nat.reduceMul, Nat.reduceSub, Nat.reduceLT, Nat.reduceLeDiff, Nat.reduceEqDiff, Nat.add_sub_cancel, eq_self_iff_true, L_0, L_1, L_2, L_3, L_4, L_5, L_6, L_7, L_8, L_9, L_10, L_16, L_20, L_21, L_24, L_31, L_64, L_100, L_320, L_400, L_1000, L_256, nI_add, pk_mul, pk_sub, nI_clamp, vp_in_nI, nI_ge, nI_le, nI_lt, nI_nlt, qI_ne, qI_eq, qI_m1, q_all, qI_nm, qI_nm2]
          refine m_putI (x := 5) hB (by omega) (by rw [upS_s]; simp only [List.length_append, List.length_cons, List.length_nil]; omega) (by omega) (by omega) (fun z3 k3 a3 b3 c3 hC => ?_)
          rw [upS_s, upS_u] at hC
          rw [m1s]
          exact hk (z3, k3, a3, b3, c3) ⟨by omega, by simpa using hC⟩
        · have n3 : ¬ nI (kN ((Ls s).getD i 0)) = nI 3 := qI_ne (by omega) (by omega) e3
          refine ⟨fun h8 => absurd h8 n3, fun _ => ?_⟩
          simp (disch := omega) only [wpX7_inverse_156, wpX7_inverse_178, f1, f2, not_true_eq_false, not_false_eq_true, forall_const, true_implies, false_implies, implies_true, and_true, true_and, and_self, Nat.not_lt_zero, ne_eq, if_true, if_false, reduceIte, Nat.reduceAdd, Nat.reduceMul, Nat.reduceSub, Nat.reduceLT, Nat.reduceLeDiff, Nat.reduceEqDiff, Nat.add_sub_cancel, eq_self_iff_true, L_0, L_1, L_2, L_3, L_4, L_5, L_6, L_7, L_8, L_9, L_10, L_16, L_20, L_21, L_24, L_31, L_64, L_100, L_320, L_400, L_1000, L_256, nI_add, pk_mul, pk_sub, nI_clamp, vp_in_nI, nI_ge, nI_le, nI_lt, nI_nlt, qI_ne, qI_eq, qI_m1, q_all, qI_nm, qI_nm2]
          by_cases e2 : kN ((Ls s).getD i 0) = 2
          · have ei : invG ((Ls s).getD i 0) = [(Ls s).getD i 0, gi 5 (aN ((Ls s).getD i 0))] := by unfold invG; rw [if_neg e3, if_pos e2]
            rw [ei] at hk hcu
            simp only [List.length_cons, List.length_nil] at hcu
            rw [e2]
            refine ⟨fun _ => ?_, fun h8 => absurd rfl h8⟩
            refine m_putI (x := 5) hA (by omega) (by rw [upS_s]; simp only [List.length_append, List.length_cons, List.length_nil]; omega) (by omega) (by omega) (fun z3 k3 a3 b3 c3 hC => ?_)
            rw [upS_s, upS_u] at hC
            rw [m1s]
            exact hk (z3, k3, a3, b3, c3) ⟨by omega, by simpa using hC⟩
          · have ei : invG ((Ls s).getD i 0) = [(Ls s).getD i 0] := by unfold invG; rw [if_neg e3, if_neg e2]
            rw [ei] at hk
            refine ⟨fun h8 => absurd h8 (qI_ne (by omega) (by omega) e2), fun _ => ?_⟩
            rw [m1s]
            exact hk (z1, k1, a1, b1, c1) ⟨by omega, hA⟩
  · intro n i m hi hI hk
    obtain ⟨g1, g2, g3, -⟩ := hgs i hi
    have k1 := kN_lt ((Ls s).getD i 0)
    have hm : m < 1000 := by
      rw [hI, invG_len]
      have c1 := List.countP_le_length (p := fun g => decide (g % 10 = 2)) (l := (Ls s).take i)
      have c2 := List.countP_le_length (p := fun g => decide (g % 10 = 3)) (l := (Ls s).take i)
      have c3 : ((Ls s).take i).length ≤ i := by simp; omega
      omega
    have e : (((Ls s).take (i + 1)).flatMap invG).length = m + (invG ((Ls s).getD i 0)).length := by
      rw [g_take (d := 0) hi, List.flatMap_append, List.length_append, ← hI]; simp
    simp (disch := omega) only [wpX7_inverse_29, wpX7_inverse_29b, es, q_all, g2, not_true_eq_false, not_false_eq_true, forall_const, true_implies, false_implies, implies_true, and_true, true_and, and_self, Nat.not_lt_zero, ne_eq, if_true, if_false, reduceIte, Nat.reduceAdd, Nat.reduceMul, Nat.reduceSub, Nat.reduceLT, Nat.reduceLeDiff, Nat.reduceEqDiff, Nat.add_sub_cancel, eq_self_iff_true, L_0, L_1, L_2, L_3, L_4, L_5, L_6, L_7, L_8, L_9, L_10, L_16, L_20, L_21, L_24, L_31, L_64, L_100, L_320, L_400, L_1000, L_256, nI_add, pk_mul, pk_sub, nI_clamp, vp_in_nI, nI_ge, nI_le, nI_lt, nI_nlt, qI_ne, qI_eq, qI_m1, q_all, qI_nm, qI_nm2]
    by_cases e3 : kN ((Ls s).getD i 0) = 3
    · refine ⟨fun _ => hk _ ?_, fun h9 => absurd (by rw [e3]) h9⟩
      rw [e]; unfold invG; rw [if_pos e3]; rfl
    · refine ⟨fun h9 => absurd h9 (qI_ne (by omega) (by omega) e3), fun _ => ?_⟩
      by_cases e2 : kN ((Ls s).getD i 0) = 2
      · refine ⟨fun _ => hk _ ?_, fun h9 => absurd (by rw [e2]) h9⟩
        rw [e]; unfold invG; rw [if_neg e3, if_pos e2]; rfl
      · refine ⟨fun h9 => absurd h9 (qI_ne (by omega) (by omega) e2), fun _ => hk _ ?_⟩
        rw [e]; unfold invG; rw [if_neg e3, if_neg e2]; rfl
end
