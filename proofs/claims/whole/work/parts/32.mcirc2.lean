/-! The reference's circuits: expanding, clearing, a gate more. -/
section
variable {z k a b c : Nat → Int32} {Ls : Nat → List Nat}
theorem m_putBack {Q : QM} (hM : MM z k a b c Ls) {w : Nat} (hw : w < 10) (hl : (Ls 3).length + 3 ≤ 64)
    (h : ∀ z k a b c, MM z k a b c (upS Ls 3 (Ls 3 ++ bkG w)) → Q z k a b c) : wpX7_putBack Q (nI w) z k a b c := by
  unfold wpX7_putBack
  refine m_putI (s := 3) (x := 3) hM (by omega) (by omega) (by omega) hw (fun z1 k1 a1 b1 c1 h1 => ?_)
  refine m_putI (s := 3) (x := 2) h1 (by omega) (by rw [upS_s]; simp only [List.length_append, List.length_cons, List.length_nil]; omega) (by omega) hw (fun z2 k2 a2 b2 c2 h2 => ?_)
  rw [upS_s, upS_u] at h2
  refine m_putI (s := 3) (x := 5) h2 (by omega) (by rw [upS_s]; simp only [List.length_append, List.length_cons, List.length_nil]; omega) (by omega) hw (fun z3 k3 a3 b3 c3 h3 => ?_)
  rw [upS_s, upS_u] at h3
  exact h _ _ _ _ _ (by simpa [bkG] using h3)
theorem m_expandOne {Q : QM} (hM : MM z k a b c Ls) {p q r : Nat} (hp : p < 10) (hq : q < 10) (hr : r < 10) (hl : (Ls 3).length + 21 ≤ 64)
    (h : ∀ z k a b c, MM z k a b c (upS Ls 3 (Ls 3 ++ partsG p q r)) → Q z k a b c) : wpX7_expandOne Q (nI p) (nI q) (nI r) z k a b c := by
  unfold wpX7_expandOne
  have bk : ∀ w, (bkG w).length = 3 := fun _ => rfl
  refine m_putI (s := 3) (x := 1) hM (by omega) (by omega) (by omega) hr (fun z1 k1 a1 b1 c1 h1 => ?_)
  refine m_putC (s := 3) h1 (by omega) (by rw [upS_s]; simp only [List.length_append, List.length_cons, List.length_nil]; omega) hq hr (fun z1 k1 a1 b1 c1 h1 => ?_)
  rw [upS_s, upS_u] at h1
  refine m_putBack h1 hr (by rw [upS_s]; simp only [List.length_append, List.length_cons, List.length_nil]; omega) (fun z1 k1 a1 b1 c1 h1 => ?_)
  rw [upS_s, upS_u] at h1
  refine m_putC (s := 3) h1 (by omega) (by rw [upS_s]; simp only [List.length_append, List.length_cons, List.length_nil, bk]; omega) hp hr (fun z1 k1 a1 b1 c1 h1 => ?_)
  rw [upS_s, upS_u] at h1
  refine m_putI (s := 3) (x := 3) h1 (by omega) (by rw [upS_s]; simp only [List.length_append, List.length_cons, List.length_nil, bk]; omega) (by omega) hr (fun z1 k1 a1 b1 c1 h1 => ?_)
  rw [upS_s, upS_u] at h1
  refine m_putC (s := 3) h1 (by omega) (by rw [upS_s]; simp only [List.length_append, List.length_cons, List.length_nil, bk]; omega) hq hr (fun z1 k1 a1 b1 c1 h1 => ?_)
  rw [upS_s, upS_u] at h1
  refine m_putBack h1 hr (by rw [upS_s]; simp only [List.length_append, List.length_cons, List.length_nil, bk]; omega) (fun z1 k1 a1 b1 c1 h1 => ?_)
  rw [upS_s, upS_u] at h1
  refine m_putC (s := 3) h1 (by omega) (by rw [upS_s]; simp only [List.length_append, List.length_cons, List.length_nil, bk]; omega) hp hr (fun z1 k1 a1 b1 c1 h1 => ?_)
  rw [upS_s, upS_u] at h1
  refine m_putI (s := 3) (x := 3) h1 (by omega) (by rw [upS_s]; simp only [List.length_append, List.length_cons, List.length_nil, bk]; omega) (by omega) hq (fun z1 k1 a1 b1 c1 h1 => ?_)
  rw [upS_s, upS_u] at h1
  refine m_putI (s := 3) (x := 3) h1 (by omega) (by rw [upS_s]; simp only [List.length_append, List.length_cons, List.length_nil, bk]; omega) (by omega) hr (fun z1 k1 a1 b1 c1 h1 => ?_)
  rw [upS_s, upS_u] at h1
  refine m_putI (s := 3) (x := 1) h1 (by omega) (by rw [upS_s]; simp only [List.length_append, List.length_cons, List.length_nil, bk]; omega) (by omega) hr (fun z1 k1 a1 b1 c1 h1 => ?_)
  rw [upS_s, upS_u] at h1
  refine m_putC (s := 3) h1 (by omega) (by rw [upS_s]; simp only [List.length_append, List.length_cons, List.length_nil, bk]; omega) hp hq (fun z1 k1 a1 b1 c1 h1 => ?_)
  rw [upS_s, upS_u] at h1
  refine m_putI (s := 3) (x := 3) h1 (by omega) (by rw [upS_s]; simp only [List.length_append, List.length_cons, List.length_nil, bk]; omega) (by omega) hp (fun z1 k1 a1 b1 c1 h1 => ?_)
  rw [upS_s, upS_u] at h1
  refine m_putBack h1 hq (by rw [upS_s]; simp only [List.length_append, List.length_cons, List.length_nil, bk]; omega) (fun z1 k1 a1 b1 c1 h1 => ?_)
  rw [upS_s, upS_u] at h1
  refine m_putC (s := 3) h1 (by omega) (by rw [upS_s]; simp only [List.length_append, List.length_cons, List.length_nil, bk]; omega) hp hq (fun z1 k1 a1 b1 c1 h1 => ?_)
  rw [upS_s, upS_u] at h1
  exact h _ _ _ _ _ (by simpa [partsG, List.append_assoc] using h1)
theorem m_expand {Q : Int32 → Int32 → (Nat → Int32) → (Nat → Int32) → (Nat → Int32) → (Nat → Int32) → (Nat → Int32) → Prop} {ft : Int32} (hM : MM z k a b c Ls) {s : Nat} (hs : s < 3) (hv : ∀ x ∈ Ls s, gv 4 x = true)
    (h1 : 64 < (expL (Ls s)).length → Q 0 2 z k a b c)
    (h0 : (expL (Ls s)).length ≤ 64 → ∀ z k a b c, MM z k a b c (upS (upS Ls 3 (expL (Ls s))) s (expL (Ls s))) → Q (nI (expL (Ls s)).length) 0 z k a b c) : wpX7_expand Q (nI s) ft z k a b c := by
  obtain ⟨es, hls, hgs⟩ := hM s (by omega)
  unfold wpX7_expand
  rw [slot_t hs]
  refine ⟨fun h9 => absurd h9 (by decide), fun _ => ?_⟩
  simp (disch := omega) only [wpX7_expand_13, not_true_eq_false, not_false_eq_true, forall_const, true_implies, false_implies, implies_true, and_true, true_and, and_self, Nat.not_lt_zero, ne_eq, if_true, if_false, reduceIte, Nat.reduceAdd, Nat.reduceMul, Nat.reduceSub, Nat.reduceLT, Nat.reduceLeDiff, Nat.reduceEqDiff, Nat.add_sub_cancel, eq_self_iff_true, L_0, L_1, L_2, L_3, L_4, L_5, L_6, L_7, L_8, L_9, L_10, L_16, L_20, L_21, L_24, L_31, L_64, L_100, L_320, L_400, L_1000, L_256, nI_add, pk_mul, pk_sub, nI_clamp, vp_in_nI, nI_ge, nI_le, nI_lt, nI_nlt, qI_ne, qI_eq, qI_m1, q_all, qI_nm, qI_nm2]
  refine pk_loop (σ := Nat) (fun n i m => wpX7_expand_29 Q n (nI s) (nI m) (nI i) (nI 0) z k a b c) (fun i m => m = (expL ((Ls s).take i)).length) (Ls s).length 0 0 (Nat.zero_le _) rfl ?_ ?_
  · intro n m hI
    rw [List.take_length] at hI
    subst hI
    have hb : (expL (Ls s)).length < 10000 := by
      rw [expL_len]
      have c1 := List.countP_le_length (p := fun g => decide (g % 10 = 9)) (l := Ls s)
      omega
    simp (disch := omega) only [wpX7_expand_29, wpX7_expand_29b, es, wpX7_expand_70, not_true_eq_false, not_false_eq_true, forall_const, true_implies, false_implies, implies_true, and_true, true_and, and_self, Nat.not_lt_zero, ne_eq, if_true, if_false, reduceIte, Nat.reduceAdd, Nat.reduceMul, Nat.reduceSub, Nat.reduceLT, Nat.reduceLeDiff, Nat.reduceEqDiff, Nat.add_sub_cancel, eq_self_iff_true, L_0, L_1, L_2, L_3, L_4, L_5, L_6, L_7, L_8, L_9, L_10, L_16, L_20, L_21, L_24, L_31, L_64, L_100, L_320, L_400, L_1000, L_256, nI_add, pk_mul, pk_sub, nI_clamp, vp_in_nI, nI_ge, nI_le, nI_lt, nI_nlt, qI_ne, qI_eq, qI_m1, q_all, qI_nm, qI_nm2]
    rw [nI_leI (by omega) (by omega)]
    refine ⟨fun h9 => ?_, fun h9 => h1 (by omega)⟩
    have h0 := h0 h9
    have hs3 : s ≠ 3 := by omega
    have hcut : ∀ i, (expL ((Ls s).take i)).length ≤ 64 := fun i => by
      have e : expL (Ls s) = expL ((Ls s).take i) ++ expL ((Ls s).drop i) := by
        unfold expL
        conv => lhs; rw [← List.take_append_drop i (Ls s)]
        rw [List.flatMap_append]
      rw [e, List.length_append] at h9
      omega
    refine pk_loop (σ := M5) (fun n i m => wpX7_expand_92 Q n (nI s) (nI i) (nI 0) m.1 m.2.1 m.2.2.1 m.2.2.2.1 m.2.2.2.2) (fun i m => MM m.1 m.2.1 m.2.2.1 m.2.2.2.1 m.2.2.2.2 (upS Ls 3 (expL ((Ls s).take i)))) (Ls s).length 0 (upd z 3 (nI 0), k, a, b, c) (Nat.zero_le _) (MM_z hM (by omega)) ?_ ?_
    · intro n m hI
      rw [List.take_length] at hI
      have e := (hI s (by omega)).1
      rw [upS_n hs3] at e
      simp (disch := omega) only [wpX7_expand_92, wpX7_expand_92b, e, wpX7_expand_163, not_true_eq_false, not_false_eq_true, forall_const, true_implies, false_implies, implies_true, and_true, true_and, and_self, Nat.not_lt_zero, ne_eq, if_true, if_false, reduceIte, Nat.reduceAdd, Nat.reduceMul, Nat.reduceSub, Nat.reduceLT, Nat.reduceLeDiff, Nat.reduceEqDiff, Nat.add_sub_cancel, eq_self_iff_true, L_0, L_1, L_2, L_3, L_4, L_5, L_6, L_7, L_8, L_9, L_10, L_16, L_20, L_21, L_24, L_31, L_64, L_100, L_320, L_400, L_1000, L_256, nI_add, pk_mul, pk_sub, nI_clamp, vp_in_nI, nI_ge, nI_le, nI_lt, nI_nlt, qI_ne, qI_eq, qI_m1, q_all, qI_nm, qI_nm2]
      refine m_copy hI (s := 3) (t := s) (by omega) (by omega) (by omega) (fun z k a b c h' => ?_)
      rw [upS_s] at h'
      have e := (h' s (by omega)).1
      rw [upS_s] at e
      rw [e]
      exact h0 _ _ _ _ _ h'
    · intro n i m hi hI hk
      obtain ⟨g1, -⟩ := hgs i (by omega)
      have hgv := hv _ (g_mem (d := 0) (show i < (Ls s).length by omega))
      have k1 := kN_lt ((Ls s).getD i 0); have a1 := aN_lt ((Ls s).getD i 0); have b1 := bN_lt ((Ls s).getD i 0); have c1 := cN_lt ((Ls s).getD i 0)
      have hcu := hcut (i + 1)
      have e : expL ((Ls s).take (i + 1)) = expL ((Ls s).take i) ++ expG ((Ls s).getD i 0) := by
        unfold expL; rw [g_take (d := 0) hi, List.flatMap_append]; simp
      rw [e] at hk hcu
      rw [List.length_append] at hcu
      have e0 := (hI s (by omega)).1
      have h8 := (hI s (by omega)).2.2 i (by rw [upS_n hs3]; omega)
      rw [upS_n hs3] at h8 e0
      obtain ⟨-, f1, f2, f3, f4⟩ := h8
      simp (disch := omega) only [wpX7_expand_92, wpX7_expand_92b, e0, f1, f2, f3, f4, not_true_eq_false, not_false_eq_true, forall_const, true_implies, false_implies, implies_true, and_true, true_and, and_self, Nat.not_lt_zero, ne_eq, if_true, if_false, reduceIte, Nat.reduceAdd, Nat.reduceMul, Nat.reduceSub, Nat.reduceLT, Nat.reduceLeDiff, Nat.reduceEqDiff, Nat.add_sub_cancel, eq_self_iff_true, L_0, L_1, L_2, L_3, L_4, L_5, L_6, L_7, L_8, L_9, L_10, L_16, L_20, L_21, L_24, L_31, L_64, L_100, L_320, L_400, L_1000, L_256, nI_add, pk_mul, pk_sub, nI_clamp, vp_in_nI, nI_ge, nI_le, nI_lt, nI_nlt, qI_ne, qI_eq, qI_m1, q_all, qI_nm, qI_nm2]
      by_cases e9 : kN ((Ls s).getD i 0) = 9
      · have ei : expG ((Ls s).getD i 0) = partsG (aN ((Ls s).getD i 0)) (bN ((Ls s).getD i 0)) (cN ((Ls s).getD i 0)) := by unfold expG; rw [if_pos e9]
        rw [ei] at hk hcu
        have f3' : m2 ((Ls s).getD i 0) = nI (bN ((Ls s).getD i 0)) := by unfold m2; rw [if_pos (by omega)]
        have f4' : m3 ((Ls s).getD i 0) = nI (cN ((Ls s).getD i 0)) := by unfold m3; rw [if_pos e9]
        simp (disch := omega) only [f3', f4', not_true_eq_false, not_false_eq_true, forall_const, true_implies, false_implies, implies_true, and_true, true_and, and_self, Nat.not_lt_zero, ne_eq, if_true, if_false, reduceIte, Nat.reduceAdd, Nat.reduceMul, Nat.reduceSub, Nat.reduceLT, Nat.reduceLeDiff, Nat.reduceEqDiff, Nat.add_sub_cancel, eq_self_iff_true, L_0, L_1, L_2, L_3, L_4, L_5, L_6, L_7, L_8, L_9, L_10, L_16, L_20, L_21, L_24, L_31, L_64, L_100, L_320, L_400, L_1000, L_256, nI_add, pk_mul, pk_sub, nI_clamp, vp_in_nI, nI_ge, nI_le, nI_lt, nI_nlt, qI_ne, qI_eq, qI_m1, q_all, qI_nm, qI_nm2]
        have pl : (partsG (aN ((Ls s).getD i 0)) (bN ((Ls s).getD i 0)) (cN ((Ls s).getD i 0))).length = 21 := rfl
        refine m_expandOne hI a1 b1 c1 (by rw [upS_s]; omega) (fun z2 k2 a2 b2 c2 hB => ?_)
        rw [upS_s, upS_u] at hB
        exact hk (z2, k2, a2, b2, c2) hB
      · have ei : expG ((Ls s).getD i 0) = [(Ls s).getD i 0] := by unfold expG; rw [if_neg e9]
        rw [ei] at hk hcu
        simp (disch := omega) only [not_true_eq_false, not_false_eq_true, forall_const, true_implies, false_implies, implies_true, and_true, true_and, and_self, Nat.not_lt_zero, ne_eq, if_true, if_false, reduceIte, Nat.reduceAdd, Nat.reduceMul, Nat.reduceSub, Nat.reduceLT, Nat.reduceLeDiff, Nat.reduceEqDiff, Nat.add_sub_cancel, eq_self_iff_true, L_0, L_1, L_2, L_3, L_4, L_5, L_6, L_7, L_8, L_9, L_10, L_16, L_20, L_21, L_24, L_31, L_64, L_100, L_320, L_400, L_1000, L_256, nI_add, pk_mul, pk_sub, nI_clamp, vp_in_nI, nI_ge, nI_le, nI_lt, nI_nlt, qI_ne, qI_eq, qI_m1, q_all, qI_nm, qI_nm2]
        refine m_copyGate hI (i := i) (s := 3) (t := s) (by omega) (by omega) (by rw [upS_n hs3]; omega) (by rw [upS_s]; simp only [List.length_cons, List.length_nil] at hcu; omega) (fun z2 k2 a2 b2 c2 hB => ?_)
        rw [upS_s, upS_u, upS_n hs3] at hB
        exact hk (z2, k2, a2, b2, c2) hB
  · intro n i m hi hI hk
    obtain ⟨g1, g2, -⟩ := hgs i hi
    have k1 := kN_lt ((Ls s).getD i 0)
    have hm : m < 10000 := by
      rw [hI, expL_len]
      have c1 := List.countP_le_length (p := fun g => decide (g % 10 = 9)) (l := (Ls s).take i)
      have c3 : ((Ls s).take i).length ≤ i := by simp; omega
      omega
    have e : (expL ((Ls s).take (i + 1))).length = m + (expG ((Ls s).getD i 0)).length := by
      unfold expL; rw [g_take (d := 0) hi, List.flatMap_append, List.length_append, hI]; simp [expL]
    simp (disch := omega) only [wpX7_expand_29, wpX7_expand_29b, es, g2, not_true_eq_false, not_false_eq_true, forall_const, true_implies, false_implies, implies_true, and_true, true_and, and_self, Nat.not_lt_zero, ne_eq, if_true, if_false, reduceIte, Nat.reduceAdd, Nat.reduceMul, Nat.reduceSub, Nat.reduceLT, Nat.reduceLeDiff, Nat.reduceEqDiff, Nat.add_sub_cancel, eq_self_iff_true, L_0, L_1, L_2, L_3, L_4, L_5, L_6, L_7, L_8, L_9, L_10, L_16, L_20, L_21, L_24, L_31, L_64, L_100, L_320, L_400, L_1000, L_256, nI_add, pk_mul, pk_sub, nI_clamp, vp_in_nI, nI_ge, nI_le, nI_lt, nI_nlt, qI_ne, qI_eq, qI_m1, q_all, qI_nm, qI_nm2]
    by_cases e9 : kN ((Ls s).getD i 0) = 9
    · simp (disch := omega) only [not_true_eq_false, not_false_eq_true, forall_const, true_implies, false_implies, implies_true, and_true, true_and, and_self, Nat.not_lt_zero, ne_eq, if_true, if_false, reduceIte, Nat.reduceAdd, Nat.reduceMul, Nat.reduceSub, Nat.reduceLT, Nat.reduceLeDiff, Nat.reduceEqDiff, Nat.add_sub_cancel, eq_self_iff_true, L_0, L_1, L_2, L_3, L_4, L_5, L_6, L_7, L_8, L_9, L_10, L_16, L_20, L_21, L_24, L_31, L_64, L_100, L_320, L_400, L_1000, L_256, nI_add, pk_mul, pk_sub, nI_clamp, vp_in_nI, nI_ge, nI_le, nI_lt, nI_nlt, qI_ne, qI_eq, qI_m1, q_all, qI_nm, qI_nm2]
      refine hk _ ?_
      rw [e]; unfold expG; rw [if_pos e9]; rfl
    · simp (disch := omega) only [not_true_eq_false, not_false_eq_true, forall_const, true_implies, false_implies, implies_true, and_true, true_and, and_self, Nat.not_lt_zero, ne_eq, if_true, if_false, reduceIte, Nat.reduceAdd, Nat.reduceMul, Nat.reduceSub, Nat.reduceLT, Nat.reduceLeDiff, Nat.reduceEqDiff, Nat.add_sub_cancel, eq_self_iff_true, L_0, L_1, L_2, L_3, L_4, L_5, L_6, L_7, L_8, L_9, L_10, L_16, L_20, L_21, L_24, L_31, L_64, L_100, L_320, L_400, L_1000, L_256, nI_add, pk_mul, pk_sub, nI_clamp, vp_in_nI, nI_ge, nI_le, nI_lt, nI_nlt, qI_ne, qI_eq, qI_m1, q_all, qI_nm, qI_nm2]
      refine hk _ ?_
      rw [e]; unfold expG; rw [if_neg e9]; rfl
theorem m_clear {Q : Int32 → (Nat → Int32) → Prop} {ft : Int32} (hM : MM z k a b c Ls) {s : Nat} (hs : s < 3)
    (h : ∀ z, MM z k a b c (upS Ls s []) → Q 0 z) : wpX7_clear Q (nI s) ft z := by
  unfold wpX7_clear
  rw [slot_t hs]
  simp (disch := omega) only [wpX7_clear_13, not_true_eq_false, not_false_eq_true, forall_const, true_implies, false_implies, implies_true, and_true, true_and, and_self, Nat.not_lt_zero, ne_eq, if_true, if_false, reduceIte, Nat.reduceAdd, Nat.reduceMul, Nat.reduceSub, Nat.reduceLT, Nat.reduceLeDiff, Nat.reduceEqDiff, Nat.add_sub_cancel, eq_self_iff_true, L_0, L_1, L_2, L_3, L_4, L_5, L_6, L_7, L_8, L_9, L_10, L_16, L_20, L_21, L_24, L_31, L_64, L_100, L_320, L_400, L_1000, L_256, nI_add, pk_mul, pk_sub, nI_clamp, vp_in_nI, nI_ge, nI_le, nI_lt, nI_nlt, qI_ne, qI_eq, qI_m1, q_all, qI_nm, qI_nm2]
  exact h _ (MM_z hM (by omega))
theorem m_wires {Q : Int32 → Int32 → Int32 → Int32 → (Nat → Int32) → Prop} {ft wi hS ln : Int32} (hM : MM z k a b c Ls) {n : Int32}
    (h1 : ¬ (1 ≤ n ∧ n ≤ 4) → Q 1 wi hS ln z)
    (h0 : 1 ≤ n ∧ n ≤ 4 → ∀ z, MM z k a b c (fun s => if s < 3 then [] else Ls s) → Q 0 n 0 0 z) : wpX7_wires Q n ft wi hS ln z := by
  unfold wpX7_wires
  have e : zvX7_in n.toInt64 1 4 = if 1 ≤ n ∧ n ≤ 4 then 1 else 0 := mz_in (lo := 1) (hi := 4)
  rw [e]
  by_cases h : 1 ≤ n ∧ n ≤ 4
  · rw [if_pos h]
    refine ⟨fun h9 => absurd h9 (by decide), fun _ => ?_⟩
    simp (disch := omega) only [wpX7_wires_18, not_true_eq_false, not_false_eq_true, forall_const, true_implies, false_implies, implies_true, and_true, true_and, and_self, Nat.not_lt_zero, ne_eq, if_true, if_false, reduceIte, Nat.reduceAdd, Nat.reduceMul, Nat.reduceSub, Nat.reduceLT, Nat.reduceLeDiff, Nat.reduceEqDiff, Nat.add_sub_cancel, eq_self_iff_true, L_0, L_1, L_2, L_3, L_4, L_5, L_6, L_7, L_8, L_9, L_10, L_16, L_20, L_21, L_24, L_31, L_64, L_100, L_320, L_400, L_1000, L_256, nI_add, pk_mul, pk_sub, nI_clamp, vp_in_nI, nI_ge, nI_le, nI_lt, nI_nlt, qI_ne, qI_eq, qI_m1, q_all, qI_nm, qI_nm2]
    refine pk_loop (σ := Nat → Int32) (fun m i s => wpX7_wires_35 Q m (nI i) (nI 0) n hS ln s) (fun i s => MM s k a b c (fun t => if t < i then [] else Ls t)) 3 0 z (by omega) (by simpa using hM) ?_ ?_
    · intro m s hI
      simp (disch := omega) only [wpX7_wires_35, wpX7_wires_35b, not_true_eq_false, not_false_eq_true, forall_const, true_implies, false_implies, implies_true, and_true, true_and, and_self, Nat.not_lt_zero, ne_eq, if_true, if_false, reduceIte, Nat.reduceAdd, Nat.reduceMul, Nat.reduceSub, Nat.reduceLT, Nat.reduceLeDiff, Nat.reduceEqDiff, Nat.add_sub_cancel, eq_self_iff_true, L_0, L_1, L_2, L_3, L_4, L_5, L_6, L_7, L_8, L_9, L_10, L_16, L_20, L_21, L_24, L_31, L_64, L_100, L_320, L_400, L_1000, L_256, nI_add, pk_mul, pk_sub, nI_clamp, vp_in_nI, nI_ge, nI_le, nI_lt, nI_nlt, qI_ne, qI_eq, qI_m1, q_all, qI_nm, qI_nm2]
      exact h0 h _ hI
    · intro m i s hi hI hk
      simp (disch := omega) only [wpX7_wires_35, wpX7_wires_35b, not_true_eq_false, not_false_eq_true, forall_const, true_implies, false_implies, implies_true, and_true, true_and, and_self, Nat.not_lt_zero, ne_eq, if_true, if_false, reduceIte, Nat.reduceAdd, Nat.reduceMul, Nat.reduceSub, Nat.reduceLT, Nat.reduceLeDiff, Nat.reduceEqDiff, Nat.add_sub_cancel, eq_self_iff_true, L_0, L_1, L_2, L_3, L_4, L_5, L_6, L_7, L_8, L_9, L_10, L_16, L_20, L_21, L_24, L_31, L_64, L_100, L_320, L_400, L_1000, L_256, nI_add, pk_mul, pk_sub, nI_clamp, vp_in_nI, nI_ge, nI_le, nI_lt, nI_nlt, qI_ne, qI_eq, qI_m1, q_all, qI_nm, qI_nm2]
      refine hk _ ?_
      have h2 := MM_z hI (s := i) (by omega)
      have e2 : upS (fun t => if t < i then [] else Ls t) i [] = fun t => if t < i + 1 then [] else Ls t := by
        funext t; unfold upS
        by_cases e : t = i
        · rw [if_pos e, if_pos (by omega)]
        · rw [if_neg e]
          show (if t < i then [] else Ls t) = _
          by_cases e3 : t < i
          · rw [if_pos e3, if_pos (by omega)]
          · rw [if_neg e3, if_neg (by omega)]
      rw [e2] at h2; exact h2
  · rw [if_neg h]
    refine ⟨fun _ => ?_, fun h9 => absurd rfl h9⟩
    simp (disch := omega) only [wpX7_wires_18, not_true_eq_false, not_false_eq_true, forall_const, true_implies, false_implies, implies_true, and_true, true_and, and_self, Nat.not_lt_zero, ne_eq, if_true, if_false, reduceIte, Nat.reduceAdd, Nat.reduceMul, Nat.reduceSub, Nat.reduceLT, Nat.reduceLeDiff, Nat.reduceEqDiff, Nat.add_sub_cancel, eq_self_iff_true, L_0, L_1, L_2, L_3, L_4, L_5, L_6, L_7, L_8, L_9, L_10, L_16, L_20, L_21, L_24, L_31, L_64, L_100, L_320, L_400, L_1000, L_256, nI_add, pk_mul, pk_sub, nI_clamp, vp_in_nI, nI_ge, nI_le, nI_lt, nI_nlt, qI_ne, qI_eq, qI_m1, q_all, qI_nm, qI_nm2]
    exact h1 h
end
