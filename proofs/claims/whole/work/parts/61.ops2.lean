/-! One row an operation: optimise, append, gate, gateAt, wires. -/
section
variable {n : Nat} {c1 c2 c3 : Int32} {g1 g2 g3 z k a b c : Nat → Int32} {Ls Ls' : Nat → List Nat}
theorem m_optimiseF {Q : Int32 → Int32 → (Nat → Int32) → (Nat → Int32) → (Nat → Int32) → (Nat → Int32) → (Nat → Int32) → Prop} {x ft : Int32} (e : zvX7_isSlot x = 0) (h : Q 0 1 z k a b c) : wpX7_optimise Q x ft z k a b c := by
  unfold wpX7_optimise
  rw [e]
  refine ⟨fun _ => ?_, fun h => absurd rfl h⟩
  exact ⟨fun h => absurd h (by decide), fun _ => h⟩
theorem o_optimise {x ft : Int32} {o : Nat → Int64} (hn : n < 5) (h : C3 n c1 c2 c3 g1 g2 g3 z k a b c) : wpL_optimise (fun K o c1 c2 c3 g1 g2 g3 => wpX7_optimise (fun B F z k a b c => AN K o F B.toInt64 ∧ C3 n c1 c2 c3 g1 g2 g3 z k a b c) x ft z k a b c) x o c1 c2 c3 g1 g2 g3 := by
  obtain ⟨Ls, hM, hs⟩ := h
  rcases sl_c x with ⟨s, h3, rfl⟩ | hx
  · have hv4 : ∀ x ∈ Ls s, gv 4 x = true := fun x hx => gv_up (by omega) ((hs s h3).2 x hx)
    rcases (show s = 0 ∨ s = 1 ∨ s = 2 by omega) with rfl | rfl | rfl
    · have hC := (hs 0 (by omega)).1
      have hv := (rwN_v hn 64 _ (hs 0 (by omega)).2).2
      simp (disch := omega) only [wpL_optimise, wpX6_optimise, zvX0_count, not_true_eq_false, not_false_eq_true, forall_const, true_implies, false_implies, implies_true, and_true, true_and, and_self, Nat.not_lt_zero, ne_eq, if_true, if_false, reduceIte, Nat.reduceAdd, Nat.reduceMul, Nat.reduceSub, Nat.reduceLT, Nat.reduceLeDiff, Nat.reduceEqDiff, Nat.add_sub_cancel, eq_self_iff_true, L_0, L_1, L_2, L_3, L_4, L_5, L_6, L_7, L_8, L_9, L_10, L_16, L_20, L_21, L_24, L_31, L_64, L_100, L_320, L_400, L_1000, L_256, nI_add, pk_mul, pk_sub, nI_clamp, vp_in_nI, nI_ge, nI_le, nI_lt, nI_nlt, qI_ne, qI_eq, qI_m1, q_all, qI_nm, qI_nm2]
      refine y_rewriteAll hC (fun c6 f6 h6 => ?_)
      obtain rfl := h6.1
      exact m_optimise hM (s := 0) (by omega) hv4 (fun z k a b c hz => ⟨⟨rfl, fun _ => rfl⟩, c3_0 hs hz up_n upS_s h6 hv⟩)
    · have hC := (hs 1 (by omega)).1
      have hv := (rwN_v hn 64 _ (hs 1 (by omega)).2).2
      simp (disch := omega) only [wpL_optimise, wpX6_optimise, zvX0_count, not_true_eq_false, not_false_eq_true, forall_const, true_implies, false_implies, implies_true, and_true, true_and, and_self, Nat.not_lt_zero, ne_eq, if_true, if_false, reduceIte, Nat.reduceAdd, Nat.reduceMul, Nat.reduceSub, Nat.reduceLT, Nat.reduceLeDiff, Nat.reduceEqDiff, Nat.add_sub_cancel, eq_self_iff_true, L_0, L_1, L_2, L_3, L_4, L_5, L_6, L_7, L_8, L_9, L_10, L_16, L_20, L_21, L_24, L_31, L_64, L_100, L_320, L_400, L_1000, L_256, nI_add, pk_mul, pk_sub, nI_clamp, vp_in_nI, nI_ge, nI_le, nI_lt, nI_nlt, qI_ne, qI_eq, qI_m1, q_all, qI_nm, qI_nm2]
      refine y_rewriteAll hC (fun c6 f6 h6 => ?_)
      obtain rfl := h6.1
      exact m_optimise hM (s := 1) (by omega) hv4 (fun z k a b c hz => ⟨⟨rfl, fun _ => rfl⟩, c3_1 hs hz up_n upS_s h6 hv⟩)
    · have hC := (hs 2 (by omega)).1
      have hv := (rwN_v hn 64 _ (hs 2 (by omega)).2).2
      simp (disch := omega) only [wpL_optimise, wpX6_optimise, zvX0_count, not_true_eq_false, not_false_eq_true, forall_const, true_implies, false_implies, implies_true, and_true, true_and, and_self, Nat.not_lt_zero, ne_eq, if_true, if_false, reduceIte, Nat.reduceAdd, Nat.reduceMul, Nat.reduceSub, Nat.reduceLT, Nat.reduceLeDiff, Nat.reduceEqDiff, Nat.add_sub_cancel, eq_self_iff_true, L_0, L_1, L_2, L_3, L_4, L_5, L_6, L_7, L_8, L_9, L_10, L_16, L_20, L_21, L_24, L_31, L_64, L_100, L_320, L_400, L_1000, L_256, nI_add, pk_mul, pk_sub, nI_clamp, vp_in_nI, nI_ge, nI_le, nI_lt, nI_nlt, qI_ne, qI_eq, qI_m1, q_all, qI_nm, qI_nm2]
      refine y_rewriteAll hC (fun c6 f6 h6 => ?_)
      obtain rfl := h6.1
      exact m_optimise hM (s := 2) (by omega) hv4 (fun z k a b c hz => ⟨⟨rfl, fun _ => rfl⟩, c3_2 hs hz up_n upS_s h6 hv⟩)
  · have e := slot_f hx
    have h0 : ¬ x = 0 := fun h => hx (Or.inl h)
    have h1 : ¬ x = 1 := fun h => hx (Or.inr (Or.inl h))
    have h2 : ¬ x = 2 := fun h => hx (Or.inr (Or.inr h))
    refine ⟨fun h => absurd h h0, fun _ => ⟨fun h => absurd h h1, fun _ => ⟨fun h => absurd h h2, fun _ => ⟨rfl, ?_⟩⟩⟩⟩
    exact m_optimiseF e ⟨an_1, Ls, hM, hs⟩
theorem m_appendF {Q : Int32 → Int32 → (Nat → Int32) → (Nat → Int32) → (Nat → Int32) → (Nat → Int32) → (Nat → Int32) → Prop} {x y ft : Int32} (e : zvX7_isSlot x = 0 ∨ zvX7_isSlot y = 0) (h : Q 0 1 z k a b c) : wpX7_append Q x y ft z k a b c := by
  have f : wpX7_append_15 Q x y ft z k a b c := ⟨fun h => absurd h (by decide), fun _ => h⟩
  unfold wpX7_append
  by_cases e1 : zvX7_isSlot x = 0
  · exact ⟨fun _ => f, fun h => absurd e1 h⟩
  · exact ⟨fun h => absurd h e1, fun _ => ⟨fun _ => f, fun h => absurd (e.resolve_left e1) h⟩⟩
theorem gv_ap {L M : List Nat} (h1 : ∀ x ∈ L, gv n x = true) (h2 : ∀ x ∈ M, gv n x = true) : ∀ x ∈ L ++ M, gv n x = true := fun x hx => (List.mem_append.mp hx).elim (h1 x) (h2 x)
theorem o_append {x y ft : Int32} {o : Nat → Int64} (h : C3 n c1 c2 c3 g1 g2 g3 z k a b c) : wpL_append (fun K o c1 c2 c3 g1 g2 g3 => wpX7_append (fun B F z k a b c => AN K o F B.toInt64 ∧ C3 n c1 c2 c3 g1 g2 g3 z k a b c) x y ft z k a b c) x y o c1 c2 c3 g1 g2 g3 := by
  obtain ⟨Ls, hM, hs⟩ := h
  rcases sl_c x with ⟨s, h3, rfl⟩ | hx
  · rcases sl_c y with ⟨t, k3, rfl⟩ | hy
    · rcases (show s = 0 ∨ s = 1 ∨ s = 2 by omega) with rfl | rfl | rfl
      · rcases (show t = 0 ∨ t = 1 ∨ t = 2 by omega) with rfl | rfl | rfl
        · have hC := (hs 0 (by omega)).1
          have hD := (hs 0 (by omega)).1
          have hv := gv_ap (hs 0 (by omega)).2 (hs 0 (by omega)).2
          have i1 : c1 = nI (Ls 0).length := hC.1
          have i2 : c1 = nI (Ls 0).length := hD.1
          have i3 := hC.2.1
          have i4 := hD.2.1
          subst i1
          by_cases hl : (Ls 0).length + (Ls 0).length ≤ 64
          · simp (disch := omega) only [wpL_append, wpX6_append, zvX0_count, not_true_eq_false, not_false_eq_true, forall_const, true_implies, false_implies, implies_true, and_true, true_and, and_self, Nat.not_lt_zero, ne_eq, if_true, if_false, reduceIte, Nat.reduceAdd, Nat.reduceMul, Nat.reduceSub, Nat.reduceLT, Nat.reduceLeDiff, Nat.reduceEqDiff, Nat.add_sub_cancel, eq_self_iff_true, L_0, L_1, L_2, L_3, L_4, L_5, L_6, L_7, L_8, L_9, L_10, L_16, L_20, L_21, L_24, L_31, L_64, L_100, L_320, L_400, L_1000, L_256, nI_add, pk_mul, pk_sub, nI_clamp, vp_in_nI, nI_ge, nI_le, nI_lt, nI_nlt, qI_ne, qI_eq, qI_m1, q_all, qI_nm, qI_nm2]
            refine y_addSelf hC hl (fun c6 f6 h6 => ?_)
            obtain rfl := h6.1
            exact m_append hM (s := 0) (t := 0) (by omega) (by omega) (fun h => absurd hl (by omega)) (fun _ z k a b c hz => ⟨⟨rfl, fun _ => rfl⟩, c3_0 hs hz up_n upS_s h6 hv⟩)
          · simp (disch := omega) only [wpL_append, wpX6_append, zvX0_count, not_true_eq_false, not_false_eq_true, forall_const, true_implies, false_implies, implies_true, and_true, true_and, and_self, Nat.not_lt_zero, ne_eq, if_true, if_false, reduceIte, Nat.reduceAdd, Nat.reduceMul, Nat.reduceSub, Nat.reduceLT, Nat.reduceLeDiff, Nat.reduceEqDiff, Nat.add_sub_cancel, eq_self_iff_true, L_0, L_1, L_2, L_3, L_4, L_5, L_6, L_7, L_8, L_9, L_10, L_16, L_20, L_21, L_24, L_31, L_64, L_100, L_320, L_400, L_1000, L_256, nI_add, pk_mul, pk_sub, nI_clamp, vp_in_nI, nI_ge, nI_le, nI_lt, nI_nlt, qI_ne, qI_eq, qI_m1, q_all, qI_nm, qI_nm2]
            refine Or.inr ?_
            exact m_append hM (s := 0) (t := 0) (by omega) (by omega) (fun _ => ⟨an_2, Ls, hM, hs⟩) (fun h => absurd h hl)
        · have hC := (hs 0 (by omega)).1
          have hD := (hs 1 (by omega)).1
          have hv := gv_ap (hs 0 (by omega)).2 (hs 1 (by omega)).2
          have i1 : c1 = nI (Ls 0).length := hC.1
          have i2 : c2 = nI (Ls 1).length := hD.1
          have i3 := hC.2.1
          have i4 := hD.2.1
          subst i1
          subst i2
          by_cases hl : (Ls 0).length + (Ls 1).length ≤ 64
          · simp (disch := omega) only [wpL_append, wpX6_append, zvX0_count, not_true_eq_false, not_false_eq_true, forall_const, true_implies, false_implies, implies_true, and_true, true_and, and_self, Nat.not_lt_zero, ne_eq, if_true, if_false, reduceIte, Nat.reduceAdd, Nat.reduceMul, Nat.reduceSub, Nat.reduceLT, Nat.reduceLeDiff, Nat.reduceEqDiff, Nat.add_sub_cancel, eq_self_iff_true, L_0, L_1, L_2, L_3, L_4, L_5, L_6, L_7, L_8, L_9, L_10, L_16, L_20, L_21, L_24, L_31, L_64, L_100, L_320, L_400, L_1000, L_256, nI_add, pk_mul, pk_sub, nI_clamp, vp_in_nI, nI_ge, nI_le, nI_lt, nI_nlt, qI_ne, qI_eq, qI_m1, q_all, qI_nm, qI_nm2]
            refine y_addAll hC hD hl (fun c6 f6 h6 => ?_)
            obtain rfl := h6.1
            exact m_append hM (s := 0) (t := 1) (by omega) (by omega) (fun h => absurd hl (by omega)) (fun _ z k a b c hz => ⟨⟨rfl, fun _ => rfl⟩, c3_0 hs hz up_n upS_s h6 hv⟩)
          · simp (disch := omega) only [wpL_append, wpX6_append, zvX0_count, not_true_eq_false, not_false_eq_true, forall_const, true_implies, false_implies, implies_true, and_true, true_and, and_self, Nat.not_lt_zero, ne_eq, if_true, if_false, reduceIte, Nat.reduceAdd, Nat.reduceMul, Nat.reduceSub, Nat.reduceLT, Nat.reduceLeDiff, Nat.reduceEqDiff, Nat.add_sub_cancel, eq_self_iff_true, L_0, L_1, L_2, L_3, L_4, L_5, L_6, L_7, L_8, L_9, L_10, L_16, L_20, L_21, L_24, L_31, L_64, L_100, L_320, L_400, L_1000, L_256, nI_add, pk_mul, pk_sub, nI_clamp, vp_in_nI, nI_ge, nI_le, nI_lt, nI_nlt, qI_ne, qI_eq, qI_m1, q_all, qI_nm, qI_nm2]
            refine Or.inr ?_
            exact m_append hM (s := 0) (t := 1) (by omega) (by omega) (fun _ => ⟨an_2, Ls, hM, hs⟩) (fun h => absurd h hl)
        · have hC := (hs 0 (by omega)).1
          have hD := (hs 2 (by omega)).1
          have hv := gv_ap (hs 0 (by omega)).2 (hs 2 (by omega)).2
          have i1 : c1 = nI (Ls 0).length := hC.1
          have i2 : c3 = nI (Ls 2).length := hD.1
          have i3 := hC.2.1
          have i4 := hD.2.1
          subst i1
          subst i2
          by_cases hl : (Ls 0).length + (Ls 2).length ≤ 64
          · simp (disch := omega) only [wpL_append, wpX6_append, zvX0_count, not_true_eq_false, not_false_eq_true, forall_const, true_implies, false_implies, implies_true, and_true, true_and, and_self, Nat.not_lt_zero, ne_eq, if_true, if_false, reduceIte, Nat.reduceAdd, Nat.reduceMul, Nat.reduceSub, Nat.reduceLT, Nat.reduceLeDiff, Nat.reduceEqDiff, Nat.add_sub_cancel, eq_self_iff_true, L_0, L_1, L_2, L_3, L_4, L_5, L_6, L_7, L_8, L_9, L_10, L_16, L_20, L_21, L_24, L_31, L_64, L_100, L_320, L_400, L_1000, L_256, nI_add, pk_mul, pk_sub, nI_clamp, vp_in_nI, nI_ge, nI_le, nI_lt, nI_nlt, qI_ne, qI_eq, qI_m1, q_all, qI_nm, qI_nm2]
            refine y_addAll hC hD hl (fun c6 f6 h6 => ?_)
            obtain rfl := h6.1
            exact m_append hM (s := 0) (t := 2) (by omega) (by omega) (fun h => absurd hl (by omega)) (fun _ z k a b c hz => ⟨⟨rfl, fun _ => rfl⟩, c3_0 hs hz up_n upS_s h6 hv⟩)
          · simp (disch := omega) only [wpL_append, wpX6_append, zvX0_count, not_true_eq_false, not_false_eq_true, forall_const, true_implies, false_implies, implies_true, and_true, true_and, and_self, Nat.not_lt_zero, ne_eq, if_true, if_false, reduceIte, Nat.reduceAdd, Nat.reduceMul, Nat.reduceSub, Nat.reduceLT, Nat.reduceLeDiff, Nat.reduceEqDiff, Nat.add_sub_cancel, eq_self_iff_true, L_0, L_1, L_2, L_3, L_4, L_5, L_6, L_7, L_8, L_9, L_10, L_16, L_20, L_21, L_24, L_31, L_64, L_100, L_320, L_400, L_1000, L_256, nI_add, pk_mul, pk_sub, nI_clamp, vp_in_nI, nI_ge, nI_le, nI_lt, nI_nlt, qI_ne, qI_eq, qI_m1, q_all, qI_nm, qI_nm2]
            refine Or.inr ?_
            exact m_append hM (s := 0) (t := 2) (by omega) (by omega) (fun _ => ⟨an_2, Ls, hM, hs⟩) (fun h => absurd h hl)
      · rcases (show t = 0 ∨ t = 1 ∨ t = 2 by omega) with rfl | rfl | rfl
        · have hC := (hs 1 (by omega)).1
          have hD := (hs 0 (by omega)).1
          have hv := gv_ap (hs 1 (by omega)).2 (hs 0 (by omega)).2
          have i1 : c2 = nI (Ls 1).length := hC.1
          have i2 : c1 = nI (Ls 0).length := hD.1
          have i3 := hC.2.1
          have i4 := hD.2.1
          subst i1
          subst i2
          by_cases hl : (Ls 1).length + (Ls 0).length ≤ 64
          · simp (disch := omega) only [wpL_append, wpX6_append, zvX0_count, not_true_eq_false, not_false_eq_true, forall_const, true_implies, false_implies, implies_true, and_true, true_and, and_self, Nat.not_lt_zero, ne_eq, if_true, if_false, reduceIte, Nat.reduceAdd, Nat.reduceMul, Nat.reduceSub, Nat.reduceLT, Nat.reduceLeDiff, Nat.reduceEqDiff, Nat.add_sub_cancel, eq_self_iff_true, L_0, L_1, L_2, L_3, L_4, L_5, L_6, L_7, L_8, L_9, L_10, L_16, L_20, L_21, L_24, L_31, L_64, L_100, L_320, L_400, L_1000, L_256, nI_add, pk_mul, pk_sub, nI_clamp, vp_in_nI, nI_ge, nI_le, nI_lt, nI_nlt, qI_ne, qI_eq, qI_m1, q_all, qI_nm, qI_nm2]
            refine y_addAll hC hD hl (fun c6 f6 h6 => ?_)
            obtain rfl := h6.1
            exact m_append hM (s := 1) (t := 0) (by omega) (by omega) (fun h => absurd hl (by omega)) (fun _ z k a b c hz => ⟨⟨rfl, fun _ => rfl⟩, c3_1 hs hz up_n upS_s h6 hv⟩)
          · simp (disch := omega) only [wpL_append, wpX6_append, zvX0_count, not_true_eq_false, not_false_eq_true, forall_const, true_implies, false_implies, implies_true, and_true, true_and, and_self, Nat.not_lt_zero, ne_eq, if_true, if_false, reduceIte, Nat.reduceAdd, Nat.reduceMul, Nat.reduceSub, Nat.reduceLT, Nat.reduceLeDiff, Nat.reduceEqDiff, Nat.add_sub_cancel, eq_self_iff_true, L_0, L_1, L_2, L_3, L_4, L_5, L_6, L_7, L_8, L_9, L_10, L_16, L_20, L_21, L_24, L_31, L_64, L_100, L_320, L_400, L_1000, L_256, nI_add, pk_mul, pk_sub, nI_clamp, vp_in_nI, nI_ge, nI_le, nI_lt, nI_nlt, qI_ne, qI_eq, qI_m1, q_all, qI_nm, qI_nm2]
            refine Or.inr ?_
            exact m_append hM (s := 1) (t := 0) (by omega) (by omega) (fun _ => ⟨an_2, Ls, hM, hs⟩) (fun h => absurd h hl)
        · have hC := (hs 1 (by omega)).1
          have hD := (hs 1 (by omega)).1
          have hv := gv_ap (hs 1 (by omega)).2 (hs 1 (by omega)).2
          have i1 : c2 = nI (Ls 1).length := hC.1
          have i2 : c2 = nI (Ls 1).length := hD.1
          have i3 := hC.2.1
          have i4 := hD.2.1
          subst i1
          by_cases hl : (Ls 1).length + (Ls 1).length ≤ 64
          · simp (disch := omega) only [wpL_append, wpX6_append, zvX0_count, not_true_eq_false, not_false_eq_true, forall_const, true_implies, false_implies, implies_true, and_true, true_and, and_self, Nat.not_lt_zero, ne_eq, if_true, if_false, reduceIte, Nat.reduceAdd, Nat.reduceMul, Nat.reduceSub, Nat.reduceLT, Nat.reduceLeDiff, Nat.reduceEqDiff, Nat.add_sub_cancel, eq_self_iff_true, L_0, L_1, L_2, L_3, L_4, L_5, L_6, L_7, L_8, L_9, L_10, L_16, L_20, L_21, L_24, L_31, L_64, L_100, L_320, L_400, L_1000, L_256, nI_add, pk_mul, pk_sub, nI_clamp, vp_in_nI, nI_ge, nI_le, nI_lt, nI_nlt, qI_ne, qI_eq, qI_m1, q_all, qI_nm, qI_nm2]
            refine y_addSelf hC hl (fun c6 f6 h6 => ?_)
            obtain rfl := h6.1
            exact m_append hM (s := 1) (t := 1) (by omega) (by omega) (fun h => absurd hl (by omega)) (fun _ z k a b c hz => ⟨⟨rfl, fun _ => rfl⟩, c3_1 hs hz up_n upS_s h6 hv⟩)
          · simp (disch := omega) only [wpL_append, wpX6_append, zvX0_count, not_true_eq_false, not_false_eq_true, forall_const, true_implies, false_implies, implies_true, and_true, true_and, and_self, Nat.not_lt_zero, ne_eq, if_true, if_false, reduceIte, Nat.reduceAdd, Nat.reduceMul, Nat.reduceSub, Nat.reduceLT, Nat.reduceLeDiff, Nat.reduceEqDiff, Nat.add_sub_cancel, eq_self_iff_true, L_0, L_1, L_2, L_3, L_4, L_5, L_6, L_7, L_8, L_9, L_10, L_16, L_20, L_21, L_24, L_31, L_64, L_100, L_320, L_400, L_1000, L_256, nI_add, pk_mul, pk_sub, nI_clamp, vp_in_nI, nI_ge, nI_le, nI_lt, nI_nlt, qI_ne, qI_eq, qI_m1, q_all, qI_nm, qI_nm2]
            refine Or.inr ?_
            exact m_append hM (s := 1) (t := 1) (by omega) (by omega) (fun _ => ⟨an_2, Ls, hM, hs⟩) (fun h => absurd h hl)
        · have hC := (hs 1 (by omega)).1
          have hD := (hs 2 (by omega)).1
          have hv := gv_ap (hs 1 (by omega)).2 (hs 2 (by omega)).2
          have i1 : c2 = nI (Ls 1).length := hC.1
          have i2 : c3 = nI (Ls 2).length := hD.1
          have i3 := hC.2.1
          have i4 := hD.2.1
          subst i1
          subst i2
          by_cases hl : (Ls 1).length + (Ls 2).length ≤ 64
          · simp (disch := omega) only [wpL_append, wpX6_append, zvX0_count, not_true_eq_false, not_false_eq_true, forall_const, true_implies, false_implies, implies_true, and_true, true_and, and_self, Nat.not_lt_zero, ne_eq, if_true, if_false, reduceIte, Nat.reduceAdd, Nat.reduceMul, Nat.reduceSub, Nat.reduceLT, Nat.reduceLeDiff, Nat.reduceEqDiff, Nat.add_sub_cancel, eq_self_iff_true, L_0, L_1, L_2, L_3, L_4, L_5, L_6, L_7, L_8, L_9, L_10, L_16, L_20, L_21, L_24, L_31, L_64, L_100, L_320, L_400, L_1000, L_256, nI_add, pk_mul, pk_sub, nI_clamp, vp_in_nI, nI_ge, nI_le, nI_lt, nI_nlt, qI_ne, qI_eq, qI_m1, q_all, qI_nm, qI_nm2]
            refine y_addAll hC hD hl (fun c6 f6 h6 => ?_)
            obtain rfl := h6.1
            exact m_append hM (s := 1) (t := 2) (by omega) (by omega) (fun h => absurd hl (by omega)) (fun _ z k a b c hz => ⟨⟨rfl, fun _ => rfl⟩, c3_1 hs hz up_n upS_s h6 hv⟩)
          · simp (disch := omega) only [wpL_append, wpX6_append, zvX0_count, not_true_eq_false, not_false_eq_true, forall_const, true_implies, false_implies, implies_true, and_true, true_and, and_self, Nat.not_lt_zero, ne_eq, if_true, if_false, reduceIte, Nat.reduceAdd, Nat.reduceMul, Nat.reduceSub, Nat.reduceLT, Nat.reduceLeDiff, Nat.reduceEqDiff, Nat.add_sub_cancel, eq_self_iff_true, L_0, L_1, L_2, L_3, L_4, L_5, L_6, L_7, L_8, L_9, L_10, L_16, L_20, L_21, L_24, L_31, L_64, L_100, L_320, L_400, L_1000, L_256, nI_add, pk_mul, pk_sub, nI_clamp, vp_in_nI, nI_ge, nI_le, nI_lt, nI_nlt, qI_ne, qI_eq, qI_m1, q_all, qI_nm, qI_nm2]
            refine Or.inr ?_
            exact m_append hM (s := 1) (t := 2) (by omega) (by omega) (fun _ => ⟨an_2, Ls, hM, hs⟩) (fun h => absurd h hl)
      · rcases (show t = 0 ∨ t = 1 ∨ t = 2 by omega) with rfl | rfl | rfl
        · have hC := (hs 2 (by omega)).1
          have hD := (hs 0 (by omega)).1
          have hv := gv_ap (hs 2 (by omega)).2 (hs 0 (by omega)).2
          have i1 : c3 = nI (Ls 2).length := hC.1
          have i2 : c1 = nI (Ls 0).length := hD.1
          have i3 := hC.2.1
          have i4 := hD.2.1
          subst i1
          subst i2
          by_cases hl : (Ls 2).length + (Ls 0).length ≤ 64
          · simp (disch := omega) only [wpL_append, wpX6_append, zvX0_count, not_true_eq_false, not_false_eq_true, forall_const, true_implies, false_implies, implies_true, and_true, true_and, and_self, Nat.not_lt_zero, ne_eq, if_true, if_false, reduceIte, Nat.reduceAdd, Nat.reduceMul, Nat.reduceSub, Nat.reduceLT, Nat.reduceLeDiff, Nat.reduceEqDiff, Nat.add_sub_cancel, eq_self_iff_true, L_0, L_1, L_2, L_3, L_4, L_5, L_6, L_7, L_8, L_9, L_10, L_16, L_20, L_21, L_24, L_31, L_64, L_100, L_320, L_400, L_1000, L_256, nI_add, pk_mul, pk_sub, nI_clamp, vp_in_nI, nI_ge, nI_le, nI_lt, nI_nlt, qI_ne, qI_eq, qI_m1, q_all, qI_nm, qI_nm2]
            refine y_addAll hC hD hl (fun c6 f6 h6 => ?_)
            obtain rfl := h6.1
            exact m_append hM (s := 2) (t := 0) (by omega) (by omega) (fun h => absurd hl (by omega)) (fun _ z k a b c hz => ⟨⟨rfl, fun _ => rfl⟩, c3_2 hs hz up_n upS_s h6 hv⟩)
          · simp (disch := omega) only [wpL_append, wpX6_append, zvX0_count, not_true_eq_false, not_false_eq_true, forall_const, true_implies, false_implies, implies_true, and_true, true_and, and_self, Nat.not_lt_zero, ne_eq, if_true, if_false, reduceIte, Nat.reduceAdd, Nat.reduceMul, Nat.reduceSub, Nat.reduceLT, Nat.reduceLeDiff, Nat.reduceEqDiff, Nat.add_sub_cancel, eq_self_iff_true, L_0, L_1, L_2, L_3, L_4, L_5, L_6, L_7, L_8, L_9, L_10, L_16, L_20, L_21, L_24, L_31, L_64, L_100, L_320, L_400, L_1000, L_256, nI_add, pk_mul, pk_sub, nI_clamp, vp_in_nI, nI_ge, nI_le, nI_lt, nI_nlt, qI_ne, qI_eq, qI_m1, q_all, qI_nm, qI_nm2]
            refine Or.inr ?_
            exact m_append hM (s := 2) (t := 0) (by omega) (by omega) (fun _ => ⟨an_2, Ls, hM, hs⟩) (fun h => absurd h hl)
        · have hC := (hs 2 (by omega)).1
          have hD := (hs 1 (by omega)).1
          have hv := gv_ap (hs 2 (by omega)).2 (hs 1 (by omega)).2
          have i1 : c3 = nI (Ls 2).length := hC.1
          have i2 : c2 = nI (Ls 1).length := hD.1
          have i3 := hC.2.1
          have i4 := hD.2.1
          subst i1
          subst i2
          by_cases hl : (Ls 2).length + (Ls 1).length ≤ 64
          · simp (disch := omega) only [wpL_append, wpX6_append, zvX0_count, not_true_eq_false, not_false_eq_true, forall_const, true_implies, false_implies, implies_true, and_true, true_and, and_self, Nat.not_lt_zero, ne_eq, if_true, if_false, reduceIte, Nat.reduceAdd, Nat.reduceMul, Nat.reduceSub, Nat.reduceLT, Nat.reduceLeDiff, Nat.reduceEqDiff, Nat.add_sub_cancel, eq_self_iff_true, L_0, L_1, L_2, L_3, L_4, L_5, L_6, L_7, L_8, L_9, L_10, L_16, L_20, L_21, L_24, L_31, L_64, L_100, L_320, L_400, L_1000, L_256, nI_add, pk_mul, pk_sub, nI_clamp, vp_in_nI, nI_ge, nI_le, nI_lt, nI_nlt, qI_ne, qI_eq, qI_m1, q_all, qI_nm, qI_nm2]
            refine y_addAll hC hD hl (fun c6 f6 h6 => ?_)
            obtain rfl := h6.1
            exact m_append hM (s := 2) (t := 1) (by omega) (by omega) (fun h => absurd hl (by omega)) (fun _ z k a b c hz => ⟨⟨rfl, fun _ => rfl⟩, c3_2 hs hz up_n upS_s h6 hv⟩)
          · simp (disch := omega) only [wpL_append, wpX6_append, zvX0_count, not_true_eq_false, not_false_eq_true, forall_const, true_implies, false_implies, implies_true, and_true, true_and, and_self, Nat.not_lt_zero, ne_eq, if_true, if_false, reduceIte, Nat.reduceAdd, Nat.reduceMul, Nat.reduceSub, Nat.reduceLT, Nat.reduceLeDiff, Nat.reduceEqDiff, Nat.add_sub_cancel, eq_self_iff_true, L_0, L_1, L_2, L_3, L_4, L_5, L_6, L_7, L_8, L_9, L_10, L_16, L_20, L_21, L_24, L_31, L_64, L_100, L_320, L_400, L_1000, L_256, nI_add, pk_mul, pk_sub, nI_clamp, vp_in_nI, nI_ge, nI_le, nI_lt, nI_nlt, qI_ne, qI_eq, qI_m1, q_all, qI_nm, qI_nm2]
            refine Or.inr ?_
            exact m_append hM (s := 2) (t := 1) (by omega) (by omega) (fun _ => ⟨an_2, Ls, hM, hs⟩) (fun h => absurd h hl)
        · have hC := (hs 2 (by omega)).1
          have hD := (hs 2 (by omega)).1
          have hv := gv_ap (hs 2 (by omega)).2 (hs 2 (by omega)).2
          have i1 : c3 = nI (Ls 2).length := hC.1
          have i2 : c3 = nI (Ls 2).length := hD.1
          have i3 := hC.2.1
          have i4 := hD.2.1
          subst i1
          by_cases hl : (Ls 2).length + (Ls 2).length ≤ 64
          · simp (disch := omega) only [wpL_append, wpX6_append, zvX0_count, not_true_eq_false, not_false_eq_true, forall_const, true_implies, false_implies, implies_true, and_true, true_and, and_self, Nat.not_lt_zero, ne_eq, if_true, if_false, reduceIte, Nat.reduceAdd, Nat.reduceMul, Nat.reduceSub, Nat.reduceLT, Nat.reduceLeDiff, Nat.reduceEqDiff, Nat.add_sub_cancel, eq_self_iff_true, L_0, L_1, L_2, L_3, L_4, L_5, L_6, L_7, L_8, L_9, L_10, L_16, L_20, L_21, L_24, L_31, L_64, L_100, L_320, L_400, L_1000, L_256, nI_add, pk_mul, pk_sub, nI_clamp, vp_in_nI, nI_ge, nI_le, nI_lt, nI_nlt, qI_ne, qI_eq, qI_m1, q_all, qI_nm, qI_nm2]
            refine y_addSelf hC hl (fun c6 f6 h6 => ?_)
            obtain rfl := h6.1
            exact m_append hM (s := 2) (t := 2) (by omega) (by omega) (fun h => absurd hl (by omega)) (fun _ z k a b c hz => ⟨⟨rfl, fun _ => rfl⟩, c3_2 hs hz up_n upS_s h6 hv⟩)
          · simp (disch := omega) only [wpL_append, wpX6_append, zvX0_count, not_true_eq_false, not_false_eq_true, forall_const, true_implies, false_implies, implies_true, and_true, true_and, and_self, Nat.not_lt_zero, ne_eq, if_true, if_false, reduceIte, Nat.reduceAdd, Nat.reduceMul, Nat.reduceSub, Nat.reduceLT, Nat.reduceLeDiff, Nat.reduceEqDiff, Nat.add_sub_cancel, eq_self_iff_true, L_0, L_1, L_2, L_3, L_4, L_5, L_6, L_7, L_8, L_9, L_10, L_16, L_20, L_21, L_24, L_31, L_64, L_100, L_320, L_400, L_1000, L_256, nI_add, pk_mul, pk_sub, nI_clamp, vp_in_nI, nI_ge, nI_le, nI_lt, nI_nlt, qI_ne, qI_eq, qI_m1, q_all, qI_nm, qI_nm2]
            refine Or.inr ?_
            exact m_append hM (s := 2) (t := 2) (by omega) (by omega) (fun _ => ⟨an_2, Ls, hM, hs⟩) (fun h => absurd h hl)
    · have e := slot_f hy
      have h0 : ¬ y = 0 := fun h => hy (Or.inl h)
      have h1 : ¬ y = 1 := fun h => hy (Or.inr (Or.inl h))
      have h2 : ¬ y = 2 := fun h => hy (Or.inr (Or.inr h))
      have fin : wpX7_append (fun B F z k a b c => AN 1 o F B.toInt64 ∧ C3 n c1 c2 c3 g1 g2 g3 z k a b c) (nI s) y ft z k a b c := m_appendF (Or.inr e) ⟨an_1, Ls, hM, hs⟩
      have f3 : ∀ {P Q R : Prop} {S : Prop}, S → (y = 0 → P) ∧ (¬ y = 0 → (y = 1 → Q) ∧ (¬ y = 1 → (y = 2 → R) ∧ (¬ y = 2 → S))) := fun hS => ⟨fun h => absurd h h0, fun _ => ⟨fun h => absurd h h1, fun _ => ⟨fun h => absurd h h2, fun _ => hS⟩⟩⟩
      rcases (show s = 0 ∨ s = 1 ∨ s = 2 by omega) with rfl | rfl | rfl
      · exact ⟨fun _ => f3 (Or.inl ⟨rfl, fin⟩), fun h => absurd rfl h⟩
      · exact ⟨fun h => absurd h (by decide), fun _ => ⟨fun _ => f3 (Or.inl ⟨rfl, fin⟩), fun h => absurd rfl h⟩⟩
      · exact ⟨fun h => absurd h (by decide), fun _ => ⟨fun h => absurd h (by decide), fun _ => ⟨fun _ => f3 (Or.inl ⟨rfl, fin⟩), fun h => absurd rfl h⟩⟩⟩
  · have e := slot_f hx
    have h0 : ¬ x = 0 := fun h => hx (Or.inl h)
    have h1 : ¬ x = 1 := fun h => hx (Or.inr (Or.inl h))
    have h2 : ¬ x = 2 := fun h => hx (Or.inr (Or.inr h))
    have fin : wpX7_append (fun B F z k a b c => AN 1 o F B.toInt64 ∧ C3 n c1 c2 c3 g1 g2 g3 z k a b c) x y ft z k a b c := m_appendF (Or.inl e) ⟨an_1, Ls, hM, hs⟩
    exact ⟨fun h => absurd h h0, fun _ => ⟨fun h => absurd h h1, fun _ => ⟨fun h => absurd h h2, fun _ => ⟨fun _ => Or.inl ⟨rfl, fin⟩, fun _ => ⟨fun _ => Or.inl ⟨rfl, fin⟩, fun _ => ⟨fun _ => Or.inl ⟨rfl, fin⟩, fun _ => Or.inl ⟨rfl, fin⟩⟩⟩⟩⟩⟩⟩
end
