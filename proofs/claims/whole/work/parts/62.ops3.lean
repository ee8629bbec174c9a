/-! One row an operation: gate, gateAt, wires. -/
section
variable {n : Nat} {c1 c2 c3 : Int32} {g1 g2 g3 z k a b c : Nat → Int32} {Ls Ls' : Nat → List Nat}
theorem m_gateF {Q : Int32 → Int32 → (Nat → Int32) → (Nat → Int32) → (Nat → Int32) → (Nat → Int32) → (Nat → Int32) → Prop} {x x2 x3 x4 x5 wi ft : Int32} (e : zvX7_isSlot x = 0 ∨ zvX7_isGate x2 x3 x4 x5 wi = 0) (h : Q 0 1 z k a b c) : wpX7_gate Q x x2 x3 x4 x5 wi ft z k a b c := by
  have f : wpX7_gate_21 Q wi x x2 x3 x4 x5 ft z k a b c := ⟨fun h => absurd h (by decide), fun _ => h⟩
  unfold wpX7_gate
  by_cases e1 : zvX7_isSlot x = 0
  · exact ⟨fun _ => f, fun h => absurd e1 h⟩
  · exact ⟨fun h => absurd h e1, fun _ => ⟨fun _ => f, fun h => absurd (e.resolve_left e1) h⟩⟩
theorem ws_3 (k : Nat) : (k = 9 ∧ wsN k = 3) ∨ (k ≠ 9 ∧ k < 6 ∧ wsN k = 1) ∨ (k ≠ 9 ∧ ¬ k < 6 ∧ wsN k = 2) := by
  unfold wsN
  by_cases h9 : k = 9
  · exact Or.inl ⟨h9, by rw [if_pos h9]⟩
  · by_cases h6 : k < 6
    · exact Or.inr (Or.inl ⟨h9, h6, by rw [if_neg h9, if_pos h6]⟩)
    · exact Or.inr (Or.inr ⟨h9, h6, by rw [if_neg h9, if_neg h6]⟩)
theorem m_gate {Q : Int32 → Int32 → (Nat → Int32) → (Nat → Int32) → (Nat → Int32) → (Nat → Int32) → (Nat → Int32) → Prop} {s g : Nat} {x2 x3 x4 x5 wi ft : Int32} (hM : MM z k a b c Ls) (hs : s < 3) (hg : g < 10000) (e : zvX7_isGate x2 x3 x4 x5 wi = 1) (e2 : x2 = nI (kN g)) (e3 : x3 = nI (aN g)) (e4 : 6 ≤ kN g → x4 = nI (bN g)) (e5 : kN g = 9 → x5 = nI (cN g))
    (h2 : (Ls s).length = 64 → Q 0 2 z k a b c) (h0 : (Ls s).length < 64 → ∀ z k a b c, MM z k a b c (upS Ls s (Ls s ++ [g])) → Q (nI (Ls s ++ [g]).length) 0 z k a b c) : wpX7_gate Q (nI s) x2 x3 x4 x5 wi ft z k a b c := by
  obtain ⟨m1, m2', m3'⟩ := hM s (by omega)
  unfold wpX7_gate
  rw [slot_t hs, e]
  refine ⟨fun h => absurd h (by decide), fun _ => ⟨fun h => absurd h (by decide), fun _ => ⟨vp_in_nI (by omega) (by omega), ?_⟩⟩⟩
  rw [nI_clamp (by omega), m1, show (nI (Ls s).length = 64) ↔ (Ls s).length = 64 from nI_eq (b := 64) (by omega) (by omega)]
  refine ⟨fun h9 => ⟨fun h => absurd h (by decide), fun _ => h2 h9⟩, fun h9 => ?_⟩
  have h0 := h0 (by omega)
  unfold wpX7_gate_41
  refine ⟨fun _ => ?_, fun h => absurd (by decide) h⟩
  have hk := kN_lt g
  have hn : zvX7_needs x2 = nI (wsN (kN g)) := by rw [e2]; exact y_needs _ hk
  have hw := ws_3 (kN g)
  have hw3 : wsN (kN g) ≤ 3 := by omega
  have put : ∀ u v, u = m2 g → v = m3 g → wpX7_put (fun z k a b c => vp_in (nI s) 5 ∧ Q (z (nI s).toNatClampNeg) 0 z k a b c) (nI s) x2 x3 u v z k a b c := fun u v hu hv => m_put hM (by omega) (by omega) hg e2 e3 hu hv (fun z k a b c hz => ⟨vp_in_nI (by omega) (by omega), by
    have := (hz s (by omega)).1
    rw [upS_s] at this
    rw [nI_clamp (by omega), this]
    exact h0 _ _ _ _ _ hz⟩)
  have g71 : ∀ u, u = m2 g → wpX7_gate_71 Q wi (nI s) x2 x5 (nI s) x2 x3 u 0 z k a b c := fun u hu => by
    unfold wpX7_gate_71
    rw [hn]
    refine ⟨fun h8 => ?_, fun h8 => ?_⟩
    · have h8 : wsN (kN g) ≤ 2 := (nI_leI (b := 2) (by omega) (by omega)).mp h8
      refine put _ _ hu ?_
      unfold m3
      rw [if_neg (by omega)]
    · have h8 : ¬ wsN (kN g) ≤ 2 := fun h7 => h8 (nI_le (b := 2) h7 (by omega))
      have h9 : kN g = 9 := by omega
      refine put _ _ hu ?_
      unfold m3
      rw [if_pos h9]; exact e5 h9
  rw [hn]
  refine ⟨fun h8 => g71 _ ?_, fun h8 => g71 _ ?_⟩
  · have h8 : wsN (kN g) ≤ 1 := (nI_leI (b := 1) (by omega) (by omega)).mp h8
    unfold m2
    rw [if_neg (by omega)]
  · have h8 : ¬ wsN (kN g) ≤ 1 := fun h7 => h8 (nI_le (b := 1) h7 (by omega))
    have h9 : 6 ≤ kN g := by omega
    unfold m2
    rw [if_pos h9]; exact e4 h9
theorem o_gate {x x2 x3 x4 x5 ft : Int32} {o : Nat → Int64} (h1n : 1 ≤ n) (hn : n < 5) (h : C3 n c1 c2 c3 g1 g2 g3 z k a b c) : wpL_gate (fun K o c1 c2 c3 g1 g2 g3 => wpX7_gate (fun B F z k a b c => AN K o F B.toInt64 ∧ C3 n c1 c2 c3 g1 g2 g3 z k a b c) x x2 x3 x4 x5 (nI n) ft z k a b c) x x2 x3 x4 x5 (nI n) o c1 c2 c3 g1 g2 g3 := by
  obtain ⟨Ls, hM, hs⟩ := h
  rcases sl_c x with ⟨s, h3, rfl⟩ | hx
  · rcases gate_ok x2 x3 x4 x5 h1n hn with ⟨f1, f2⟩ | ⟨f1, f2, g, hg, f3, f4, f5, f6, f7⟩
    · have fin : wpX7_gate (fun B F z k a b c => AN 1 o F B.toInt64 ∧ C3 n c1 c2 c3 g1 g2 g3 z k a b c) (nI s) x2 x3 x4 x5 (nI n) ft z k a b c := m_gateF (Or.inr f2) ⟨an_1, Ls, hM, hs⟩
      unfold wpL_gate wpX6_gate
      rw [f1]
      rcases (show s = 0 ∨ s = 1 ∨ s = 2 by omega) with rfl | rfl | rfl
      · exact ⟨fun _ => ⟨fun _ => Or.inl ⟨rfl, fin⟩, fun h => absurd rfl h⟩, fun h => absurd rfl h⟩
      · exact ⟨fun h => absurd h (by decide), fun _ => ⟨fun _ => ⟨fun _ => Or.inl ⟨rfl, fin⟩, fun h => absurd rfl h⟩, fun h => absurd rfl h⟩⟩
      · exact ⟨fun h => absurd h (by decide), fun _ => ⟨fun h => absurd h (by decide), fun _ => ⟨fun _ => ⟨fun _ => Or.inl ⟨rfl, fin⟩, fun h => absurd rfl h⟩, fun h => absurd rfl h⟩⟩⟩
    · have hg4 := gv_lt hg
      rcases (show s = 0 ∨ s = 1 ∨ s = 2 by omega) with rfl | rfl | rfl
      · have hC := (hs 0 (by omega)).1
        have i1 : c1 = nI (Ls 0).length := hC.1
        have i3 := hC.2.1
        subst i1
        have hv : ∀ x ∈ Ls 0 ++ [g], gv n x = true := fun x hx => (List.mem_append.mp hx).elim ((hs 0 (by omega)).2 x) (fun h => by rw [List.mem_singleton.mp h]; exact hg)
        by_cases hl : (Ls 0).length < 64
        · simp (disch := omega) only [wpL_gate, wpX6_gate, zvX0_count, f1, f3, not_true_eq_false, not_false_eq_true, forall_const, true_implies, false_implies, implies_true, and_true, true_and, and_self, Nat.not_lt_zero, ne_eq, if_true, if_false, reduceIte, Nat.reduceAdd, Nat.reduceMul, Nat.reduceSub, Nat.reduceLT, Nat.reduceLeDiff, Nat.reduceEqDiff, Nat.add_sub_cancel, eq_self_iff_true, L_0, L_1, L_2, L_3, L_4, L_5, L_6, L_7, L_8, L_9, L_10, L_16, L_20, L_21, L_24, L_31, L_64, L_100, L_320, L_400, L_1000, L_256, nI_add, pk_mul, pk_sub, nI_clamp, vp_in_nI, nI_ge, nI_le, nI_lt, nI_nlt, qI_ne, qI_eq, qI_m1, q_all, qI_nm, qI_nm2]
          refine y_add hC hl hg4 (fun c6 f8 h6 => ?_)
          obtain rfl := h6.1
          exact m_gate hM (s := 0) (by omega) hg4 f2 f4 f5 f6 f7 (fun h => absurd hl (by omega)) (fun _ z k a b c hz => ⟨⟨rfl, fun _ => rfl⟩, c3_0 hs hz up_n upS_s h6 hv⟩)
        · simp (disch := omega) only [wpL_gate, wpX6_gate, zvX0_count, f1, f3, not_true_eq_false, not_false_eq_true, forall_const, true_implies, false_implies, implies_true, and_true, true_and, and_self, Nat.not_lt_zero, ne_eq, if_true, if_false, reduceIte, Nat.reduceAdd, Nat.reduceMul, Nat.reduceSub, Nat.reduceLT, Nat.reduceLeDiff, Nat.reduceEqDiff, Nat.add_sub_cancel, eq_self_iff_true, L_0, L_1, L_2, L_3, L_4, L_5, L_6, L_7, L_8, L_9, L_10, L_16, L_20, L_21, L_24, L_31, L_64, L_100, L_320, L_400, L_1000, L_256, nI_add, pk_mul, pk_sub, nI_clamp, vp_in_nI, nI_ge, nI_le, nI_lt, nI_nlt, qI_ne, qI_eq, qI_m1, q_all, qI_nm, qI_nm2]
          refine Or.inr ?_
          exact m_gate hM (s := 0) (by omega) hg4 f2 f4 f5 f6 f7 (fun _ => ⟨an_2, Ls, hM, hs⟩) (fun h => absurd h hl)
      · have hC := (hs 1 (by omega)).1
        have i1 : c2 = nI (Ls 1).length := hC.1
        have i3 := hC.2.1
        subst i1
        have hv : ∀ x ∈ Ls 1 ++ [g], gv n x = true := fun x hx => (List.mem_append.mp hx).elim ((hs 1 (by omega)).2 x) (fun h => by rw [List.mem_singleton.mp h]; exact hg)
        by_cases hl : (Ls 1).length < 64
        · simp (disch := omega) only [wpL_gate, wpX6_gate, zvX0_count, f1, f3, not_true_eq_false, not_false_eq_true, forall_const, true_implies, false_implies, implies_true, and_true, true_and, and_self, Nat.not_lt_zero, ne_eq, if_true, if_false, reduceIte, Nat.reduceAdd, Nat.reduceMul, Nat.reduceSub, Nat.reduceLT, Nat.reduceLeDiff, Nat.reduceEqDiff, Nat.add_sub_cancel, eq_self_iff_true, L_0, L_1, L_2, L_3, L_4, L_5, L_6, L_7, L_8, L_9, L_10, L_16, L_20, L_21, L_24, L_31, L_64, L_100, L_320, L_400, L_1000, L_256, nI_add, pk_mul, pk_sub, nI_clamp, vp_in_nI, nI_ge, nI_le, nI_lt, nI_nlt, qI_ne, qI_eq, qI_m1, q_all, qI_nm, qI_nm2]
          refine y_add hC hl hg4 (fun c6 f8 h6 => ?_)
          obtain rfl := h6.1
          exact m_gate hM (s := 1) (by omega) hg4 f2 f4 f5 f6 f7 (fun h => absurd hl (by omega)) (fun _ z k a b c hz => ⟨⟨rfl, fun _ => rfl⟩, c3_1 hs hz up_n upS_s h6 hv⟩)
        · simp (disch := omega) only [wpL_gate, wpX6_gate, zvX0_count, f1, f3, not_true_eq_false, not_false_eq_true, forall_const, true_implies, false_implies, implies_true, and_true, true_and, and_self, Nat.not_lt_zero, ne_eq, if_true, if_false, reduceIte, Nat.reduceAdd, Nat.reduceMul, Nat.reduceSub, Nat.reduceLT, Nat.reduceLeDiff, Nat.reduceEqDiff, Nat.add_sub_cancel, eq_self_iff_true, L_0, L_1, L_2, L_3, L_4, L_5, L_6, L_7, L_8, L_9, L_10, L_16, L_20, L_21, L_24, L_31, L_64, L_100, L_320, L_400, L_1000, L_256, nI_add, pk_mul, pk_sub, nI_clamp, vp_in_nI, nI_ge, nI_le, nI_lt, nI_nlt, qI_ne, qI_eq, qI_m1, q_all, qI_nm, qI_nm2]
          refine Or.inr ?_
          exact m_gate hM (s := 1) (by omega) hg4 f2 f4 f5 f6 f7 (fun _ => ⟨an_2, Ls, hM, hs⟩) (fun h => absurd h hl)
      · have hC := (hs 2 (by omega)).1
        have i1 : c3 = nI (Ls 2).length := hC.1
        have i3 := hC.2.1
        subst i1
        have hv : ∀ x ∈ Ls 2 ++ [g], gv n x = true := fun x hx => (List.mem_append.mp hx).elim ((hs 2 (by omega)).2 x) (fun h => by rw [List.mem_singleton.mp h]; exact hg)
        by_cases hl : (Ls 2).length < 64
        · simp (disch := omega) only [wpL_gate, wpX6_gate, zvX0_count, f1, f3, not_true_eq_false, not_false_eq_true, forall_const, true_implies, false_implies, implies_true, and_true, true_and, and_self, Nat.not_lt_zero, ne_eq, if_true, if_false, reduceIte, Nat.reduceAdd, Nat.reduceMul, Nat.reduceSub, Nat.reduceLT, Nat.reduceLeDiff, Nat.reduceEqDiff, Nat.add_sub_cancel, eq_self_iff_true, L_0, L_1, L_2, L_3, L_4, L_5, L_6, L_7, L_8, L_9, L_10, L_16, L_20, L_21, L_24, L_31, L_64, L_100, L_320, L_400, L_1000, L_256, nI_add, pk_mul, pk_sub, nI_clamp, vp_in_nI, nI_ge, nI_le, nI_lt, nI_nlt, qI_ne, qI_eq, qI_m1, q_all, qI_nm, qI_nm2]
          refine y_add hC hl hg4 (fun c6 f8 h6 => ?_)
          obtain rfl := h6.1
          exact m_gate hM (s := 2) (by omega) hg4 f2 f4 f5 f6 f7 (fun h => absurd hl (by omega)) (fun _ z k a b c hz => ⟨⟨rfl, fun _ => rfl⟩, c3_2 hs hz up_n upS_s h6 hv⟩)
        · simp (disch := omega) only [wpL_gate, wpX6_gate, zvX0_count, f1, f3, not_true_eq_false, not_false_eq_true, forall_const, true_implies, false_implies, implies_true, and_true, true_and, and_self, Nat.not_lt_zero, ne_eq, if_true, if_false, reduceIte, Nat.reduceAdd, Nat.reduceMul, Nat.reduceSub, Nat.reduceLT, Nat.reduceLeDiff, Nat.reduceEqDiff, Nat.add_sub_cancel, eq_self_iff_true, L_0, L_1, L_2, L_3, L_4, L_5, L_6, L_7, L_8, L_9, L_10, L_16, L_20, L_21, L_24, L_31, L_64, L_100, L_320, L_400, L_1000, L_256, nI_add, pk_mul, pk_sub, nI_clamp, vp_in_nI, nI_ge, nI_le, nI_lt, nI_nlt, qI_ne, qI_eq, qI_m1, q_all, qI_nm, qI_nm2]
          refine Or.inr ?_
          exact m_gate hM (s := 2) (by omega) hg4 f2 f4 f5 f6 f7 (fun _ => ⟨an_2, Ls, hM, hs⟩) (fun h => absurd h hl)
  · have e := slot_f hx
    have h0 : ¬ x = 0 := fun h => hx (Or.inl h)
    have h1 : ¬ x = 1 := fun h => hx (Or.inr (Or.inl h))
    have h2 : ¬ x = 2 := fun h => hx (Or.inr (Or.inr h))
    refine ⟨fun h => absurd h h0, fun _ => ⟨fun h => absurd h h1, fun _ => ⟨fun h => absurd h h2, fun _ => Or.inl ⟨rfl, ?_⟩⟩⟩⟩
    exact m_gateF (Or.inl e) ⟨an_1, Ls, hM, hs⟩
theorem hi_l : ∀ l, l < 65 → (nI l).toInt64 - 1 = (nI l - nI 1).toInt64 := by decide +kernel
theorem m_gateAt {Q : Int32 → Int32 → Prop} {s j : Nat} {ft : Int32} (hM : MM z k a b c Ls) (hs : s < 3) (hj : j < 2 ^ 31) (hv : ∀ x ∈ Ls s, gv n x = true) (h1 : ¬ j < (Ls s).length → Q (-1) 0) (h0 : j < (Ls s).length → Q (nI ((Ls s).getD j 0)) 0) : wpX7_gateAt Q (nI s) (nI j) z k a b c ft := by
  obtain ⟨m1, m2', m3'⟩ := hM s (by omega)
  unfold wpX7_gateAt
  rw [slot_t hs]
  refine ⟨fun h => absurd h (by decide), fun _ => ⟨vp_in_nI (by omega) (by omega), ?_⟩⟩
  rw [nI_clamp (by omega), m1, hi_l _ (by omega), show (0 : Int64) = (0 : Int32).toInt64 from rfl, mz_in]
  have iff : (0 ≤ nI j ∧ nI j ≤ nI (Ls s).length - nI 1) ↔ j < (Ls s).length := by
    cases e : (Ls s).length with
    | zero =>
      refine ⟨fun h => ?_, fun h => absurd h (Nat.not_lt_zero _)⟩
      have h2 := h.2
      rw [Int32.le_iff_toInt_le, nI_toInt hj, show (nI 0 - nI 1).toInt = -1 by decide] at h2
      omega
    | succ l =>
      rw [sub1]
      refine ⟨fun h => ?_, fun h => ⟨nI_pos' hj, nI_le (by omega) (by omega)⟩⟩
      have := (nI_leI hj (by omega)).mp h.2
      omega
  by_cases hj2 : j < (Ls s).length
  · rw [if_pos (iff.mpr hj2)]
    refine ⟨fun h => absurd h (by decide), fun _ => ?_⟩
    have h0 := h0 hj2
    obtain ⟨q1, q2, q3, q4, q5⟩ := m3' j hj2
    have hg := hv _ (g_mem (d := 0) hj2)
    have ge := gv_e hg
    have hk := kN_lt ((Ls s).getD j 0)
    have ha := aN_lt ((Ls s).getD j 0)
    have hb := bN_lt ((Ls s).getD j 0)
    have hc := cN_lt ((Ls s).getD j 0)
    generalize (Ls s).getD j 0 = g at h0 q2 q3 q4 q5 hg ge hk ha hb hc
    unfold m2 at q4
    unfold m3 at q5
    have hm : (nI 0 ≤ -nI 1) = False := eq_false (by decide)
    by_cases h6 : kN g < 6
    · rw [if_neg (by omega)] at q4 q5
      rw [if_pos h6] at ge
      simp (disch := omega) only [wpX7_gateAt_77, q2, q3, q4, q5, hm, not_true_eq_false, not_false_eq_true, forall_const, true_implies, false_implies, implies_true, and_true, true_and, and_self, Nat.not_lt_zero, ne_eq, if_true, if_false, reduceIte, Nat.reduceAdd, Nat.reduceMul, Nat.reduceSub, Nat.reduceLT, Nat.reduceLeDiff, Nat.reduceEqDiff, Nat.add_sub_cancel, eq_self_iff_true, L_0, L_1, L_2, L_3, L_4, L_5, L_6, L_7, L_8, L_9, L_10, L_16, L_20, L_21, L_24, L_31, L_64, L_100, L_320, L_400, L_1000, L_256, nI_add, pk_mul, pk_sub, nI_clamp, vp_in_nI, nI_ge, nI_le, nI_lt, nI_nlt, qI_ne, qI_eq, qI_m1, q_all, qI_nm, qI_nm2]
      refine Eq.mp (congrArg (fun t => Q (nI t) 0) ?_) h0
      omega
    · rw [if_pos (by omega)] at q4
      rw [if_neg h6] at ge
      by_cases h9 : kN g < 9
      · rw [if_neg (by omega)] at q5
        rw [if_pos h9] at ge
        simp (disch := omega) only [wpX7_gateAt_77, q2, q3, q4, q5, hm, not_true_eq_false, not_false_eq_true, forall_const, true_implies, false_implies, implies_true, and_true, true_and, and_self, Nat.not_lt_zero, ne_eq, if_true, if_false, reduceIte, Nat.reduceAdd, Nat.reduceMul, Nat.reduceSub, Nat.reduceLT, Nat.reduceLeDiff, Nat.reduceEqDiff, Nat.add_sub_cancel, eq_self_iff_true, L_0, L_1, L_2, L_3, L_4, L_5, L_6, L_7, L_8, L_9, L_10, L_16, L_20, L_21, L_24, L_31, L_64, L_100, L_320, L_400, L_1000, L_256, nI_add, pk_mul, pk_sub, nI_clamp, vp_in_nI, nI_ge, nI_le, nI_lt, nI_nlt, qI_ne, qI_eq, qI_m1, q_all, qI_nm, qI_nm2]
        refine Eq.mp (congrArg (fun t => Q (nI t) 0) ?_) h0
        omega
      · rw [if_pos (by omega)] at q5
        rw [if_neg h9] at ge
        simp (disch := omega) only [wpX7_gateAt_77, q2, q3, q4, q5, hm, not_true_eq_false, not_false_eq_true, forall_const, true_implies, false_implies, implies_true, and_true, true_and, and_self, Nat.not_lt_zero, ne_eq, if_true, if_false, reduceIte, Nat.reduceAdd, Nat.reduceMul, Nat.reduceSub, Nat.reduceLT, Nat.reduceLeDiff, Nat.reduceEqDiff, Nat.add_sub_cancel, eq_self_iff_true, L_0, L_1, L_2, L_3, L_4, L_5, L_6, L_7, L_8, L_9, L_10, L_16, L_20, L_21, L_24, L_31, L_64, L_100, L_320, L_400, L_1000, L_256, nI_add, pk_mul, pk_sub, nI_clamp, vp_in_nI, nI_ge, nI_le, nI_lt, nI_nlt, qI_ne, qI_eq, qI_m1, q_all, qI_nm, qI_nm2]
        refine Eq.mp (congrArg (fun t => Q (nI t) 0) ?_) h0
        omega
  · rw [if_neg (fun h => hj2 (iff.mp h))]
    exact ⟨fun _ => h1 hj2, fun h => absurd rfl h⟩
theorem m_gateAtN {Q : Int32 → Int32 → Prop} {s : Nat} {x ft : Int32} (hM : MM z k a b c Ls) (hs : s < 3) (hx : x < 0) (h1 : Q (-1) 0) : wpX7_gateAt Q (nI s) x z k a b c ft := by
  obtain ⟨m1, m2', m3'⟩ := hM s (by omega)
  unfold wpX7_gateAt
  rw [slot_t hs]
  refine ⟨fun h => absurd h (by decide), fun _ => ⟨vp_in_nI (by omega) (by omega), ?_⟩⟩
  rw [nI_clamp (by omega), m1, hi_l _ (by omega), show (0 : Int64) = (0 : Int32).toInt64 from rfl, mz_in, if_neg (fun h => by
    have h1 := h.1
    rw [Int32.le_iff_toInt_le] at h1
    rw [Int32.lt_iff_toInt_lt] at hx
    omega)]
  exact ⟨fun _ => h1, fun h => absurd rfl h⟩
theorem o_gateAt {x y ft : Int32} (h : C3 n c1 c2 c3 g1 g2 g3 z k a b c) : wpX6_gateAt (fun r => wpX7_gateAt (fun B F => r = B) x y z k a b c ft) x y c1 c2 c3 g1 g2 g3 := by
  obtain ⟨Ls, hM, hs⟩ := h
  rcases sl_c x with ⟨s, h3, rfl⟩ | hx
  · have hC := (hs s h3).1
    have hr : wpX0_at (fun r => wpX7_gateAt (fun B F => r = B) (nI s) y z k a b c ft) y (sel3 c1 c2 c3 s) (sel3 g1 g2 g3 s) := by
      obtain ⟨C1, C2, C3'⟩ := hC
      unfold wpX0_at
      refine ⟨fun hy => m_gateAtN hM h3 hy rfl, fun hy => ?_⟩
      obtain ⟨j, hj, rfl⟩ := nI_of hy
      rw [C1]
      refine ⟨fun h9 => ?_, fun h9 => ?_⟩
      · have h9 := (nI_leI (by omega) hj).mp h9
        exact m_gateAt hM h3 hj (hs s h3).2 (fun _ => rfl) (fun h => absurd h (by omega))
      · have h9 : j < (Ls s).length := by
          by_cases h8 : j < (Ls s).length
          · exact h8
          · exact absurd (nI_le (by omega) hj) h9
        refine ⟨vp_in_nI (by omega) (by omega), ?_⟩
        rw [nI_clamp hj, (C3' j h9).2]
        exact m_gateAt hM h3 hj (hs s h3).2 (fun h => absurd h9 h) (fun _ => rfl)
    rcases (show s = 0 ∨ s = 1 ∨ s = 2 by omega) with rfl | rfl | rfl
    · exact ⟨fun _ => hr, fun h => absurd rfl h⟩
    · exact ⟨fun h => absurd h (by decide), fun _ => ⟨fun _ => hr, fun h => absurd rfl h⟩⟩
    · exact ⟨fun h => absurd h (by decide), fun _ => ⟨fun h => absurd h (by decide), fun _ => ⟨fun _ => hr, fun h => absurd rfl h⟩⟩⟩
  · have e := slot_f hx
    have h0 : ¬ x = 0 := fun h => hx (Or.inl h)
    have h1 : ¬ x = 1 := fun h => hx (Or.inr (Or.inl h))
    have h2 : ¬ x = 2 := fun h => hx (Or.inr (Or.inr h))
    refine ⟨fun h => absurd h h0, fun _ => ⟨fun h => absurd h h1, fun _ => ⟨fun h => absurd h h2, fun _ => ?_⟩⟩⟩
    unfold wpX7_gateAt
    rw [e]
    exact ⟨fun _ => rfl, fun h => absurd rfl h⟩
theorem o_wires {R : Int32 → Int32 → Int32 → Int32 → Int32 → Int32 → Int32 → Int32 → Int32 → Int32 → Int32 → (Nat → Int32) → Prop} {x ft wc hs tc wi hS ln : Int32} (h : C3 n c1 c2 c3 g1 g2 g3 z k a b c)
    (h1 : R 1 1 wc hs c1 c2 c3 tc wi hS ln z) (h0 : ∀ m z', 1 ≤ m → m < 5 → C3 m 0 0 0 g1 g2 g3 z' k a b c → R 0 0 (nI m) 0 0 0 0 0 (nI m) 0 0 z') : wpL_wires (fun K wc hs c1 c2 c3 tc => wpX7_wires (fun F wi hS ln z => R K F wc hs c1 c2 c3 tc wi hS ln z) x ft wi hS ln z) x wc hs c1 c2 c3 tc := by
  obtain ⟨Ls, hM, hs⟩ := h
  have no : ¬ (1 ≤ x ∧ x ≤ 4) → "java/lang/IllegalArgumentException" = "java/lang/IllegalArgumentException" ∧ wpX7_wires (fun F wi hS ln z => R 1 F wc _ c1 c2 c3 tc wi hS ln z) x ft wi hS ln z := fun hb => ⟨rfl, m_wires hM (fun _ => h1) (fun h => absurd h hb)⟩
  refine ⟨fun h9 => no (fun h => ?_), fun h9 => ⟨fun h4 => ?_, fun h4 => no (fun h => h4 h.2)⟩⟩
  · have h2 := h.1
    rw [Int32.le_iff_toInt_le] at h2
    rw [Int32.lt_iff_toInt_lt] at h9
    omega
  · have h0' : ¬ x < 0 := fun h => h9 (by
      rw [Int32.lt_iff_toInt_lt] at h ⊢
      rw [show (0 : Int32).toInt = 0 by decide] at h
      rw [show (1 : Int32).toInt = 1 by decide]
      omega)
    obtain ⟨m, hm, rfl⟩ := nI_of2 (M := 4) (n := 4) (by decide) h0' h4
    have m1 : 1 ≤ m := by
      by_cases e : m = 0
      · rw [e] at h9; exact absurd (by decide) h9
      · omega
    show wpX7_wires (fun F wi hS ln z => R 0 F (nI m) 0 0 0 0 0 wi hS ln z) (nI m) ft wi hS ln z
    have in4 : (1 : Int32) ≤ nI m ∧ nI m ≤ 4 := ⟨nI_le (a := 1) m1 (by omega), h4⟩
    refine m_wires hM (fun h => absurd in4 h) (fun _ z' hz => h0 m z' m1 (by omega) ⟨_, hz, fun s h3 => ?_⟩)
    rw [if_pos h3]
    refine ⟨?_, fun x hx => by cases hx⟩
    rcases (show s = 0 ∨ s = 1 ∨ s = 2 by omega) with rfl | rfl | rfl
    · exact CR_0 _
    · exact CR_0 _
    · exact CR_0 _
end
