/-! The reference's rewriting: one meeting, all of them. -/
theorem findP_c {g h : Nat} {t : List Nat} : findP g (h :: t) = if meN g h then some 0 else if paN g h then (findP g t).map (· + 1) else none := rfl
section
variable {z k a b c : Nat → Int32} {Ls : Nat → List Nat}
theorem m_setK (hM : MM z k a b c Ls) {s i g : Nat} (hs : s < 4) (hi : i < (Ls s).length) (hg : g < 10000) (ha : aN g = aN ((Ls s).getD i 0)) (hb : m2 g = m2 ((Ls s).getD i 0)) (hc : m3 g = m3 ((Ls s).getD i 0)) {x : Int32} (hx : x = nI (kN g)) : MM z (upd k (64 * s + i) x) a b c (upS Ls s ((Ls s).set i g)) := fun t ht => by
  obtain ⟨q1, q2, q3⟩ := hM t ht
  by_cases e : t = s
  · subst e
    rw [upS_s, List.length_set]
    refine ⟨q1, q2, fun p hp => ?_⟩
    rw [g_set hi]
    have q4 := q3 p hp
    unfold MG at q4 ⊢
    by_cases e2 : p = i
    · subst e2
      rw [if_pos rfl, pk_us, ha, hb, hc]
      exact ⟨hg, hx, q4.2.2⟩
    · rw [if_neg e2, pk_un (by omega)]; exact q4
  · rw [upS_n e]
    refine ⟨q1, q2, fun p hp => ?_⟩
    have q4 := q3 p hp
    have l2 := (hM s hs).2.1
    unfold MG at q4 ⊢
    rw [pk_un (by omega)]; exact q4
theorem m_76 {Q : Int32 → (Nat → Int32) → (Nat → Int32) → (Nat → Int32) → (Nat → Int32) → (Nat → Int32) → Prop} (hM : MM z k a b c Ls) {s i j : Nat} (hs : s < 3) (hi : i < j) (hj : j < (Ls s).length) (hv : ∀ x ∈ Ls s, gv 4 x = true) (hm : meN ((Ls s).getD i 0) ((Ls s).getD j 0) = true)
    (h : ∀ z k a b c, MM z k a b c (upS Ls s (unL (Ls s) i j)) → Q 1 z k a b c) : wpX7_meetOnce_76 Q (nI s) (nI i) (nI (64 * s + i)) (nI j) (nI (toN ((Ls s).getD i 0) ((Ls s).getD j 0))) z k a b c := by
  have hl := (hM s (by omega)).2.1
  have vi := hv _ (g_mem (d := 0) (show i < (Ls s).length by omega))
  have vj := hv _ (g_mem (d := 0) hj)
  obtain ⟨-, -, hun⟩ := chk_g vi vj
  obtain ⟨u2, u4, un⟩ := hun hm
  have hlen : ((Ls s).eraseIdx j).length = (Ls s).length - 1 := List.length_eraseIdx_of_lt hj
  have hgi : ((Ls s).eraseIdx j).getD i 0 = (Ls s).getD i 0 := by rw [g_er, if_pos hi]
  have ht : toN ((Ls s).getD i 0) ((Ls s).getD j 0) < 9 := by
    have := tuN_lt ((Ls s).getD i 0); have := tuN_lt ((Ls s).getD j 0)
    unfold toN; split
    · split <;> omega
    · omega
  generalize hT : toN ((Ls s).getD i 0) ((Ls s).getD j 0) = T at *
  unfold wpX7_meetOnce_76
  refine m_remove hM (by omega) hj (fun z1 k1 a1 b1 c1 h1 => ?_)
  have w0 := aN_lt ((Ls s).getD i 0)
  have fin : ∀ u x, unN ((Ls s).getD i 0) = some u → u = gi x (aN ((Ls s).getD i 0)) → x < 6 → Q 1 z1 (upd k1 (64 * s + i) (nI x)) a1 b1 c1 := fun u x hu he hx => by
    have k6 : ¬ 6 ≤ kN ((Ls s).getD i 0) := fun h6 => by
      unfold unN at hu
      rw [if_neg (by omega), if_neg (by omega)] at hu; cases hu
    have h2 := m_setK h1 (s := s) (i := i) (g := gi x (aN ((Ls s).getD i 0))) (x := nI x) (by omega) (by rw [upS_s]; omega) (gi_lt (by omega) w0) (by rw [upS_s, hgi, (gi_k hx w0).2]) (by rw [upS_s, hgi, (gi_m hx w0).1]; unfold m2; rw [if_neg k6]) (by rw [upS_s, hgi, (gi_m hx w0).2]; unfold m3; rw [if_neg (by omega)]) (by rw [(gi_k hx w0).1])
    rw [upS_s, upS_u] at h2
    refine h _ _ _ _ _ ?_
    unfold unL; rw [hu, he]; exact h2
  simp (disch := omega) only [wpX7_meetOnce_95, not_true_eq_false, not_false_eq_true, forall_const, true_implies, false_implies, implies_true, and_true, true_and, and_self, Nat.not_lt_zero, ne_eq, if_true, if_false, reduceIte, Nat.reduceAdd, Nat.reduceMul, Nat.reduceSub, Nat.reduceLT, Nat.reduceLeDiff, Nat.reduceEqDiff, Nat.add_sub_cancel, eq_self_iff_true, L_0, L_1, L_2, L_3, L_4, L_5, L_6, L_7, L_8, L_9, L_10, L_16, L_20, L_21, L_24, L_31, L_64, L_100, L_320, L_400, L_1000, L_256, nI_add, pk_mul, pk_sub, nI_clamp, vp_in_nI, nI_ge, nI_le, nI_lt, nI_nlt, qI_ne, qI_eq, qI_m1, q_all, qI_nm, qI_nm2]
  rw [nI_eq (by omega) (by omega), nI_eq (by omega) (by omega)]
  refine ⟨fun e => ⟨fun _ => fin _ 2 (u2 e) rfl (by omega), fun h9 => absurd e h9⟩, fun e => ⟨fun e4 => ⟨fun h9 => absurd h9 e, fun _ => fin _ 5 (u4 e4) rfl (by omega)⟩, fun e4 => ?_⟩⟩
  refine m_remove h1 (by omega) (by rw [upS_s]; omega) (fun z2 k2 a2 b2 c2 h2 => h _ _ _ _ _ ?_)
  rw [upS_s, upS_u] at h2
  unfold unL; rw [un e e4]; exact h2
theorem m_meetOnce {Q : Int32 → (Nat → Int32) → (Nat → Int32) → (Nat → Int32) → (Nat → Int32) → (Nat → Int32) → Prop} (hM : MM z k a b c Ls) {s : Nat} (hs : s < 3) (hv : ∀ x ∈ Ls s, gv 4 x = true)
    (h0 : rwOne (Ls s) = none → Q 0 z k a b c)
    (h1 : ∀ M z k a b c, rwOne (Ls s) = some M → MM z k a b c (upS Ls s M) → Q 1 z k a b c) : wpX7_meetOnce Q (nI s) z k a b c := by
  obtain ⟨es, hl, hgs⟩ := hM s (by omega)
  unfold wpX7_meetOnce
  refine pk_loop (σ := Unit) (fun n i _ => wpX7_meetOnce_2 Q n (nI s) (nI i) z k a b c) (fun i _ => rwF (Ls s) ((Ls s).length - i) i = rwOne (Ls s)) (Ls s).length 0 () (Nat.zero_le _) rfl ?_ ?_
  · intro n m hI
    simp (disch := omega) only [wpX7_meetOnce_2, wpX7_meetOnce_2b, es, not_true_eq_false, not_false_eq_true, forall_const, true_implies, false_implies, implies_true, and_true, true_and, and_self, Nat.not_lt_zero, ne_eq, if_true, if_false, reduceIte, Nat.reduceAdd, Nat.reduceMul, Nat.reduceSub, Nat.reduceLT, Nat.reduceLeDiff, Nat.reduceEqDiff, Nat.add_sub_cancel, eq_self_iff_true, L_0, L_1, L_2, L_3, L_4, L_5, L_6, L_7, L_8, L_9, L_10, L_16, L_20, L_21, L_24, L_31, L_64, L_100, L_320, L_400, L_1000, L_256, nI_add, pk_mul, pk_sub, nI_clamp, vp_in_nI, nI_ge, nI_le, nI_lt, nI_nlt, qI_ne, qI_eq, qI_m1, q_all, qI_nm, qI_nm2]
    rw [Nat.sub_self] at hI
    exact h0 hI.symm
  · intro n i m hi hI hk
    rw [show (Ls s).length - i = ((Ls s).length - (i + 1)) + 1 by omega] at hI
    unfold rwF at hI
    have vi := hv _ (g_mem (d := 0) hi)
    have MGi := (hgs i hi).2
    simp (disch := omega) only [wpX7_meetOnce_2, wpX7_meetOnce_2b, es, q_all, not_true_eq_false, not_false_eq_true, forall_const, true_implies, false_implies, implies_true, and_true, true_and, and_self, Nat.not_lt_zero, ne_eq, if_true, if_false, reduceIte, Nat.reduceAdd, Nat.reduceMul, Nat.reduceSub, Nat.reduceLT, Nat.reduceLeDiff, Nat.reduceEqDiff, Nat.add_sub_cancel, eq_self_iff_true, L_0, L_1, L_2, L_3, L_4, L_5, L_6, L_7, L_8, L_9, L_10, L_16, L_20, L_21, L_24, L_31, L_64, L_100, L_320, L_400, L_1000, L_256, nI_add, pk_mul, pk_sub, nI_clamp, vp_in_nI, nI_ge, nI_le, nI_lt, nI_nlt, qI_ne, qI_eq, qI_m1, q_all, qI_nm, qI_nm2]
    refine pk_loop (σ := Int32) (fun n9 j m9 => wpX7_meetOnce_27 Q (wpX7_meetOnce_2 Q n) n9 (nI s) (nI i) (nI (64 * s + i)) m9 (nI j) z k a b c) (fun j m9 => (m9 = nI 1 ∧ (findP ((Ls s).getD i 0) ((Ls s).drop (i + 1))).map (fun x => i + 1 + x) = (findP ((Ls s).getD i 0) ((Ls s).drop j)).map (fun x => j + x) ∧ i < j) ∨ (m9 = nI 0 ∧ findP ((Ls s).getD i 0) ((Ls s).drop (i + 1)) = none)) (Ls s).length (i + 1) (nI 1) (by omega) (Or.inl ⟨rfl, rfl, by omega⟩) ?_ ?_
    · intro n9 m9 hI9
      simp (disch := omega) only [wpX7_meetOnce_27, wpX7_meetOnce_27b, es, not_true_eq_false, not_false_eq_true, forall_const, true_implies, false_implies, implies_true, and_true, true_and, and_self, Nat.not_lt_zero, ne_eq, if_true, if_false, reduceIte, Nat.reduceAdd, Nat.reduceMul, Nat.reduceSub, Nat.reduceLT, Nat.reduceLeDiff, Nat.reduceEqDiff, Nat.add_sub_cancel, eq_self_iff_true, L_0, L_1, L_2, L_3, L_4, L_5, L_6, L_7, L_8, L_9, L_10, L_16, L_20, L_21, L_24, L_31, L_64, L_100, L_320, L_400, L_1000, L_256, nI_add, pk_mul, pk_sub, nI_clamp, vp_in_nI, nI_ge, nI_le, nI_lt, nI_nlt, qI_ne, qI_eq, qI_m1, q_all, qI_nm, qI_nm2]
      have e : rwAt (Ls s) i = none := by
        unfold rwAt
        rcases hI9 with ⟨-, e, -⟩ | ⟨-, e⟩
        · rw [List.drop_length] at e
          cases e2 : findP ((Ls s).getD i 0) ((Ls s).drop (i + 1)) with
          | none => rfl
          | some x => rw [e2] at e; cases e
        · rw [e]; rfl
      rw [e] at hI
      exact hk () hI
    · intro n9 j m9 hj hI9 hk9
      have vj := hv _ (g_mem (d := 0) hj)
      have MGj := (hgs j hj).2
      obtain ⟨cm, cp, -⟩ := chk_g vi vj
      simp (disch := omega) only [wpX7_meetOnce_27, wpX7_meetOnce_27b, es, q_all, not_true_eq_false, not_false_eq_true, forall_const, true_implies, false_implies, implies_true, and_true, true_and, and_self, Nat.not_lt_zero, ne_eq, if_true, if_false, reduceIte, Nat.reduceAdd, Nat.reduceMul, Nat.reduceSub, Nat.reduceLT, Nat.reduceLeDiff, Nat.reduceEqDiff, Nat.add_sub_cancel, eq_self_iff_true, L_0, L_1, L_2, L_3, L_4, L_5, L_6, L_7, L_8, L_9, L_10, L_16, L_20, L_21, L_24, L_31, L_64, L_100, L_320, L_400, L_1000, L_256, nI_add, pk_mul, pk_sub, nI_clamp, vp_in_nI, nI_ge, nI_le, nI_lt, nI_nlt, qI_ne, qI_eq, qI_m1, q_all, qI_nm, qI_nm2]
      rcases hI9 with ⟨e1, e2, hij⟩ | ⟨e1, e2⟩
      · rw [e1]
        refine ⟨fun h9 => absurd h9 (by decide), fun _ => ?_⟩
        have ht : toN ((Ls s).getD i 0) ((Ls s).getD j 0) < 9 := by
          have := tuN_lt ((Ls s).getD i 0); have := tuN_lt ((Ls s).getD j 0)
          unfold toN; split
          · split <;> omega
          · omega
        rw [drop_c hj] at e2
        rw [findP_c] at e2
        have met : meN ((Ls s).getD i 0) ((Ls s).getD j 0) = true → wpX7_meetOnce_76 Q (nI s) (nI i) (nI (64 * s + i)) (nI j) (nI (toN ((Ls s).getD i 0) ((Ls s).getD j 0))) z k a b c := fun hm => by
          rw [hm, if_pos rfl] at e2
          have e3 : rwAt (Ls s) i = some (unL (Ls s) i j) := by
            unfold rwAt
            cases e4 : findP ((Ls s).getD i 0) ((Ls s).drop (i + 1)) with
            | none => rw [e4] at e2; cases e2
            | some x =>
              rw [e4] at e2
              simp at e2
              show some (unL (Ls s) i (i + 1 + x)) = _
              rw [e2]
          rw [e3] at hI
          exact m_76 hM hs hij hj hv hm (fun z k a b c h9 => h1 _ _ _ _ _ _ hI.symm h9)
        refine m_together (g := (Ls s).getD i 0) (h := (Ls s).getD j 0) (by omega) (by omega) MGi MGj ?_
        refine m_cancels (g := (Ls s).getD i 0) (h := (Ls s).getD j 0) (by omega) (by omega) (gv_k vi).1 MGi MGj ?_
        cases ec : caN ((Ls s).getD i 0) ((Ls s).getD j 0) with
        | true =>
          refine ⟨fun h9 => absurd h9 (by decide), fun _ => met (cm.mp (Or.inl ec))⟩
        | false =>
          refine ⟨fun _ => ?_, fun h9 => absurd rfl h9⟩
          rw [← L_0]
          rw [show ((0 : Int32) = nI 0) from rfl, nI_leI (by omega) (by omega)]
          refine ⟨fun e5 => ?_, fun e5 => met (cm.mp (Or.inr (by omega)))⟩
          have hm : meN ((Ls s).getD i 0) ((Ls s).getD j 0) = false := by
            cases hm : meN ((Ls s).getD i 0) ((Ls s).getD j 0) with
            | false => rfl
            | true =>
              rcases cm.mpr hm with h9 | h9
              · rw [ec] at h9; exact absurd h9 (by decide)
              · omega
          rw [hm] at e2
          rw [← cp] at e2
          refine m_passes (g := (Ls s).getD i 0) (h := (Ls s).getD j 0) (by omega) (by omega) MGi MGj ?_
          cases ep : psN ((Ls s).getD i 0) ((Ls s).getD j 0) with
          | true =>
            refine hk9 1 (Or.inl ⟨rfl, ?_, by omega⟩)
            rw [ep] at e2
            simp only [Bool.false_eq_true, if_false, if_true] at e2
            rw [e2, Option.map_map]
            congr 1
            funext x
            show j + (x + 1) = j + 1 + x
            omega
          | false =>
            refine hk9 0 (Or.inr ⟨rfl, ?_⟩)
            rw [ep] at e2
            simp only [Bool.false_eq_true, if_false] at e2
            cases e4 : findP ((Ls s).getD i 0) ((Ls s).drop (i + 1)) with
            | none => rfl
            | some x => rw [e4] at e2; cases e2
      · rw [e1]
        refine ⟨fun _ => ?_, fun h9 => absurd rfl h9⟩
        have e : rwAt (Ls s) i = none := by unfold rwAt; rw [e2]; rfl
        rw [e] at hI
        exact hk () hI
theorem m_optimise {Q : Int32 → Int32 → (Nat → Int32) → (Nat → Int32) → (Nat → Int32) → (Nat → Int32) → (Nat → Int32) → Prop} {ft : Int32} (hM : MM z k a b c Ls) {s : Nat} (hs : s < 3) (hv : ∀ x ∈ Ls s, gv 4 x = true)
    (h : ∀ z k a b c, MM z k a b c (upS Ls s (rwN 64 (Ls s))) → Q (nI (rwN 64 (Ls s)).length) 0 z k a b c) : wpX7_optimise Q (nI s) ft z k a b c := by
  obtain ⟨es, hl, hgs⟩ := hM s (by omega)
  unfold wpX7_optimise
  rw [slot_t hs]
  refine ⟨fun h9 => absurd h9 (by decide), fun _ => ?_⟩
  simp (disch := omega) only [wpX7_optimise_13, not_true_eq_false, not_false_eq_true, forall_const, true_implies, false_implies, implies_true, and_true, true_and, and_self, Nat.not_lt_zero, ne_eq, if_true, if_false, reduceIte, Nat.reduceAdd, Nat.reduceMul, Nat.reduceSub, Nat.reduceLT, Nat.reduceLeDiff, Nat.reduceEqDiff, Nat.add_sub_cancel, eq_self_iff_true, L_0, L_1, L_2, L_3, L_4, L_5, L_6, L_7, L_8, L_9, L_10, L_16, L_20, L_21, L_24, L_31, L_64, L_100, L_320, L_400, L_1000, L_256, nI_add, pk_mul, pk_sub, nI_clamp, vp_in_nI, nI_ge, nI_le, nI_lt, nI_nlt, qI_ne, qI_eq, qI_m1, q_all, qI_nm, qI_nm2]
  refine loop_m (σ := Int32 × M5) (fun n m => wpX7_optimise_27 Q n (nI s) m.1 (nI 0) m.2.1 m.2.2.1 m.2.2.2.1 m.2.2.2.2.1 m.2.2.2.2.2) (fun m => ∃ M, MM m.2.1 m.2.2.1 m.2.2.2.1 m.2.2.2.2.1 m.2.2.2.2.2 (upS Ls s M) ∧ M.length ≤ 64 ∧ ((m.1 = 1 ∧ rwN 64 M = rwN 64 (Ls s) ∧ ∀ x ∈ M, gv 4 x = true) ∨ (m.1 = 0 ∧ M = rwN 64 (Ls s)))) (fun m => 2 * (m.2.1 s).toNatClampNeg + if m.1 = 1 then 1 else 0) ?_ (nI 1, z, k, a, b, c) ⟨Ls s, by rw [upS_i rfl]; exact hM, hl, Or.inl ⟨rfl, rfl, hv⟩⟩
  intro n m hI hk
  obtain ⟨M, hMM, hML, hI⟩ := hI
  have eM := (hMM s (by omega)).1
  rw [upS_s] at eM
  simp (disch := omega) only [wpX7_optimise_27, wpX7_optimise_27b, eM, not_true_eq_false, not_false_eq_true, forall_const, true_implies, false_implies, implies_true, and_true, true_and, and_self, Nat.not_lt_zero, ne_eq, if_true, if_false, reduceIte, Nat.reduceAdd, Nat.reduceMul, Nat.reduceSub, Nat.reduceLT, Nat.reduceLeDiff, Nat.reduceEqDiff, Nat.add_sub_cancel, eq_self_iff_true, L_0, L_1, L_2, L_3, L_4, L_5, L_6, L_7, L_8, L_9, L_10, L_16, L_20, L_21, L_24, L_31, L_64, L_100, L_320, L_400, L_1000, L_256, nI_add, pk_mul, pk_sub, nI_clamp, vp_in_nI, nI_ge, nI_le, nI_lt, nI_nlt, qI_ne, qI_eq, qI_m1, q_all, qI_nm, qI_nm2]
  rcases hI with ⟨e1, e2, hvM⟩ | ⟨e1, e2⟩
  · rw [e1]
    refine ⟨fun h9 => absurd h9 (by decide), fun _ => ?_⟩
    have eN : rwN 64 M = (match rwOne M with | none => M | some M' => rwN 63 M') := rfl
    have hMM' := hMM
    refine m_meetOnce hMM hs (by rw [upS_s]; exact hvM) (fun e => ?_) (fun M' z k a b c e hB => ?_)
    · rw [upS_s] at e
      rw [e] at eN
      refine hk (0, m.2) ⟨M, hMM', hML, Or.inr ⟨rfl, by rw [← e2, eN]⟩⟩ ?_
      show 2 * (m.2.1 s).toNatClampNeg + 0 < 2 * (m.2.1 s).toNatClampNeg + if m.1 = 1 then 1 else 0
      rw [e1, if_pos rfl]; omega
    · rw [upS_s] at e
      rw [upS_u] at hB
      rw [e] at eN
      obtain ⟨l1, l2⟩ := rwOne_p (by omega) e hvM
      refine hk (1, z, k, a, b, c) ⟨M', hB, by omega, Or.inl ⟨rfl, ?_, l2⟩⟩ ?_
      · rw [← e2, eN]; exact rwN_ge 63 M' (by omega)
      · have eB := (hB s (by omega)).1
        rw [upS_s] at eB
        show 2 * (z s).toNatClampNeg + 1 < 2 * (m.2.1 s).toNatClampNeg + if m.1 = 1 then 1 else 0
        rw [eB, eM, e1, if_pos rfl, nI_clamp (by omega), nI_clamp (by omega)]; omega
  · rw [e1]
    refine ⟨fun _ => ?_, fun h9 => absurd rfl h9⟩
    rw [e2] at hMM ⊢
    exact h _ _ _ _ _ hMM
end
