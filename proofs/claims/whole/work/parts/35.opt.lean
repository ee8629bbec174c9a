/-! The reference's rewriting. -/
section
variable {k a b c : Nat → Int32} {g h i j : Nat}
theorem m_by107 {Q : Int32 → Prop} (hi : i < 320) (h1 : MG k a b c i g) {w : Nat} (hw : w < 10) (ct : Bool) {x5 : Int32} (h5 : x5 = if ct = true then 1 else 0) (hq : Q (if (decide (0 < tuN g) && ct || kN g == 4 && aN g == w) then 1 else 0)) : wpX7_goesBy_107 Q k a b c (nI i) x5 (nI w) := by
  obtain ⟨f1, f2, f3, f4⟩ := h1
  have k1 := kN_lt g; have a1 := aN_lt g; have t1 := tuN_lt g
  have z125 : (decide (0 < tuN g) && ct) = false → wpX7_goesBy_125 Q k a b c (nI i) (nI w) := fun e => by
    rw [e] at hq
    simp (disch := omega) only [wpX7_goesBy_125, f1, f2, not_true_eq_false, not_false_eq_true, forall_const, true_implies, false_implies, implies_true, and_true, true_and, and_self, Nat.not_lt_zero, ne_eq, if_true, if_false, reduceIte, Nat.reduceAdd, Nat.reduceMul, Nat.reduceSub, Nat.reduceLT, Nat.reduceLeDiff, Nat.reduceEqDiff, Nat.add_sub_cancel, eq_self_iff_true, L_0, L_1, L_2, L_3, L_4, L_5, L_6, L_7, L_8, L_9, L_10, L_16, L_20, L_21, L_24, L_31, L_64, L_100, L_320, L_400, L_1000, L_256, nI_add, pk_mul, pk_sub, nI_clamp, vp_in_nI, nI_ge, nI_le, nI_lt, nI_nlt, qI_ne, qI_eq, qI_m1, q_all, qI_nm, qI_nm2]
    rw [nI_eq (by omega) (by omega), nI_eq (by omega) (by omega)]
    exact ⟨fun h9 => ⟨fun h8 => qT hq (by simp [h9, h8]), fun h8 => qF hq (by simp [h8])⟩, fun h9 => qF hq (by simp [h9])⟩
  simp (disch := omega) only [wpX7_goesBy_107, f1, m_tu, not_true_eq_false, not_false_eq_true, forall_const, true_implies, false_implies, implies_true, and_true, true_and, and_self, Nat.not_lt_zero, ne_eq, if_true, if_false, reduceIte, Nat.reduceAdd, Nat.reduceMul, Nat.reduceSub, Nat.reduceLT, Nat.reduceLeDiff, Nat.reduceEqDiff, Nat.add_sub_cancel, eq_self_iff_true, L_0, L_1, L_2, L_3, L_4, L_5, L_6, L_7, L_8, L_9, L_10, L_16, L_20, L_21, L_24, L_31, L_64, L_100, L_320, L_400, L_1000, L_256, nI_add, pk_mul, pk_sub, nI_clamp, vp_in_nI, nI_ge, nI_le, nI_lt, nI_nlt, qI_ne, qI_eq, qI_m1, q_all, qI_nm, qI_nm2]
  rw [nI_leI (by omega) (by omega)]
  refine ⟨fun e => z125 (by simp; omega), fun e => ?_⟩
  cases ct with
  | false => rw [h5]; exact ⟨fun _ => z125 (by simp), fun h9 => absurd rfl h9⟩
  | true => rw [h5]; exact ⟨fun h9 => absurd h9 (by decide), fun _ => qT hq (by simp; omega)⟩
theorem m_goesBy {Q : Int32 → Prop} (hi : i < 320) (hj : j < 320) (h1 : MG k a b c i g) (h2 : MG k a b c j h) (hq : Q (if gbN g h then 1 else 0)) : wpX7_goesBy Q (nI i) (nI j) k a b c := by
  have H1 := h1
  obtain ⟨f1, f2, f3, f4⟩ := h1
  obtain ⟨g1, g2, g3, g4⟩ := h2
  have k1 := kN_lt g; have k2 := kN_lt h; have a1 := aN_lt g; have a2 := aN_lt h; have b1 := bN_lt g; have b2 := bN_lt h; have c1 := cN_lt g; have c2 := cN_lt h
  by_cases e6 : kN h = 6
  · rw [m2_p (by omega)] at g3
    have go : ∀ ct : Bool, ct = (aN g == aN h) → ∀ x5 : Int32, (x5 = if ct = true then 1 else 0) → wpX7_goesBy_75 Q k a b c (nI i) (nI j) (nI 1) (nI 0) x5 := fun ct hct x5 h5 => by
      simp (disch := omega) only [wpX7_goesBy_75, g3, wpX7_goesBy_96, not_true_eq_false, not_false_eq_true, forall_const, true_implies, false_implies, implies_true, and_true, true_and, and_self, Nat.not_lt_zero, ne_eq, if_true, if_false, reduceIte, Nat.reduceAdd, Nat.reduceMul, Nat.reduceSub, Nat.reduceLT, Nat.reduceLeDiff, Nat.reduceEqDiff, Nat.add_sub_cancel, eq_self_iff_true, L_0, L_1, L_2, L_3, L_4, L_5, L_6, L_7, L_8, L_9, L_10, L_16, L_20, L_21, L_24, L_31, L_64, L_100, L_320, L_400, L_1000, L_256, nI_add, pk_mul, pk_sub, nI_clamp, vp_in_nI, nI_ge, nI_le, nI_lt, nI_nlt, qI_ne, qI_eq, qI_m1, q_all, qI_nm, qI_nm2]
      refine m_by107 hi H1 b2 ct h5 ?_
      have : gbN g h = (decide (0 < tuN g) && ct || kN g == 4 && aN g == bN h) := by unfold gbN; rw [hct]; simp [e6]
      rw [this] at hq; exact hq
    simp (disch := omega) only [wpX7_goesBy, g1, wpX7_goesBy_16, wpX7_goesBy_33, f2, g2, wpX7_goesBy_70, wpX7_goesBy_74, not_true_eq_false, not_false_eq_true, forall_const, true_implies, false_implies, implies_true, and_true, true_and, and_self, Nat.not_lt_zero, ne_eq, if_true, if_false, reduceIte, Nat.reduceAdd, Nat.reduceMul, Nat.reduceSub, Nat.reduceLT, Nat.reduceLeDiff, Nat.reduceEqDiff, Nat.add_sub_cancel, eq_self_iff_true, L_0, L_1, L_2, L_3, L_4, L_5, L_6, L_7, L_8, L_9, L_10, L_16, L_20, L_21, L_24, L_31, L_64, L_100, L_320, L_400, L_1000, L_256, nI_add, pk_mul, pk_sub, nI_clamp, vp_in_nI, nI_ge, nI_le, nI_lt, nI_nlt, qI_ne, qI_eq, qI_m1, q_all, qI_nm, qI_nm2]
    rw [nI_eq (by omega) (by omega)]
    exact ⟨fun e => go true (by simp [e]) _ rfl, fun e => go false (by simp [e]) _ rfl⟩
  · by_cases e9 : kN h = 9
    · rw [m2_p (by omega)] at g3; rw [m3_p e9] at g4
      have go : ∀ ct : Bool, ct = (aN g == aN h || aN g == bN h) → ∀ x5 : Int32, (x5 = if ct = true then 1 else 0) → wpX7_goesBy_75 Q k a b c (nI i) (nI j) (nI 0) (nI 1) x5 := fun ct hct x5 h5 => by
        simp (disch := omega) only [wpX7_goesBy_75, g4, wpX7_goesBy_96, not_true_eq_false, not_false_eq_true, forall_const, true_implies, false_implies, implies_true, and_true, true_and, and_self, Nat.not_lt_zero, ne_eq, if_true, if_false, reduceIte, Nat.reduceAdd, Nat.reduceMul, Nat.reduceSub, Nat.reduceLT, Nat.reduceLeDiff, Nat.reduceEqDiff, Nat.add_sub_cancel, eq_self_iff_true, L_0, L_1, L_2, L_3, L_4, L_5, L_6, L_7, L_8, L_9, L_10, L_16, L_20, L_21, L_24, L_31, L_64, L_100, L_320, L_400, L_1000, L_256, nI_add, pk_mul, pk_sub, nI_clamp, vp_in_nI, nI_ge, nI_le, nI_lt, nI_nlt, qI_ne, qI_eq, qI_m1, q_all, qI_nm, qI_nm2]
        refine m_by107 hi H1 c2 ct h5 ?_
        have : gbN g h = (decide (0 < tuN g) && ct || kN g == 4 && aN g == cN h) := by unfold gbN; rw [hct]; simp [e9]
        rw [this] at hq; exact hq
      simp (disch := omega) only [wpX7_goesBy, g1, wpX7_goesBy_16, wpX7_goesBy_33, f2, g2, g3, wpX7_goesBy_70, wpX7_goesBy_74, not_true_eq_false, not_false_eq_true, forall_const, true_implies, false_implies, implies_true, and_true, true_and, and_self, Nat.not_lt_zero, ne_eq, if_true, if_false, reduceIte, Nat.reduceAdd, Nat.reduceMul, Nat.reduceSub, Nat.reduceLT, Nat.reduceLeDiff, Nat.reduceEqDiff, Nat.add_sub_cancel, eq_self_iff_true, L_0, L_1, L_2, L_3, L_4, L_5, L_6, L_7, L_8, L_9, L_10, L_16, L_20, L_21, L_24, L_31, L_64, L_100, L_320, L_400, L_1000, L_256, nI_add, pk_mul, pk_sub, nI_clamp, vp_in_nI, nI_ge, nI_le, nI_lt, nI_nlt, qI_ne, qI_eq, qI_m1, q_all, qI_nm, qI_nm2]
      rw [nI_eq (by omega) (by omega), nI_eq (by omega) (by omega)]
      exact ⟨fun e => go true (by simp [e]) _ rfl, fun e => ⟨fun e2 => go true (by simp [e2]) _ rfl, fun e2 => go false (by simp [e, e2]) _ rfl⟩⟩
    · have hq := qF hq (by unfold gbN; simp [e6, e9])
      simp (disch := omega) only [wpX7_goesBy, g1, wpX7_goesBy_16, wpX7_goesBy_33, f2, g2, wpX7_goesBy_70, wpX7_goesBy_74, wpX7_goesBy_75, wpX7_goesBy_96, not_true_eq_false, not_false_eq_true, forall_const, true_implies, false_implies, implies_true, and_true, true_and, and_self, Nat.not_lt_zero, ne_eq, if_true, if_false, reduceIte, Nat.reduceAdd, Nat.reduceMul, Nat.reduceSub, Nat.reduceLT, Nat.reduceLeDiff, Nat.reduceEqDiff, Nat.add_sub_cancel, eq_self_iff_true, L_0, L_1, L_2, L_3, L_4, L_5, L_6, L_7, L_8, L_9, L_10, L_16, L_20, L_21, L_24, L_31, L_64, L_100, L_320, L_400, L_1000, L_256, nI_add, pk_mul, pk_sub, nI_clamp, vp_in_nI, nI_ge, nI_le, nI_lt, nI_nlt, qI_ne, qI_eq, qI_m1, q_all, qI_nm, qI_nm2]
      exact ⟨fun _ => hq, fun _ => hq⟩
theorem m_passes {Q : Int32 → Prop} (hi : i < 320) (hj : j < 320) (h1 : MG k a b c i g) (h2 : MG k a b c j h) (hq : Q (if psN g h then 1 else 0)) : wpX7_passes Q (nI i) (nI j) k a b c := by
  have z25 : (!shN g h || (onN g && onN h)) = false → wpX7_passes_25 Q k a b c (nI i) (nI j) := fun e => by
    unfold psN at hq; rw [e] at hq
    unfold wpX7_passes_25
    refine m_goesBy hi hj h1 h2 ?_
    cases e1 : gbN g h with
    | true => rw [e1] at hq; exact ⟨fun h9 => absurd h9 (by decide), fun _ => hq⟩
    | false =>
      refine ⟨fun _ => m_goesBy hj hi h2 h1 ?_, fun h9 => absurd rfl h9⟩
      rw [e1] at hq
      cases e2 : gbN h g with
      | true => rw [e2] at hq; exact ⟨fun h9 => absurd h9 (by decide), fun _ => hq⟩
      | false => rw [e2] at hq; exact ⟨fun _ => hq, fun h9 => absurd rfl h9⟩
  unfold wpX7_passes
  refine m_shares hi hj h1 h2 ?_
  cases e0 : shN g h with
  | false => unfold psN at hq; rw [e0] at hq; exact ⟨fun _ => hq, fun h9 => absurd rfl h9⟩
  | true =>
    refine ⟨fun h9 => absurd h9 (by decide), fun _ => m_straight hi h1 ?_⟩
    cases e1 : onN g with
    | false => exact ⟨fun _ => z25 (by rw [e0, e1]; rfl), fun h9 => absurd rfl h9⟩
    | true =>
      refine ⟨fun h9 => absurd h9 (by decide), fun _ => m_straight hj h2 ?_⟩
      cases e2 : onN h with
      | false => exact ⟨fun _ => z25 (by rw [e0, e1, e2]; rfl), fun h9 => absurd rfl h9⟩
      | true => unfold psN at hq; rw [e0, e1, e2] at hq; exact ⟨fun h9 => absurd h9 (by decide), fun _ => hq⟩
end
def gvl : List Nat := [1, 2, 3, 4, 5, 11, 12, 13, 14, 15, 16, 17, 18, 21, 22, 23, 24, 25, 26, 27, 28, 31, 32, 33, 34, 35, 36, 37, 38, 106, 107, 108, 126, 127, 128, 129, 136, 137, 138, 139, 206, 207, 208, 216, 217, 218, 219, 236, 237, 238, 239, 306, 307, 308, 316, 317, 318, 319, 326, 327, 328, 329, 1029, 1039, 1209, 1239, 1309, 1329, 2019, 2039, 2109, 2139, 2309, 2319, 3019, 3029, 3109, 3129, 3209, 3219]
theorem gvl_0 : ∀ x, x < 10 → ∀ a, a < 4 → ∀ b, b < 4 → ∀ c, c < 4 → (!gv 4 (encG x a b c) || gvl.contains (encG x a b c)) = true := by decide +kernel
theorem gvl_m {g : Nat} (h : gv 4 g = true) : g ∈ gvl := by
  obtain ⟨k1, k9, ha⟩ := gv_k h
  have e := gv_e h
  have key : ∀ b c, b < 4 → c < 4 → g = encG (kN g) (aN g) b c → g ∈ gvl := fun b c hb hc he => by
    have h1 := gvl_0 (kN g) (by omega) (aN g) ha b hb c hc
    rw [← he, h] at h1
    simpa using h1
  split at e
  · rename_i h6
    exact key 0 0 (by omega) (by omega) (by unfold encG; rw [if_pos h6]; exact e)
  · rename_i h6
    have h2 := gv_2 h (by omega)
    split at e
    · rename_i h9
      exact key (bN g) 0 (by omega) (by omega) (by unfold encG; rw [if_neg h6, if_pos h9]; exact e)
    · rename_i h9
      have h3 := gv_3 h (by omega)
      exact key (bN g) (cN g) (by omega) (by omega) (by unfold encG; rw [if_neg h6, if_neg h9]; exact e)
def chk (g h : Nat) : Bool := ((caN g h || decide (0 < toN g h)) == meN g h) && (psN g h == paN g h) && (!meN g h || (if toN g h = 2 then unN g == some (gi 2 (aN g)) else if toN g h = 4 then unN g == some (gi 5 (aN g)) else unN g == none))
theorem chk_all : (gvl.all (fun g => gvl.all (fun h => chk g h))) = true := by decide +kernel
theorem chk_g {g h : Nat} (hg : gv 4 g = true) (hh : gv 4 h = true) : (caN g h = true ∨ 0 < toN g h ↔ meN g h = true) ∧ psN g h = paN g h ∧ (meN g h = true → (toN g h = 2 → unN g = some (gi 2 (aN g))) ∧ (toN g h = 4 → unN g = some (gi 5 (aN g))) ∧ (toN g h ≠ 2 → toN g h ≠ 4 → unN g = none)) := by
  have h1 := List.all_eq_true.mp (List.all_eq_true.mp chk_all g (gvl_m hg)) h (gvl_m hh)
  unfold chk at h1
  simp only [Bool.and_eq_true, beq_iff_eq] at h1
  obtain ⟨⟨e1, e2⟩, e3⟩ := h1
  refine ⟨?_, e2, fun hm => ?_⟩
  · rw [← e1]; simp
  · rw [hm] at e3
    simp only [Bool.not_true, Bool.false_or] at e3
    refine ⟨fun e => ?_, fun e => ?_, fun n2 n4 => ?_⟩
    · rw [if_pos e] at e3; simpa using e3
    · rw [if_neg (by omega), if_pos e] at e3; simpa using e3
    · rw [if_neg n2, if_neg n4] at e3; simpa using e3
section
variable {z k a b c : Nat → Int32} {Ls : Nat → List Nat}
theorem m_remove {Q : QM} (hM : MM z k a b c Ls) {s i : Nat} (hs : s < 4) (hi : i < (Ls s).length)
    (h : ∀ z k a b c, MM z k a b c (upS Ls s ((Ls s).eraseIdx i)) → Q z k a b c) : wpX7_remove Q (nI s) (nI i) z k a b c := by
  obtain ⟨es, hl, hgs⟩ := hM s hs
  unfold wpX7_remove
  refine pk_loop (σ := (Nat → Int32) × (Nat → Int32) × (Nat → Int32) × (Nat → Int32)) (fun n j m => wpX7_remove_2 Q n (nI s) (nI j) z m.1 m.2.1 m.2.2.1 m.2.2.2) (fun j m => i ≤ j ∧ (∀ p, ¬ (64 * s ≤ p ∧ p < 64 * s + 64) → m.1 p = k p ∧ m.2.1 p = a p ∧ m.2.2.1 p = b p ∧ m.2.2.2 p = c p) ∧ ∀ p, p < (Ls s).length → MG m.1 m.2.1 m.2.2.1 m.2.2.2 (64 * s + p) (if i ≤ p ∧ p < j then (Ls s).getD (p + 1) 0 else (Ls s).getD p 0)) ((Ls s).length - 1) i (k, a, b, c) (by omega) ⟨Nat.le_refl _, fun p _ => ⟨rfl, rfl, rfl, rfl⟩, fun p hp => by rw [if_neg (by omega)]; exact (hgs p hp).2⟩ ?_ ?_
  · intro n m hI
    obtain ⟨hij, hfr, hI⟩ := hI
    simp (disch := omega) only [wpX7_remove_2, wpX7_remove_2b, es, not_true_eq_false, not_false_eq_true, forall_const, true_implies, false_implies, implies_true, and_true, true_and, and_self, Nat.not_lt_zero, ne_eq, if_true, if_false, reduceIte, Nat.reduceAdd, Nat.reduceMul, Nat.reduceSub, Nat.reduceLT, Nat.reduceLeDiff, Nat.reduceEqDiff, Nat.add_sub_cancel, eq_self_iff_true, L_0, L_1, L_2, L_3, L_4, L_5, L_6, L_7, L_8, L_9, L_10, L_16, L_20, L_21, L_24, L_31, L_64, L_100, L_320, L_400, L_1000, L_256, nI_add, pk_mul, pk_sub, nI_clamp, vp_in_nI, nI_ge, nI_le, nI_lt, nI_nlt, qI_ne, qI_eq, qI_m1, q_all, qI_nm, qI_nm2]
    refine h _ _ _ _ _ (fun t ht => ?_)
    by_cases e : t = s
    · subst e
      rw [upS_s, pk_us, List.length_eraseIdx_of_lt hi]
      refine ⟨rfl, by omega, fun p hp => ?_⟩
      rw [g_er]
      have h9 := hI p (by omega)
      by_cases e2 : p < i
      · rw [if_pos e2]; rw [if_neg (by omega)] at h9; exact ⟨(hgs p (by omega)).1, h9⟩
      · rw [if_neg e2]; rw [if_pos (by omega)] at h9; exact ⟨(hgs (p + 1) (by omega)).1, h9⟩
    · rw [upS_n e, pk_un e]
      obtain ⟨q1, q2, q3⟩ := hM t ht
      refine ⟨q1, q2, fun p hp => ⟨(q3 p hp).1, ?_⟩⟩
      have h9 := hfr (64 * t + p) (by omega)
      have h8 := (q3 p hp).2
      unfold MG at h8 ⊢
      rw [h9.1, h9.2.1, h9.2.2.1, h9.2.2.2]; exact h8
  · intro n j m hj hI hk
    obtain ⟨hij, hfr, hI⟩ := hI
    simp (disch := omega) only [wpX7_remove_2, wpX7_remove_2b, es, q_all, not_true_eq_false, not_false_eq_true, forall_const, true_implies, false_implies, implies_true, and_true, true_and, and_self, Nat.not_lt_zero, ne_eq, if_true, if_false, reduceIte, Nat.reduceAdd, Nat.reduceMul, Nat.reduceSub, Nat.reduceLT, Nat.reduceLeDiff, Nat.reduceEqDiff, Nat.add_sub_cancel, eq_self_iff_true, L_0, L_1, L_2, L_3, L_4, L_5, L_6, L_7, L_8, L_9, L_10, L_16, L_20, L_21, L_24, L_31, L_64, L_100, L_320, L_400, L_1000, L_256, nI_add, pk_mul, pk_sub, nI_clamp, vp_in_nI, nI_ge, nI_le, nI_lt, nI_nlt, qI_ne, qI_eq, qI_m1, q_all, qI_nm, qI_nm2]
    have h1 := hI (j + 1) (by omega)
    rw [if_neg (by omega)] at h1
    refine hk (upd m.1 (64 * s + j) (m.1 (64 * s + j + 1)), upd m.2.1 (64 * s + j) (m.2.1 (64 * s + j + 1)), upd m.2.2.1 (64 * s + j) (m.2.2.1 (64 * s + j + 1)), upd m.2.2.2 (64 * s + j) (m.2.2.2 (64 * s + j + 1))) ⟨by omega, fun p hp => ?_, fun p hp => ?_⟩
    · have h9 := hfr p hp
      show upd _ _ _ p = k p ∧ upd _ _ _ p = a p ∧ upd _ _ _ p = b p ∧ upd _ _ _ p = c p
      rw [pk_un (by omega), pk_un (by omega), pk_un (by omega), pk_un (by omega)]
      exact h9
    · by_cases e : p = j
      · subst e
        rw [if_pos (by omega)]
        show MG (upd m.1 _ _) (upd m.2.1 _ _) (upd m.2.2.1 _ _) (upd m.2.2.2 _ _) _ _
        unfold MG at h1 ⊢
        rw [pk_us, pk_us, pk_us, pk_us]
        exact h1
      · have h9 := hI p hp
        show MG (upd m.1 _ _) (upd m.2.1 _ _) (upd m.2.2.1 _ _) (upd m.2.2.2 _ _) _ _
        unfold MG at h9 ⊢
        rw [pk_un (by omega), pk_un (by omega), pk_un (by omega), pk_un (by omega)]
        by_cases e2 : i ≤ p ∧ p < j
        · rw [if_pos e2] at h9; rw [if_pos (by omega)]; exact h9
        · rw [if_neg e2] at h9; rw [if_neg (by omega)]; exact h9
theorem gi_v {n w x : Nat} (hx : 1 ≤ x) (h6 : x < 6) (hw : w < n) (hn : n < 5) : gv n (gi x w) = true := by
  have e := encG_v (k := x) (a := w) (b := 0) (c := 0) hx (by omega) hn hw (by omega) (by omega) (by omega) (by omega)
  have e2 : encG x w 0 0 = gi x w := by unfold encG gi; rw [if_pos h6]
  rw [e2] at e; exact e
theorem unL_v {n i j : Nat} {L : List Nat} (hn : n < 5) (hi : i < j) (hj : j < L.length) (hv : ∀ x ∈ L, gv n x = true) : ∀ x ∈ unL L i j, gv n x = true := by
  have hg := hv _ (g_mem (d := 0) (show i < L.length by omega))
  have hw := (gv_k hg).2.2
  unfold unL
  cases e : unN (L.getD i 0) with
  | none => exact fun x hx => hv x (List.mem_of_mem_eraseIdx (List.mem_of_mem_eraseIdx hx))
  | some u =>
    intro x hx
    rcases List.mem_or_eq_of_mem_set hx with h | h
    · exact hv x (List.mem_of_mem_eraseIdx h)
    · subst h
      unfold unN at e
      split at e
      · cases e; exact gi_v (by omega) (by omega) hw hn
      · split at e
        · cases e; exact gi_v (by omega) (by omega) hw hn
        · cases e
theorem unL_len {i j : Nat} {L : List Nat} (hi : i < j) (hj : j < L.length) : (unL L i j).length < L.length := by
  unfold unL
  have h1 : (L.eraseIdx j).length = L.length - 1 := List.length_eraseIdx_of_lt hj
  cases unN (L.getD i 0) with
  | none =>
    show ((L.eraseIdx j).eraseIdx i).length < _
    rw [List.length_eraseIdx_of_lt (by omega)]; omega
  | some u =>
    show ((L.eraseIdx j).set i u).length < _
    rw [List.length_set]; omega
theorem rwAt_p {L M : List Nat} {i : Nat} (h : rwAt L i = some M) : ∃ j, i < j ∧ j < L.length ∧ M = unL L i j := by
  unfold rwAt at h
  cases e : findP (L.getD i 0) (L.drop (i + 1)) with
  | none => rw [e] at h; cases h
  | some j =>
    rw [e] at h
    have hj := findP_lt e
    rw [List.length_drop] at hj
    exact ⟨i + 1 + j, by omega, by omega, by cases h; rfl⟩
theorem rwF_p {L M : List Nat} : ∀ {n i : Nat}, rwF L n i = some M → ∃ i j, i < j ∧ j < L.length ∧ M = unL L i j := by
  intro n
  induction n with
  | zero => intro i h; cases h
  | succ n ih =>
    intro i h
    unfold rwF at h
    cases e : rwAt L i with
    | none => rw [e] at h; exact ih h
    | some M' => rw [e] at h; cases h; exact ⟨i, rwAt_p e⟩
theorem rwOne_p {n : Nat} {L M : List Nat} (hn : n < 5) (h : rwOne L = some M) (hv : ∀ x ∈ L, gv n x = true) : M.length < L.length ∧ ∀ x ∈ M, gv n x = true := by
  obtain ⟨i, j, hi, hj, rfl⟩ := rwF_p h
  exact ⟨unL_len hi hj, unL_v hn hi hj hv⟩
theorem rwN_ge : ∀ (n : Nat) (L : List Nat), L.length ≤ n → rwN (n + 1) L = rwN n L := by
  intro n
  induction n with
  | zero => intro L h; have : L = [] := List.eq_nil_of_length_eq_zero (by omega); subst this; rfl
  | succ n ih =>
    intro L h
    show (match rwOne L with | none => L | some M => rwN (n + 1) M) = (match rwOne L with | none => L | some M => rwN n M)
    cases e : rwOne L with
    | none => rfl
    | some M =>
      obtain ⟨i, j, hi, hj, rfl⟩ := rwF_p e
      have := unL_len hi hj
      exact ih _ (by omega)
theorem rwN_v {n : Nat} (hn : n < 5) : ∀ (m : Nat) (L : List Nat), (∀ x ∈ L, gv n x = true) → (rwN m L).length ≤ L.length ∧ ∀ x ∈ rwN m L, gv n x = true := by
  intro m
  induction m with
  | zero => intro L hv; exact ⟨Nat.le_refl _, hv⟩
  | succ m ih =>
    intro L hv
    show (match rwOne L with | none => L | some M => rwN m M).length ≤ _ ∧ ∀ x ∈ (match rwOne L with | none => L | some M => rwN m M), _
    cases e : rwOne L with
    | none => exact ⟨Nat.le_refl _, hv⟩
    | some M =>
      obtain ⟨h1, h2⟩ := rwOne_p hn e hv
      obtain ⟨h3, h4⟩ := ih M h2
      exact ⟨by show (rwN m M).length ≤ _; omega, h4⟩
end
