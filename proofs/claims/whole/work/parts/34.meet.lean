/-! The reference's tests of two gates. -/
theorem qT {Q : Int32 → Prop} {B : Bool} (h : Q (if B = true then 1 else 0)) (e : B = true) : Q (nI 1) := by rw [e] at h; exact h
theorem qF {Q : Int32 → Prop} {B : Bool} (h : Q (if B = true then 1 else 0)) (e : B = false) : Q (nI 0) := by rw [e] at h; exact h
theorem m2_eq {g w : Nat} (hw : w < 2 ^ 31) : m2 g = nI w ↔ 6 ≤ kN g ∧ bN g = w := by
  have := bN_lt g
  unfold m2
  by_cases e : 6 ≤ kN g
  · rw [if_pos e, nI_eq (by omega) hw]; simp [e]
  · rw [if_neg e]; exact ⟨fun h => absurd h (qI_nm2 hw), fun h => absurd h.1 e⟩
theorem m3_eq {g w : Nat} (hw : w < 2 ^ 31) : m3 g = nI w ↔ kN g = 9 ∧ cN g = w := by
  have := cN_lt g
  unfold m3
  by_cases e : kN g = 9
  · rw [if_pos e, nI_eq (by omega) hw]; simp [e]
  · rw [if_neg e]; exact ⟨fun h => absurd h (qI_nm2 hw), fun h => absurd h.1 e⟩
theorem m2_n {g : Nat} : m2 g < nI 0 ↔ ¬ 6 ≤ kN g := by
  have := bN_lt g
  unfold m2
  by_cases e : 6 ≤ kN g
  · rw [if_pos e]; exact ⟨fun h => absurd h (nI_pos (by omega)), fun h => absurd e h⟩
  · rw [if_neg e]; exact ⟨fun _ => e, fun _ => by decide⟩
theorem m3_n {g : Nat} : m3 g < nI 0 ↔ ¬ kN g = 9 := by
  have := cN_lt g
  unfold m3
  by_cases e : kN g = 9
  · rw [if_pos e]; exact ⟨fun h => absurd h (nI_pos (by omega)), fun h => absurd e h⟩
  · rw [if_neg e]; exact ⟨fun _ => e, fun _ => by decide⟩
theorem m2_p {g : Nat} (h : 6 ≤ kN g) : m2 g = nI (bN g) := by unfold m2; rw [if_pos h]
theorem m3_p {g : Nat} (h : kN g = 9) : m3 g = nI (cN g) := by unfold m3; rw [if_pos h]
def hasN (g w : Nat) : Bool := aN g == w || (decide (6 ≤ kN g) && bN g == w) || (kN g == 9 && cN g == w)
def shN (g h : Nat) : Bool := hasN h (aN g) || (decide (6 ≤ kN g) && hasN h (bN g)) || (kN g == 9 && hasN h (cN g))
def gbN (g h : Nat) : Bool := (kN h == 6 || kN h == 9) && (decide (0 < tuN g) && (aN g == aN h || (kN h == 9 && aN g == bN h)) || kN g == 4 && aN g == (if kN h = 6 then bN h else cN h))
def psN (g h : Nat) : Bool := !shN g h || (onN g && onN h) || gbN g h || gbN h g
def spN (g h : Nat) : Bool := (aN g == aN h && bN g == bN h) || (aN g == bN h && bN g == aN h)
def caN (g h : Nat) : Bool := kN g == kN h && (if kN g = 1 ∨ kN g = 4 then aN g == aN h else if kN g = 6 then aN g == aN h && bN g == bN h else if kN g = 7 ∨ kN g = 8 then spN g h else if kN g = 9 then cN g == cN h && spN g h else false)
def toN (g h : Nat) : Nat := if 0 < tuN g ∧ 0 < tuN h ∧ aN g = aN h then (if tuN g + tuN h = 2 ∨ tuN g + tuN h = 4 ∨ tuN g + tuN h = 8 then tuN g + tuN h else 0) else 0
def tuK (k : Nat) : Nat := if k = 3 then 1 else if k = 2 then 2 else if k = 5 then 4 else 0
theorem y_tuK : ∀ k, k < 10 → zvX7_turnsOf (nI k) = nI (tuK k) := by decide +kernel
theorem m_tu (g : Nat) : zvX7_turnsOf (nI (kN g)) = nI (tuN g) := y_tuK _ (kN_lt g)
section
variable {k a b c : Nat → Int32} {g h i j : Nat}
theorem m_has {Q : Int32 → Prop} {w : Nat} (hw : w < 10) (hi : i < 320) (h1 : MG k a b c i g) (hq : Q (if hasN g w then 1 else 0)) : wpX7_has Q (nI i) (nI w) a b c := by
  obtain ⟨f1, f2, f3, f4⟩ := h1
  have := aN_lt g
  simp (disch := omega) only [wpX7_has, f2, f3, f4, not_true_eq_false, not_false_eq_true, forall_const, true_implies, false_implies, implies_true, and_true, true_and, and_self, Nat.not_lt_zero, ne_eq, if_true, if_false, reduceIte, Nat.reduceAdd, Nat.reduceMul, Nat.reduceSub, Nat.reduceLT, Nat.reduceLeDiff, Nat.reduceEqDiff, Nat.add_sub_cancel, eq_self_iff_true, L_0, L_1, L_2, L_3, L_4, L_5, L_6, L_7, L_8, L_9, L_10, L_16, L_20, L_21, L_24, L_31, L_64, L_100, L_320, L_400, L_1000, L_256, nI_add, pk_mul, pk_sub, nI_clamp, vp_in_nI, nI_ge, nI_le, nI_lt, nI_nlt, qI_ne, qI_eq, qI_m1, q_all, qI_nm, qI_nm2]
  rw [nI_eq (by omega) (by omega), m2_eq (by omega), m3_eq (by omega)]
  refine ⟨fun e1 => qT hq (by simp [hasN, e1]), fun e1 => ⟨fun e2 => qT hq (by simp [hasN, e2]), fun e2 => ⟨fun e3 => qT hq (by simp [hasN, e3]), fun e3 => qF hq ?_⟩⟩⟩
  unfold hasN
  simp only [Bool.or_eq_false_iff, Bool.and_eq_false_iff, decide_eq_false_iff_not, beq_eq_false_iff_ne]
  refine ⟨⟨e1, ?_⟩, ?_⟩
  · by_cases e : 6 ≤ kN g
    · exact Or.inr (fun e9 => e2 ⟨e, e9⟩)
    · exact Or.inl e
  · by_cases e : kN g = 9
    · exact Or.inr (fun e9 => e3 ⟨e, e9⟩)
    · exact Or.inl e
theorem m_shares {Q : Int32 → Prop} (hi : i < 320) (hj : j < 320) (h1 : MG k a b c i g) (h2 : MG k a b c j h) (hq : Q (if shN g h then 1 else 0)) : wpX7_shares Q (nI i) (nI j) a b c := by
  have f := h1
  obtain ⟨f1, f2, f3, f4⟩ := f
  have hb := bN_lt g; have hc := cN_lt g
  have t37 : (decide (6 ≤ kN g) && hasN h (bN g)) = false → hasN h (aN g) = false → wpX7_shares_37 Q a b c (nI i) (nI j) := fun e1 e2 => by
    simp (disch := omega) only [wpX7_shares_37, f4, not_true_eq_false, not_false_eq_true, forall_const, true_implies, false_implies, implies_true, and_true, true_and, and_self, Nat.not_lt_zero, ne_eq, if_true, if_false, reduceIte, Nat.reduceAdd, Nat.reduceMul, Nat.reduceSub, Nat.reduceLT, Nat.reduceLeDiff, Nat.reduceEqDiff, Nat.add_sub_cancel, eq_self_iff_true, L_0, L_1, L_2, L_3, L_4, L_5, L_6, L_7, L_8, L_9, L_10, L_16, L_20, L_21, L_24, L_31, L_64, L_100, L_320, L_400, L_1000, L_256, nI_add, pk_mul, pk_sub, nI_clamp, vp_in_nI, nI_ge, nI_le, nI_lt, nI_nlt, qI_ne, qI_eq, qI_m1, q_all, qI_nm, qI_nm2]
    rw [m3_n]
    refine ⟨fun e => qF hq ?_, fun e => ?_⟩
    · unfold shN; rw [e1, e2]; simp [e]
    · have e9 : kN g = 9 := Decidable.not_not.mp e
      rw [m3_p e9]
      refine m_has hc hj h2 ?_
      cases e3 : hasN h (cN g) with
      | true => exact ⟨fun h9 => absurd h9 (by decide), fun _ => qT hq (by unfold shN; rw [e3]; simp [e9])⟩
      | false => exact ⟨fun _ => qF hq (by unfold shN; rw [e1, e2, e3]; simp), fun h9 => absurd rfl h9⟩
  simp (disch := omega) only [wpX7_shares, f2, f3, not_true_eq_false, not_false_eq_true, forall_const, true_implies, false_implies, implies_true, and_true, true_and, and_self, Nat.not_lt_zero, ne_eq, if_true, if_false, reduceIte, Nat.reduceAdd, Nat.reduceMul, Nat.reduceSub, Nat.reduceLT, Nat.reduceLeDiff, Nat.reduceEqDiff, Nat.add_sub_cancel, eq_self_iff_true, L_0, L_1, L_2, L_3, L_4, L_5, L_6, L_7, L_8, L_9, L_10, L_16, L_20, L_21, L_24, L_31, L_64, L_100, L_320, L_400, L_1000, L_256, nI_add, pk_mul, pk_sub, nI_clamp, vp_in_nI, nI_ge, nI_le, nI_lt, nI_nlt, qI_ne, qI_eq, qI_m1, q_all, qI_nm, qI_nm2]
  refine m_has (aN_lt g) hj h2 ?_
  cases e1 : hasN h (aN g) with
  | true => exact ⟨fun h9 => absurd h9 (by decide), fun _ => qT hq (by unfold shN; rw [e1]; simp)⟩
  | false =>
    refine ⟨fun _ => ?_, fun h9 => absurd rfl h9⟩
    rw [m2_n]
    refine ⟨fun e => t37 (by simp only [Bool.and_eq_false_iff, decide_eq_false_iff_not]; exact Or.inl e) e1, fun e => ?_⟩
    have e6 : 6 ≤ kN g := Decidable.not_not.mp e
    rw [m2_p e6]
    refine m_has hb hj h2 ?_
    cases e2 : hasN h (bN g) with
    | true => exact ⟨fun h9 => absurd h9 (by decide), fun _ => qT hq (by unfold shN; rw [e2]; simp [e6])⟩
    | false => exact ⟨fun _ => t37 (by rw [e2]; simp) e1, fun h9 => absurd rfl h9⟩
theorem m_straight {Q : Int32 → Prop} (hi : i < 320) (h1 : MG k a b c i g) (hq : Q (if onN g then 1 else 0)) : wpX7_isStraight Q (nI i) k := by
  obtain ⟨f1, f2, f3, f4⟩ := h1
  have hk := kN_lt g; have ht := tuN_lt g
  simp (disch := omega) only [wpX7_isStraight, f1, m_tu, not_true_eq_false, not_false_eq_true, forall_const, true_implies, false_implies, implies_true, and_true, true_and, and_self, Nat.not_lt_zero, ne_eq, if_true, if_false, reduceIte, Nat.reduceAdd, Nat.reduceMul, Nat.reduceSub, Nat.reduceLT, Nat.reduceLeDiff, Nat.reduceEqDiff, Nat.add_sub_cancel, eq_self_iff_true, L_0, L_1, L_2, L_3, L_4, L_5, L_6, L_7, L_8, L_9, L_10, L_16, L_20, L_21, L_24, L_31, L_64, L_100, L_320, L_400, L_1000, L_256, nI_add, pk_mul, pk_sub, nI_clamp, vp_in_nI, nI_ge, nI_le, nI_lt, nI_nlt, qI_ne, qI_eq, qI_m1, q_all, qI_nm, qI_nm2]
  rw [nI_ltI (by omega) (by omega), nI_eq (by omega) (by omega)]
  refine ⟨fun e => qT hq (by simp [onN, e]), fun e => ⟨fun e2 => qT hq (by simp [onN, e2]), fun e2 => qF hq (by unfold onN; simp only [Bool.or_eq_false_iff, decide_eq_false_iff_not, beq_eq_false_iff_ne]; exact ⟨e, e2⟩)⟩⟩
theorem m_same {Q : Int32 → Prop} (hi : i < 320) (hj : j < 320) (h1 : MG k a b c i g) (h2 : MG k a b c j h) (hg : 6 ≤ kN g) (hh : 6 ≤ kN h) (hq : Q (if spN g h then 1 else 0)) : wpX7_samePair Q (nI i) (nI j) a b := by
  obtain ⟨f1, f2, f3, f4⟩ := h1
  obtain ⟨g1, g2, g3, g4⟩ := h2
  have a1 := aN_lt g; have a2 := aN_lt h; have b1 := bN_lt g; have b2 := bN_lt h
  rw [m2_p hg] at f3; rw [m2_p hh] at g3
  have t30 : ¬ (aN g = aN h ∧ bN g = bN h) → wpX7_samePair_30 Q a b (nI i) (nI j) := fun e => by
    simp (disch := omega) only [wpX7_samePair_30, f2, f3, g2, g3, not_true_eq_false, not_false_eq_true, forall_const, true_implies, false_implies, implies_true, and_true, true_and, and_self, Nat.not_lt_zero, ne_eq, if_true, if_false, reduceIte, Nat.reduceAdd, Nat.reduceMul, Nat.reduceSub, Nat.reduceLT, Nat.reduceLeDiff, Nat.reduceEqDiff, Nat.add_sub_cancel, eq_self_iff_true, L_0, L_1, L_2, L_3, L_4, L_5, L_6, L_7, L_8, L_9, L_10, L_16, L_20, L_21, L_24, L_31, L_64, L_100, L_320, L_400, L_1000, L_256, nI_add, pk_mul, pk_sub, nI_clamp, vp_in_nI, nI_ge, nI_le, nI_lt, nI_nlt, qI_ne, qI_eq, qI_m1, q_all, qI_nm, qI_nm2]
    rw [nI_eq (by omega) (by omega), nI_eq (by omega) (by omega)]
    refine ⟨fun e1 => ⟨fun e2 => qT hq (by simp [spN, e1, e2]), fun e2 => qF hq ?_⟩, fun e1 => qF hq ?_⟩
    · unfold spN; simp only [Bool.or_eq_false_iff, Bool.and_eq_false_iff, beq_eq_false_iff_ne]; exact ⟨by omega, Or.inr e2⟩
    · unfold spN; simp only [Bool.or_eq_false_iff, Bool.and_eq_false_iff, beq_eq_false_iff_ne]; exact ⟨by omega, Or.inl e1⟩
  simp (disch := omega) only [wpX7_samePair, f2, f3, g2, g3, not_true_eq_false, not_false_eq_true, forall_const, true_implies, false_implies, implies_true, and_true, true_and, and_self, Nat.not_lt_zero, ne_eq, if_true, if_false, reduceIte, Nat.reduceAdd, Nat.reduceMul, Nat.reduceSub, Nat.reduceLT, Nat.reduceLeDiff, Nat.reduceEqDiff, Nat.add_sub_cancel, eq_self_iff_true, L_0, L_1, L_2, L_3, L_4, L_5, L_6, L_7, L_8, L_9, L_10, L_16, L_20, L_21, L_24, L_31, L_64, L_100, L_320, L_400, L_1000, L_256, nI_add, pk_mul, pk_sub, nI_clamp, vp_in_nI, nI_ge, nI_le, nI_lt, nI_nlt, qI_ne, qI_eq, qI_m1, q_all, qI_nm, qI_nm2]
  rw [nI_eq (by omega) (by omega), nI_eq (by omega) (by omega)]
  exact ⟨fun e1 => ⟨fun e2 => qT hq (by simp [spN, e1, e2]), fun e2 => t30 (fun h9 => e2 h9.2)⟩, fun e1 => t30 (fun h9 => e1 h9.1)⟩
theorem nb01 (B : Bool) : narrow .boolean (.int (if B = true then (1 : Int32) else 0)) = .int (if B = true then (1 : Int32) else 0) := by cases B <;> rfl
theorem m_cancels {Q : Int32 → Prop} (hi : i < 320) (hj : j < 320) (hg : 1 ≤ kN g) (h1 : MG k a b c i g) (h2 : MG k a b c j h) (hq : Q (if caN g h then 1 else 0)) : wpX7_cancels Q (nI i) (nI j) k a b c := by
  have H1 := h1; have H2 := h2
  obtain ⟨f1, f2, f3, f4⟩ := h1
  obtain ⟨g1, g2, g3, g4⟩ := h2
  have k1 := kN_lt g; have k2 := kN_lt h; have a1 := aN_lt g; have a2 := aN_lt h; have b1 := bN_lt g; have b2 := bN_lt h; have c1 := cN_lt g; have c2 := cN_lt h
  unfold wpX7_cancels
  by_cases ek : kN g = kN h
  · rcases (show kN g = 1 ∨ kN g = 2 ∨ kN g = 3 ∨ kN g = 4 ∨ kN g = 5 ∨ kN g = 6 ∨ kN g = 7 ∨ kN g = 8 ∨ kN g = 9 by omega) with e | e | e | e | e | e | e | e | e
    all_goals have e' : kN h = _ := ek.symm.trans e
    all_goals rw [e] at f1
    all_goals rw [e'] at g1
    · simp (disch := omega) only [f1, g1, f2, g2, not_true_eq_false, not_false_eq_true, forall_const, true_implies, false_implies, implies_true, and_true, true_and, and_self, Nat.not_lt_zero, ne_eq, if_true, if_false, reduceIte, Nat.reduceAdd, Nat.reduceMul, Nat.reduceSub, Nat.reduceLT, Nat.reduceLeDiff, Nat.reduceEqDiff, Nat.add_sub_cancel, eq_self_iff_true, L_0, L_1, L_2, L_3, L_4, L_5, L_6, L_7, L_8, L_9, L_10, L_16, L_20, L_21, L_24, L_31, L_64, L_100, L_320, L_400, L_1000, L_256, nI_add, pk_mul, pk_sub, nI_clamp, vp_in_nI, nI_ge, nI_le, nI_lt, nI_nlt, qI_ne, qI_eq, qI_m1, q_all, qI_nm, qI_nm2]
      rw [nI_eq (by omega) (by omega)]
      exact ⟨fun h9 => qT hq (by simp [caN, e, e', h9]), fun h9 => qF hq (by simp [caN, e, e', h9])⟩
    · simp (disch := omega) only [f1, g1, not_true_eq_false, not_false_eq_true, forall_const, true_implies, false_implies, implies_true, and_true, true_and, and_self, Nat.not_lt_zero, ne_eq, if_true, if_false, reduceIte, Nat.reduceAdd, Nat.reduceMul, Nat.reduceSub, Nat.reduceLT, Nat.reduceLeDiff, Nat.reduceEqDiff, Nat.add_sub_cancel, eq_self_iff_true, L_0, L_1, L_2, L_3, L_4, L_5, L_6, L_7, L_8, L_9, L_10, L_16, L_20, L_21, L_24, L_31, L_64, L_100, L_320, L_400, L_1000, L_256, nI_add, pk_mul, pk_sub, nI_clamp, vp_in_nI, nI_ge, nI_le, nI_lt, nI_nlt, qI_ne, qI_eq, qI_m1, q_all, qI_nm, qI_nm2]
      exact qF hq (by simp [caN, e, e'])
    · simp (disch := omega) only [f1, g1, not_true_eq_false, not_false_eq_true, forall_const, true_implies, false_implies, implies_true, and_true, true_and, and_self, Nat.not_lt_zero, ne_eq, if_true, if_false, reduceIte, Nat.reduceAdd, Nat.reduceMul, Nat.reduceSub, Nat.reduceLT, Nat.reduceLeDiff, Nat.reduceEqDiff, Nat.add_sub_cancel, eq_self_iff_true, L_0, L_1, L_2, L_3, L_4, L_5, L_6, L_7, L_8, L_9, L_10, L_16, L_20, L_21, L_24, L_31, L_64, L_100, L_320, L_400, L_1000, L_256, nI_add, pk_mul, pk_sub, nI_clamp, vp_in_nI, nI_ge, nI_le, nI_lt, nI_nlt, qI_ne, qI_eq, qI_m1, q_all, qI_nm, qI_nm2]
      exact qF hq (by simp [caN, e, e'])
    · simp (disch := omega) only [f1, g1, f2, g2, not_true_eq_false, not_false_eq_true, forall_const, true_implies, false_implies, implies_true, and_true, true_and, and_self, Nat.not_lt_zero, ne_eq, if_true, if_false, reduceIte, Nat.reduceAdd, Nat.reduceMul, Nat.reduceSub, Nat.reduceLT, Nat.reduceLeDiff, Nat.reduceEqDiff, Nat.add_sub_cancel, eq_self_iff_true, L_0, L_1, L_2, L_3, L_4, L_5, L_6, L_7, L_8, L_9, L_10, L_16, L_20, L_21, L_24, L_31, L_64, L_100, L_320, L_400, L_1000, L_256, nI_add, pk_mul, pk_sub, nI_clamp, vp_in_nI, nI_ge, nI_le, nI_lt, nI_nlt, qI_ne, qI_eq, qI_m1, q_all, qI_nm, qI_nm2]
      rw [nI_eq (by omega) (by omega)]
      exact ⟨fun h9 => qT hq (by simp [caN, e, e', h9]), fun h9 => qF hq (by simp [caN, e, e', h9])⟩
    · simp (disch := omega) only [f1, g1, not_true_eq_false, not_false_eq_true, forall_const, true_implies, false_implies, implies_true, and_true, true_and, and_self, Nat.not_lt_zero, ne_eq, if_true, if_false, reduceIte, Nat.reduceAdd, Nat.reduceMul, Nat.reduceSub, Nat.reduceLT, Nat.reduceLeDiff, Nat.reduceEqDiff, Nat.add_sub_cancel, eq_self_iff_true, L_0, L_1, L_2, L_3, L_4, L_5, L_6, L_7, L_8, L_9, L_10, L_16, L_20, L_21, L_24, L_31, L_64, L_100, L_320, L_400, L_1000, L_256, nI_add, pk_mul, pk_sub, nI_clamp, vp_in_nI, nI_ge, nI_le, nI_lt, nI_nlt, qI_ne, qI_eq, qI_m1, q_all, qI_nm, qI_nm2]
      exact qF hq (by simp [caN, e, e'])
    · rw [m2_p (by omega)] at f3 g3
      simp (disch := omega) only [f1, g1, f2, g2, f3, g3, not_true_eq_false, not_false_eq_true, forall_const, true_implies, false_implies, implies_true, and_true, true_and, and_self, Nat.not_lt_zero, ne_eq, if_true, if_false, reduceIte, Nat.reduceAdd, Nat.reduceMul, Nat.reduceSub, Nat.reduceLT, Nat.reduceLeDiff, Nat.reduceEqDiff, Nat.add_sub_cancel, eq_self_iff_true, L_0, L_1, L_2, L_3, L_4, L_5, L_6, L_7, L_8, L_9, L_10, L_16, L_20, L_21, L_24, L_31, L_64, L_100, L_320, L_400, L_1000, L_256, nI_add, pk_mul, pk_sub, nI_clamp, vp_in_nI, nI_ge, nI_le, nI_lt, nI_nlt, qI_ne, qI_eq, qI_m1, q_all, qI_nm, qI_nm2]
      rw [nI_eq (by omega) (by omega), nI_eq (by omega) (by omega)]
      exact ⟨fun h9 => ⟨fun h8 => qT hq (by simp [caN, e, e', h9, h8]), fun h8 => qF hq (by simp [caN, e, e', h9, h8])⟩, fun h9 => qF hq (by simp [caN, e, e', h9])⟩
    · simp (disch := omega) only [f1, g1, not_true_eq_false, not_false_eq_true, forall_const, true_implies, false_implies, implies_true, and_true, true_and, and_self, Nat.not_lt_zero, ne_eq, if_true, if_false, reduceIte, Nat.reduceAdd, Nat.reduceMul, Nat.reduceSub, Nat.reduceLT, Nat.reduceLeDiff, Nat.reduceEqDiff, Nat.add_sub_cancel, eq_self_iff_true, L_0, L_1, L_2, L_3, L_4, L_5, L_6, L_7, L_8, L_9, L_10, L_16, L_20, L_21, L_24, L_31, L_64, L_100, L_320, L_400, L_1000, L_256, nI_add, pk_mul, pk_sub, nI_clamp, vp_in_nI, nI_ge, nI_le, nI_lt, nI_nlt, qI_ne, qI_eq, qI_m1, q_all, qI_nm, qI_nm2]
      refine m_same hi hj H1 H2 (by omega) (by omega) ⟨nb01 _, ?_⟩
      rw [show caN g h = spN g h by simp [caN, e, e']] at hq; exact hq
    · simp (disch := omega) only [f1, g1, not_true_eq_false, not_false_eq_true, forall_const, true_implies, false_implies, implies_true, and_true, true_and, and_self, Nat.not_lt_zero, ne_eq, if_true, if_false, reduceIte, Nat.reduceAdd, Nat.reduceMul, Nat.reduceSub, Nat.reduceLT, Nat.reduceLeDiff, Nat.reduceEqDiff, Nat.add_sub_cancel, eq_self_iff_true, L_0, L_1, L_2, L_3, L_4, L_5, L_6, L_7, L_8, L_9, L_10, L_16, L_20, L_21, L_24, L_31, L_64, L_100, L_320, L_400, L_1000, L_256, nI_add, pk_mul, pk_sub, nI_clamp, vp_in_nI, nI_ge, nI_le, nI_lt, nI_nlt, qI_ne, qI_eq, qI_m1, q_all, qI_nm, qI_nm2]
      refine m_same hi hj H1 H2 (by omega) (by omega) ⟨nb01 _, ?_⟩
      rw [show caN g h = spN g h by simp [caN, e, e']] at hq; exact hq
    · rw [m3_p e] at f4; rw [m3_p e'] at g4
      simp (disch := omega) only [f1, g1, f4, g4, not_true_eq_false, not_false_eq_true, forall_const, true_implies, false_implies, implies_true, and_true, true_and, and_self, Nat.not_lt_zero, ne_eq, if_true, if_false, reduceIte, Nat.reduceAdd, Nat.reduceMul, Nat.reduceSub, Nat.reduceLT, Nat.reduceLeDiff, Nat.reduceEqDiff, Nat.add_sub_cancel, eq_self_iff_true, L_0, L_1, L_2, L_3, L_4, L_5, L_6, L_7, L_8, L_9, L_10, L_16, L_20, L_21, L_24, L_31, L_64, L_100, L_320, L_400, L_1000, L_256, nI_add, pk_mul, pk_sub, nI_clamp, vp_in_nI, nI_ge, nI_le, nI_lt, nI_nlt, qI_ne, qI_eq, qI_m1, q_all, qI_nm, qI_nm2]
      rw [nI_eq (by omega) (by omega)]
      refine ⟨fun h9 => ?_, fun h9 => qF hq (by simp [caN, e, e', h9])⟩
      refine m_same hi hj H1 H2 (by omega) (by omega) ?_
      rw [show caN g h = spN g h by simp [caN, e, e', h9]] at hq
      cases es : spN g h with
      | true => rw [es] at hq; exact ⟨fun h8 => absurd h8 (by decide), fun _ => hq⟩
      | false => rw [es] at hq; exact ⟨fun _ => hq, fun h8 => absurd rfl h8⟩
  · simp (disch := omega) only [f1, g1, not_true_eq_false, not_false_eq_true, forall_const, true_implies, false_implies, implies_true, and_true, true_and, and_self, Nat.not_lt_zero, ne_eq, if_true, if_false, reduceIte, Nat.reduceAdd, Nat.reduceMul, Nat.reduceSub, Nat.reduceLT, Nat.reduceLeDiff, Nat.reduceEqDiff, Nat.add_sub_cancel, eq_self_iff_true, L_0, L_1, L_2, L_3, L_4, L_5, L_6, L_7, L_8, L_9, L_10, L_16, L_20, L_21, L_24, L_31, L_64, L_100, L_320, L_400, L_1000, L_256, nI_add, pk_mul, pk_sub, nI_clamp, vp_in_nI, nI_ge, nI_le, nI_lt, nI_nlt, qI_ne, qI_eq, qI_m1, q_all, qI_nm, qI_nm2]
    exact qF hq (by simp [caN, ek])
theorem m_together {Q : Int32 → Prop} (hi : i < 320) (hj : j < 320) (h1 : MG k a b c i g) (h2 : MG k a b c j h) (hq : Q (nI (toN g h))) : wpX7_together Q (nI i) (nI j) k a := by
  obtain ⟨f1, f2, f3, f4⟩ := h1
  obtain ⟨g1, g2, g3, g4⟩ := h2
  have a1 := aN_lt g; have a2 := aN_lt h; have t1 := tuN_lt g; have t2 := tuN_lt h
  have z54 : ¬ (0 < tuN g ∧ 0 < tuN h ∧ aN g = aN h) → wpX7_together_54 Q k a := fun e => by
    simp (disch := omega) only [wpX7_together_54, wpX7_together_55, not_true_eq_false, not_false_eq_true, forall_const, true_implies, false_implies, implies_true, and_true, true_and, and_self, Nat.not_lt_zero, ne_eq, if_true, if_false, reduceIte, Nat.reduceAdd, Nat.reduceMul, Nat.reduceSub, Nat.reduceLT, Nat.reduceLeDiff, Nat.reduceEqDiff, Nat.add_sub_cancel, eq_self_iff_true, L_0, L_1, L_2, L_3, L_4, L_5, L_6, L_7, L_8, L_9, L_10, L_16, L_20, L_21, L_24, L_31, L_64, L_100, L_320, L_400, L_1000, L_256, nI_add, pk_mul, pk_sub, nI_clamp, vp_in_nI, nI_ge, nI_le, nI_lt, nI_nlt, qI_ne, qI_eq, qI_m1, q_all, qI_nm, qI_nm2]
    unfold toN at hq; rw [if_neg e] at hq; exact hq
  simp (disch := omega) only [wpX7_together, f1, g1, f2, g2, m_tu, not_true_eq_false, not_false_eq_true, forall_const, true_implies, false_implies, implies_true, and_true, true_and, and_self, Nat.not_lt_zero, ne_eq, if_true, if_false, reduceIte, Nat.reduceAdd, Nat.reduceMul, Nat.reduceSub, Nat.reduceLT, Nat.reduceLeDiff, Nat.reduceEqDiff, Nat.add_sub_cancel, eq_self_iff_true, L_0, L_1, L_2, L_3, L_4, L_5, L_6, L_7, L_8, L_9, L_10, L_16, L_20, L_21, L_24, L_31, L_64, L_100, L_320, L_400, L_1000, L_256, nI_add, pk_mul, pk_sub, nI_clamp, vp_in_nI, nI_ge, nI_le, nI_lt, nI_nlt, qI_ne, qI_eq, qI_m1, q_all, qI_nm, qI_nm2]
  rw [nI_leI (by omega) (by omega), nI_leI (by omega) (by omega), nI_eq (by omega) (by omega)]
  refine ⟨fun e => z54 (by omega), fun e => ⟨fun e2 => z54 (by omega), fun e2 => ⟨fun e3 => ?_, fun e3 => z54 (by omega)⟩⟩⟩
  unfold toN at hq
  rw [if_pos (by omega)] at hq
  simp (disch := omega) only [wpX7_together_55, not_true_eq_false, not_false_eq_true, forall_const, true_implies, false_implies, implies_true, and_true, true_and, and_self, Nat.not_lt_zero, ne_eq, if_true, if_false, reduceIte, Nat.reduceAdd, Nat.reduceMul, Nat.reduceSub, Nat.reduceLT, Nat.reduceLeDiff, Nat.reduceEqDiff, Nat.add_sub_cancel, eq_self_iff_true, L_0, L_1, L_2, L_3, L_4, L_5, L_6, L_7, L_8, L_9, L_10, L_16, L_20, L_21, L_24, L_31, L_64, L_100, L_320, L_400, L_1000, L_256, nI_add, pk_mul, pk_sub, nI_clamp, vp_in_nI, nI_ge, nI_le, nI_lt, nI_nlt, qI_ne, qI_eq, qI_m1, q_all, qI_nm, qI_nm2]
  rw [nI_eq (by omega) (by omega), nI_eq (by omega) (by omega), nI_eq (by omega) (by omega)]
  refine ⟨fun h9 => ?_, fun h9 => ⟨fun h8 => ?_, fun h8 => ⟨fun h7 => ?_, fun h7 => ?_⟩⟩⟩
  · rw [if_pos (by omega)] at hq; exact hq
  · rw [if_pos (by omega)] at hq; exact hq
  · rw [if_pos (by omega)] at hq; exact hq
  · rw [if_neg (by omega)] at hq; exact hq
end
