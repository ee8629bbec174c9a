/-! The reference's state: weights, measuring. -/
theorem m_w45f {Q : Int64 → Int32 → Prop} {n : Nat} {hs : Int32} {V : Nat → Int64} {x y p ft f9 : Int32} (hn : n < 5) (hf : ¬ ft = 0) (h : Q 0 ft) : wpX7_weight_45 Q (nI n) hs V x y p ft f9 := by
  have hb : 1 ≤ 2 ^ n := Nat.one_le_two_pow
  have hb2 := p16 (n := n) (by omega)
  have hf' : (ft = nI 0) = False := eq_false hf
  unfold wpX7_weight_45
  refine ⟨1, ?_⟩
  simp (disch := omega) only [wpX7_weight_54, wpX7_weight_54b, z_basis hn, hf', not_true_eq_false, not_false_eq_true, forall_const, true_implies, false_implies, implies_true, and_true, true_and, and_self, Nat.not_lt_zero, ne_eq, if_true, if_false, reduceIte, Nat.reduceAdd, Nat.reduceMul, Nat.reduceSub, Nat.reduceLT, Nat.reduceLeDiff, Nat.reduceEqDiff, Nat.add_sub_cancel, eq_self_iff_true, L_0, L_1, L_2, L_3, L_4, L_5, L_6, L_7, L_8, L_9, L_10, L_16, L_20, L_21, L_24, L_31, L_64, L_100, L_320, L_400, L_1000, L_256, nI_add, pk_mul, pk_sub, nI_clamp, vp_in_nI, nI_ge, nI_le, nI_lt, nI_nlt, qI_ne, qI_eq, qI_m1, q_all, qI_nm, qI_nm2]
  exact h
theorem m_w45 {Q : Int64 → Int32 → Prop} {n w v p : Nat} {hs f9 : Int32} {V : Nat → Int64} (hn : n < 5) (hw : w < 4) (hv : v < 2) (hp : p < 2) (h : Q (smW (fun i => bitN i w == v) (if p = 0 then whT V else roT V) (2 ^ n)) 0) : wpX7_weight_45 Q (nI n) hs V (nI w) (nI v) (nI p) 0 f9 := by
  have hb := p16 (n := n) (by omega)
  unfold wpX7_weight_45
  refine pk_loop (σ := Int64) (fun m i s => wpX7_weight_54 Q (nI n) hs V m (nI w) (nI v) (nI p) s (nI i) 0) (fun i s => s = smW (fun i => bitN i w == v) (if p = 0 then whT V else roT V) i) (2 ^ n) 0 0 (Nat.zero_le _) rfl ?_ ?_
  · intro m s hI
    simp (disch := omega) only [wpX7_weight_54, wpX7_weight_54b, z_basis hn, not_true_eq_false, not_false_eq_true, forall_const, true_implies, false_implies, implies_true, and_true, true_and, and_self, Nat.not_lt_zero, ne_eq, if_true, if_false, reduceIte, Nat.reduceAdd, Nat.reduceMul, Nat.reduceSub, Nat.reduceLT, Nat.reduceLeDiff, Nat.reduceEqDiff, Nat.add_sub_cancel, eq_self_iff_true, L_0, L_1, L_2, L_3, L_4, L_5, L_6, L_7, L_8, L_9, L_10, L_16, L_20, L_21, L_24, L_31, L_64, L_100, L_320, L_400, L_1000, L_256, nI_add, pk_mul, pk_sub, nI_clamp, vp_in_nI, nI_ge, nI_le, nI_lt, nI_nlt, qI_ne, qI_eq, qI_m1, q_all, qI_nm, qI_nm2]
    rw [hI]; exact h
  · intro m i s hi hI hk
    have hl := bitN_lt i w
    have st : smW (fun i => bitN i w == v) (if p = 0 then whT V else roT V) (i + 1) = if (bitN i w == v) = true then smW (fun i => bitN i w == v) (if p = 0 then whT V else roT V) i + (if p = 0 then whT V else roT V) i else smW (fun i => bitN i w == v) (if p = 0 then whT V else roT V) i := rfl
    simp (disch := omega) only [wpX7_weight_54, wpX7_weight_54b, z_basis hn, not_true_eq_false, not_false_eq_true, forall_const, true_implies, false_implies, implies_true, and_true, true_and, and_self, Nat.not_lt_zero, ne_eq, if_true, if_false, reduceIte, Nat.reduceAdd, Nat.reduceMul, Nat.reduceSub, Nat.reduceLT, Nat.reduceLeDiff, Nat.reduceEqDiff, Nat.add_sub_cancel, eq_self_iff_true, L_0, L_1, L_2, L_3, L_4, L_5, L_6, L_7, L_8, L_9, L_10, L_16, L_20, L_21, L_24, L_31, L_64, L_100, L_320, L_400, L_1000, L_256, nI_add, pk_mul, pk_sub, nI_clamp, vp_in_nI, nI_ge, nI_le, nI_lt, nI_nlt, qI_ne, qI_eq, qI_m1, q_all, qI_nm, qI_nm2]
    rcases (show v = 0 ∨ v = 1 by omega) with rfl | rfl
    · simp (disch := omega) only [wpX7_weight_86, z_bit, q_all, not_true_eq_false, not_false_eq_true, forall_const, true_implies, false_implies, implies_true, and_true, true_and, and_self, Nat.not_lt_zero, ne_eq, if_true, if_false, reduceIte, Nat.reduceAdd, Nat.reduceMul, Nat.reduceSub, Nat.reduceLT, Nat.reduceLeDiff, Nat.reduceEqDiff, Nat.add_sub_cancel, eq_self_iff_true, L_0, L_1, L_2, L_3, L_4, L_5, L_6, L_7, L_8, L_9, L_10, L_16, L_20, L_21, L_24, L_31, L_64, L_100, L_320, L_400, L_1000, L_256, nI_add, pk_mul, pk_sub, nI_clamp, vp_in_nI, nI_ge, nI_le, nI_lt, nI_nlt, qI_ne, qI_eq, qI_m1, q_all, qI_nm, qI_nm2]
      rw [q_biteq (by omega)]
      refine ⟨fun h9 => ?_, fun h9 => hk _ ?_⟩
      · rcases (show p = 0 ∨ p = 1 by omega) with rfl | rfl
        · simp (disch := omega) only [not_true_eq_false, not_false_eq_true, forall_const, true_implies, false_implies, implies_true, and_true, true_and, and_self, Nat.not_lt_zero, ne_eq, if_true, if_false, reduceIte, Nat.reduceAdd, Nat.reduceMul, Nat.reduceSub, Nat.reduceLT, Nat.reduceLeDiff, Nat.reduceEqDiff, Nat.add_sub_cancel, eq_self_iff_true, L_0, L_1, L_2, L_3, L_4, L_5, L_6, L_7, L_8, L_9, L_10, L_16, L_20, L_21, L_24, L_31, L_64, L_100, L_320, L_400, L_1000, L_256, nI_add, pk_mul, pk_sub, nI_clamp, vp_in_nI, nI_ge, nI_le, nI_lt, nI_nlt, qI_ne, qI_eq, qI_m1, q_all, qI_nm, qI_nm2]
          refine hk _ ?_
          rw [st, if_pos (by simpa using h9), ← hI]; rfl
        · simp (disch := omega) only [not_true_eq_false, not_false_eq_true, forall_const, true_implies, false_implies, implies_true, and_true, true_and, and_self, Nat.not_lt_zero, ne_eq, if_true, if_false, reduceIte, Nat.reduceAdd, Nat.reduceMul, Nat.reduceSub, Nat.reduceLT, Nat.reduceLeDiff, Nat.reduceEqDiff, Nat.add_sub_cancel, eq_self_iff_true, L_0, L_1, L_2, L_3, L_4, L_5, L_6, L_7, L_8, L_9, L_10, L_16, L_20, L_21, L_24, L_31, L_64, L_100, L_320, L_400, L_1000, L_256, nI_add, pk_mul, pk_sub, nI_clamp, vp_in_nI, nI_ge, nI_le, nI_lt, nI_nlt, qI_ne, qI_eq, qI_m1, q_all, qI_nm, qI_nm2]
          refine hk _ ?_
          rw [st, if_pos (by simpa using h9), ← hI]; rfl
      · rw [st, if_neg (by simpa using h9), hI]
    · simp (disch := omega) only [wpX7_weight_86, z_bit, q_all, not_true_eq_false, not_false_eq_true, forall_const, true_implies, false_implies, implies_true, and_true, true_and, and_self, Nat.not_lt_zero, ne_eq, if_true, if_false, reduceIte, Nat.reduceAdd, Nat.reduceMul, Nat.reduceSub, Nat.reduceLT, Nat.reduceLeDiff, Nat.reduceEqDiff, Nat.add_sub_cancel, eq_self_iff_true, L_0, L_1, L_2, L_3, L_4, L_5, L_6, L_7, L_8, L_9, L_10, L_16, L_20, L_21, L_24, L_31, L_64, L_100, L_320, L_400, L_1000, L_256, nI_add, pk_mul, pk_sub, nI_clamp, vp_in_nI, nI_ge, nI_le, nI_lt, nI_nlt, qI_ne, qI_eq, qI_m1, q_all, qI_nm, qI_nm2]
      rw [q_biteq (by omega)]
      refine ⟨fun h9 => ?_, fun h9 => hk _ ?_⟩
      · rcases (show p = 0 ∨ p = 1 by omega) with rfl | rfl
        · simp (disch := omega) only [not_true_eq_false, not_false_eq_true, forall_const, true_implies, false_implies, implies_true, and_true, true_and, and_self, Nat.not_lt_zero, ne_eq, if_true, if_false, reduceIte, Nat.reduceAdd, Nat.reduceMul, Nat.reduceSub, Nat.reduceLT, Nat.reduceLeDiff, Nat.reduceEqDiff, Nat.add_sub_cancel, eq_self_iff_true, L_0, L_1, L_2, L_3, L_4, L_5, L_6, L_7, L_8, L_9, L_10, L_16, L_20, L_21, L_24, L_31, L_64, L_100, L_320, L_400, L_1000, L_256, nI_add, pk_mul, pk_sub, nI_clamp, vp_in_nI, nI_ge, nI_le, nI_lt, nI_nlt, qI_ne, qI_eq, qI_m1, q_all, qI_nm, qI_nm2]
          refine hk _ ?_
          rw [st, if_pos (by simpa using h9), ← hI]; rfl
        · simp (disch := omega) only [not_true_eq_false, not_false_eq_true, forall_const, true_implies, false_implies, implies_true, and_true, true_and, and_self, Nat.not_lt_zero, ne_eq, if_true, if_false, reduceIte, Nat.reduceAdd, Nat.reduceMul, Nat.reduceSub, Nat.reduceLT, Nat.reduceLeDiff, Nat.reduceEqDiff, Nat.add_sub_cancel, eq_self_iff_true, L_0, L_1, L_2, L_3, L_4, L_5, L_6, L_7, L_8, L_9, L_10, L_16, L_20, L_21, L_24, L_31, L_64, L_100, L_320, L_400, L_1000, L_256, nI_add, pk_mul, pk_sub, nI_clamp, vp_in_nI, nI_ge, nI_le, nI_lt, nI_nlt, qI_ne, qI_eq, qI_m1, q_all, qI_nm, qI_nm2]
          refine hk _ ?_
          rw [st, if_pos (by simpa using h9), ← hI]; rfl
      · rw [st, if_neg (by simpa using h9), hI]
theorem m_me35f {Q : Int32 → Int32 → Int32 → (Nat → Int64) → Prop} {n : Nat} {hs sc : Int32} {V : Nat → Int64} {x y ft f9 : Int32} (hn : n < 5) (hf : ¬ ft = 0) (h : Q 0 ft sc V) : wpX7_measure_35 Q (nI n) hs x y ft f9 sc V := by
  have hb : 1 ≤ 2 ^ n := Nat.one_le_two_pow
  have hb2 := p16 (n := n) (by omega)
  have hf' : (ft = nI 0) = False := eq_false hf
  unfold wpX7_measure_35
  refine ⟨1, ?_⟩
  simp (disch := omega) only [wpX7_measure_43, wpX7_measure_43b, z_basis hn, hf', wpX7_measure_110, not_true_eq_false, not_false_eq_true, forall_const, true_implies, false_implies, implies_true, and_true, true_and, and_self, Nat.not_lt_zero, ne_eq, if_true, if_false, reduceIte, Nat.reduceAdd, Nat.reduceMul, Nat.reduceSub, Nat.reduceLT, Nat.reduceLeDiff, Nat.reduceEqDiff, Nat.add_sub_cancel, eq_self_iff_true, L_0, L_1, L_2, L_3, L_4, L_5, L_6, L_7, L_8, L_9, L_10, L_16, L_20, L_21, L_24, L_31, L_64, L_100, L_320, L_400, L_1000, L_256, nI_add, pk_mul, pk_sub, nI_clamp, vp_in_nI, nI_ge, nI_le, nI_lt, nI_nlt, qI_ne, qI_eq, qI_m1, q_all, qI_nm, qI_nm2]
  exact h
theorem anyV_c (n w v : Nat) (V : Nat → Int64) : anyV n w v V = false ↔ ∀ j, j < 4 * 2 ^ n → ¬ (bitN (j / 4) w = v ∧ V j ≠ 0) := by
  unfold anyV
  rw [Bool.not_eq_false', allN_t]
  constructor
  · intro h j hj h9
    have := h j hj
    simp [h9.1, h9.2] at this
  · intro h j hj
    have := h j hj
    simp at this ⊢
    exact (Decidable.em (bitN (j / 4) w = v)).elim (fun e => Or.inr (this e)) Or.inl
theorem m_me35 {Q : Int32 → Int32 → Int32 → (Nat → Int64) → Prop} {n w v e : Nat} {hs f9 : Int32} {V : Nat → Int64} (hn : n < 5) (hw : w < 4) (hv : v < 2) (he : e < 1000)
    (h0 : anyV n w v V = false → Q 0 0 (nI e) V)
    (h1 : anyV n w v V = true → Q 1 0 (nI (lowV n e (kpV n w v V)).1) (lowV n e (kpV n w v V)).2) : wpX7_measure_35 Q (nI n) hs (nI w) (nI v) 0 f9 (nI e) V := by
  have hb := p16 (n := n) (by omega)
  unfold wpX7_measure_35
  refine pk_loop (σ := Int32) (fun m i s => wpX7_measure_43 Q (nI n) hs m (nI w) (nI v) s (nI i) 0 (nI e) V) (fun i s => (s = 0 ∧ ∀ j, j < i → ¬ (bitN (j / 4) w = v ∧ V j ≠ 0)) ∨ (s = 1 ∧ anyV n w v V = true)) (4 * 2 ^ n) 0 0 (Nat.zero_le _) (Or.inl ⟨rfl, fun j hj => absurd hj (by omega)⟩) ?_ ?_
  · intro m s hI
    simp (disch := omega) only [wpX7_measure_43, wpX7_measure_43b, z_basis hn, wpX7_measure_110, not_true_eq_false, not_false_eq_true, forall_const, true_implies, false_implies, implies_true, and_true, true_and, and_self, Nat.not_lt_zero, ne_eq, if_true, if_false, reduceIte, Nat.reduceAdd, Nat.reduceMul, Nat.reduceSub, Nat.reduceLT, Nat.reduceLeDiff, Nat.reduceEqDiff, Nat.add_sub_cancel, eq_self_iff_true, L_0, L_1, L_2, L_3, L_4, L_5, L_6, L_7, L_8, L_9, L_10, L_16, L_20, L_21, L_24, L_31, L_64, L_100, L_320, L_400, L_1000, L_256, nI_add, pk_mul, pk_sub, nI_clamp, vp_in_nI, nI_ge, nI_le, nI_lt, nI_nlt, qI_ne, qI_eq, qI_m1, q_all, qI_nm, qI_nm2]
    rcases hI with ⟨rfl, hI⟩ | ⟨rfl, hI⟩
    · exact ⟨fun _ => h0 ((anyV_c n w v V).mpr hI), fun h9 => absurd rfl h9⟩
    · refine ⟨fun h9 => absurd h9 (by decide), fun _ => ?_⟩
      have h1 := h1 hI
      refine pk_loop (σ := Nat → Int64) (fun m i s => wpX7_measure_119 Q (nI n) hs m (nI w) (nI v) (nI i) 0 (nI e) s) (fun i s => ∀ k, s k = if k < i ∧ bitN (k / 4) w ≠ v then 0 else V k) (4 * 2 ^ n) 0 V (Nat.zero_le _) (fun k => by rw [if_neg (by omega)]) ?_ ?_
      · intro m s hs
        simp (disch := omega) only [wpX7_measure_119, wpX7_measure_119b, z_basis hn, not_true_eq_false, not_false_eq_true, forall_const, true_implies, false_implies, implies_true, and_true, true_and, and_self, Nat.not_lt_zero, ne_eq, if_true, if_false, reduceIte, Nat.reduceAdd, Nat.reduceMul, Nat.reduceSub, Nat.reduceLT, Nat.reduceLeDiff, Nat.reduceEqDiff, Nat.add_sub_cancel, eq_self_iff_true, L_0, L_1, L_2, L_3, L_4, L_5, L_6, L_7, L_8, L_9, L_10, L_16, L_20, L_21, L_24, L_31, L_64, L_100, L_320, L_400, L_1000, L_256, nI_add, pk_mul, pk_sub, nI_clamp, vp_in_nI, nI_ge, nI_le, nI_lt, nI_nlt, qI_ne, qI_eq, qI_m1, q_all, qI_nm, qI_nm2]
        rw [show s = kpV n w v V from funext hs]
        exact m_lower hn he h1
      · intro m i s hi hs hk
        have hl := bitN_lt (i / 4) w
        have e4 : nI i / nI 4 = nI (i / 4) := pk_div (by omega) (by omega) (by omega)
        have ke : bitN (i / 4) w = v → ∀ k, vp_updL s i (s i) k = if k < i + 1 ∧ bitN (k / 4) w ≠ v then 0 else V k := fun h9 k => by
          by_cases e : k = i
          · rw [e, pk_uLs, hs i, if_neg (by omega), if_neg (fun h8 => h8.2 h9)]
          · rw [pk_uLn e, hs k]
            by_cases e2 : k < i ∧ bitN (k / 4) w ≠ v
            · rw [if_pos e2, if_pos ⟨by omega, e2.2⟩]
            · rw [if_neg e2, if_neg (fun h8 => e2 ⟨by omega, h8.2⟩)]
        have kz : ¬ bitN (i / 4) w = v → ∀ k, vp_updL s i 0 k = if k < i + 1 ∧ bitN (k / 4) w ≠ v then 0 else V k := fun h9 k => by
          by_cases e : k = i
          · rw [e, pk_uLs, if_pos ⟨by omega, h9⟩]
          · rw [pk_uLn e, hs k]
            by_cases e2 : k < i ∧ bitN (k / 4) w ≠ v
            · rw [if_pos e2, if_pos ⟨by omega, e2.2⟩]
            · rw [if_neg e2, if_neg (fun h8 => e2 ⟨by omega, h8.2⟩)]
        simp (disch := omega) only [wpX7_measure_119, wpX7_measure_119b, z_basis hn, e4, z_bit, not_true_eq_false, not_false_eq_true, forall_const, true_implies, false_implies, implies_true, and_true, true_and, and_self, Nat.not_lt_zero, ne_eq, if_true, if_false, reduceIte, Nat.reduceAdd, Nat.reduceMul, Nat.reduceSub, Nat.reduceLT, Nat.reduceLeDiff, Nat.reduceEqDiff, Nat.add_sub_cancel, eq_self_iff_true, L_0, L_1, L_2, L_3, L_4, L_5, L_6, L_7, L_8, L_9, L_10, L_16, L_20, L_21, L_24, L_31, L_64, L_100, L_320, L_400, L_1000, L_256, nI_add, pk_mul, pk_sub, nI_clamp, vp_in_nI, nI_ge, nI_le, nI_lt, nI_nlt, qI_ne, qI_eq, qI_m1, q_all, qI_nm, qI_nm2]
        rcases (show v = 0 ∨ v = 1 by omega) with rfl | rfl
        · simp (disch := omega) only [wpX7_measure_154, not_true_eq_false, not_false_eq_true, forall_const, true_implies, false_implies, implies_true, and_true, true_and, and_self, Nat.not_lt_zero, ne_eq, if_true, if_false, reduceIte, Nat.reduceAdd, Nat.reduceMul, Nat.reduceSub, Nat.reduceLT, Nat.reduceLeDiff, Nat.reduceEqDiff, Nat.add_sub_cancel, eq_self_iff_true, L_0, L_1, L_2, L_3, L_4, L_5, L_6, L_7, L_8, L_9, L_10, L_16, L_20, L_21, L_24, L_31, L_64, L_100, L_320, L_400, L_1000, L_256, nI_add, pk_mul, pk_sub, nI_clamp, vp_in_nI, nI_ge, nI_le, nI_lt, nI_nlt, qI_ne, qI_eq, qI_m1, q_all, qI_nm, qI_nm2]
          rw [q_biteq (by omega)]
          exact ⟨fun h9 => hk _ (ke h9), fun h9 => hk _ (kz h9)⟩
        · simp (disch := omega) only [wpX7_measure_154, not_true_eq_false, not_false_eq_true, forall_const, true_implies, false_implies, implies_true, and_true, true_and, and_self, Nat.not_lt_zero, ne_eq, if_true, if_false, reduceIte, Nat.reduceAdd, Nat.reduceMul, Nat.reduceSub, Nat.reduceLT, Nat.reduceLeDiff, Nat.reduceEqDiff, Nat.add_sub_cancel, eq_self_iff_true, L_0, L_1, L_2, L_3, L_4, L_5, L_6, L_7, L_8, L_9, L_10, L_16, L_20, L_21, L_24, L_31, L_64, L_100, L_320, L_400, L_1000, L_256, nI_add, pk_mul, pk_sub, nI_clamp, vp_in_nI, nI_ge, nI_le, nI_lt, nI_nlt, qI_ne, qI_eq, qI_m1, q_all, qI_nm, qI_nm2]
          rw [q_biteq (by omega)]
          exact ⟨fun h9 => hk _ (ke h9), fun h9 => hk _ (kz h9)⟩
  · intro m i s hi hI hk
    have hl := bitN_lt (i / 4) w
    have e4 : nI i / nI 4 = nI (i / 4) := pk_div (by omega) (by omega) (by omega)
    simp (disch := omega) only [wpX7_measure_43, wpX7_measure_43b, z_basis hn, e4, z_bit, not_true_eq_false, not_false_eq_true, forall_const, true_implies, false_implies, implies_true, and_true, true_and, and_self, Nat.not_lt_zero, ne_eq, if_true, if_false, reduceIte, Nat.reduceAdd, Nat.reduceMul, Nat.reduceSub, Nat.reduceLT, Nat.reduceLeDiff, Nat.reduceEqDiff, Nat.add_sub_cancel, eq_self_iff_true, L_0, L_1, L_2, L_3, L_4, L_5, L_6, L_7, L_8, L_9, L_10, L_16, L_20, L_21, L_24, L_31, L_64, L_100, L_320, L_400, L_1000, L_256, nI_add, pk_mul, pk_sub, nI_clamp, vp_in_nI, nI_ge, nI_le, nI_lt, nI_nlt, qI_ne, qI_eq, qI_m1, q_all, qI_nm, qI_nm2]
    rcases hI with ⟨rfl, hI⟩ | ⟨rfl, hI⟩
    · refine ⟨fun _ => ?_, fun h9 => absurd rfl h9⟩
      have nx : ¬ (bitN (i / 4) w = v ∧ V i ≠ 0) → ∀ j, j < i + 1 → ¬ (bitN (j / 4) w = v ∧ V j ≠ 0) := fun h9 j hj => by
        by_cases e : j = i
        · rw [e]; exact h9
        · exact hI j (by omega)
      have yes : bitN (i / 4) w = v → V i ≠ 0 → anyV n w v V = true := fun h9 h8 => by
        cases e : anyV n w v V with
        | true => rfl
        | false => exact absurd ⟨h9, h8⟩ ((anyV_c n w v V).mp e i hi)
      rcases (show v = 0 ∨ v = 1 by omega) with rfl | rfl
      · simp (disch := omega) only [wpX7_measure_83, not_true_eq_false, not_false_eq_true, forall_const, true_implies, false_implies, implies_true, and_true, true_and, and_self, Nat.not_lt_zero, ne_eq, if_true, if_false, reduceIte, Nat.reduceAdd, Nat.reduceMul, Nat.reduceSub, Nat.reduceLT, Nat.reduceLeDiff, Nat.reduceEqDiff, Nat.add_sub_cancel, eq_self_iff_true, L_0, L_1, L_2, L_3, L_4, L_5, L_6, L_7, L_8, L_9, L_10, L_16, L_20, L_21, L_24, L_31, L_64, L_100, L_320, L_400, L_1000, L_256, nI_add, pk_mul, pk_sub, nI_clamp, vp_in_nI, nI_ge, nI_le, nI_lt, nI_nlt, qI_ne, qI_eq, qI_m1, q_all, qI_nm, qI_nm2]
        rw [q_biteq (by omega), ← L_0, lg_cmp_eq]
        exact ⟨fun h9 => ⟨fun h8 => hk 0 (Or.inl ⟨rfl, nx (fun h7 => h7.2 h8)⟩), fun h8 => hk 1 (Or.inr ⟨rfl, yes h9 h8⟩)⟩, fun h9 => hk 0 (Or.inl ⟨rfl, nx (fun h7 => h9 h7.1)⟩)⟩
      · simp (disch := omega) only [wpX7_measure_83, not_true_eq_false, not_false_eq_true, forall_const, true_implies, false_implies, implies_true, and_true, true_and, and_self, Nat.not_lt_zero, ne_eq, if_true, if_false, reduceIte, Nat.reduceAdd, Nat.reduceMul, Nat.reduceSub, Nat.reduceLT, Nat.reduceLeDiff, Nat.reduceEqDiff, Nat.add_sub_cancel, eq_self_iff_true, L_0, L_1, L_2, L_3, L_4, L_5, L_6, L_7, L_8, L_9, L_10, L_16, L_20, L_21, L_24, L_31, L_64, L_100, L_320, L_400, L_1000, L_256, nI_add, pk_mul, pk_sub, nI_clamp, vp_in_nI, nI_ge, nI_le, nI_lt, nI_nlt, qI_ne, qI_eq, qI_m1, q_all, qI_nm, qI_nm2]
        rw [q_biteq (by omega), ← L_0, lg_cmp_eq]
        exact ⟨fun h9 => ⟨fun h8 => hk 0 (Or.inl ⟨rfl, nx (fun h7 => h7.2 h8)⟩), fun h8 => hk 1 (Or.inr ⟨rfl, yes h9 h8⟩)⟩, fun h9 => hk 0 (Or.inl ⟨rfl, nx (fun h7 => h9 h7.1)⟩)⟩
    · refine ⟨fun h9 => absurd h9 (by decide), fun _ => hk 1 (Or.inr ⟨rfl, hI⟩)⟩
theorem ag_ok {n i : Nat} {V W : Nat → Int64} (h : AG n V W) (hi : i < 2 ^ n) : okD V i = okD W i := by
  unfold okD; rw [h _ (by omega), h _ (by omega), h _ (by omega), h _ (by omega)]
theorem ag_cd {n : Nat} {V W : Nat → Int64} (h : AG n V W) : cdB n V = cdB n W := allN_c (fun i hi => ag_ok h hi)
theorem ag_dv {n i : Nat} {V W : Nat → Int64} (h : AG n V W) : AG n (dvV i V) (dvV i W) := fun k hk => by
  unfold dvV
  rw [ag_gr h k hk, h k hk]
theorem ag_low {n : Nat} : ∀ {e : Nat} {V W : Nat → Int64}, AG n V W → (lowV n e V).1 = (lowV n e W).1 ∧ AG n (lowV n e V).2 (lowV n e W).2 := by
  intro e
  induction e with
  | zero => intro V W h; exact ⟨rfl, h⟩
  | succ e ih =>
    intro V W h
    unfold lowV
    rw [ag_cd h]
    split
    · exact ih (ag_fo (fun i V W _ h => ag_dv h) h)
    · exact ⟨rfl, h⟩
theorem low_le (n : Nat) : ∀ (e : Nat) (V : Nat → Int64), (lowV n e V).1 ≤ e := by
  intro e
  induction e with
  | zero => intro V; exact Nat.le_refl _
  | succ e ih =>
    intro V
    unfold lowV
    split
    · have := ih (foN dvV (2 ^ n) V); omega
    · exact Nat.le_refl _
theorem ag_sm {c : Nat → Bool} {t u : Nat → Int64} : ∀ {m : Nat}, (∀ i, i < m → t i = u i) → smW c t m = smW c u m := by
  intro m
  induction m with
  | zero => intro _; rfl
  | succ m ih => intro h; unfold smW; rw [ih (fun i hi => h i (by omega)), h m (by omega)]
theorem ag_wh {n i : Nat} {V W : Nat → Int64} (h : AG n V W) (hi : i < 2 ^ n) : whT V i = whT W i ∧ roT V i = roT W i := by
  unfold whT roT
  rw [h (4 * i) (by omega), h (4 * i + 1) (by omega), h (4 * i + 2) (by omega), h (4 * i + 3) (by omega)]
  exact ⟨rfl, rfl⟩
theorem ag_any {n w v : Nat} {V W : Nat → Int64} (h : AG n V W) : anyV n w v V = anyV n w v W := by
  unfold anyV; rw [allN_c (fun k hk => by rw [h k hk])]
theorem ag_kp {n w v : Nat} {V W : Nat → Int64} (h : AG n V W) : AG n (kpV n w v V) (kpV n w v W) := fun k hk => by
  unfold kpV; rw [h k hk]
