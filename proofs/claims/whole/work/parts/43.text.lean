/-! Texts, both sides: characters, typing, printing. -/
def TX (c : Int32) (f : Nat → Int32) (T : List Nat) : Prop := c = nI T.length ∧ T.length ≤ 320 ∧ ∀ i, i < T.length → T.getD i 0 < 127 ∧ f i = nI (T.getD i 0)
theorem TX_0 (f : Nat → Int32) : TX 0 f [] := ⟨rfl, by decide, fun i h => by simp at h⟩
theorem TX_add {f : Nat → Int32} {T : List Nat} {x : Nat} (h : TX (nI T.length) f T) (hl : T.length < 320) (hx : x < 127) : TX (nI (T.length + 1)) (upd f T.length (nI x)) (T ++ [x]) := by
  refine ⟨by simp, by simp; omega, fun i hi => ?_⟩
  simp at hi
  by_cases e : i = T.length
  · subst e; rw [g_at, pk_us]; exact ⟨hx, rfl⟩
  · rw [g_lo (by omega), pk_un e]; exact h.2.2 i (by omega)
theorem nar_c {q : Nat} (hq : q < 65536) : vp_nar .char (nI q) = nI q := by unfold vp_nar; rw [(pk_charN hq).1]
theorem ch_c {q : Nat} (hq : q < 65536) : ((nI q).toUInt32 % 65536).toInt32 = nI q := by
  rw [pk_char, pk_tn (by omega), Nat.mod_eq_of_lt hq]
theorem t_at {Q : Int32 → Prop} {c : Int32} {f : Nat → Int32} {T : List Nat} (hT : TX c f T) {i : Nat} (hi : i < T.length) (h : Q (nI (T.getD i 0))) : wpX5_at Q (nI i) c f := by
  obtain ⟨rfl, hl, hf⟩ := hT
  rw [← (hf i hi).2] at h
  simp (disch := omega) only [wpX5_at, not_true_eq_false, not_false_eq_true, forall_const, true_implies, false_implies, implies_true, and_true, true_and, and_self, Nat.not_lt_zero, ne_eq, if_true, if_false, reduceIte, Nat.reduceAdd, Nat.reduceMul, Nat.reduceSub, Nat.reduceLT, Nat.reduceLeDiff, Nat.reduceEqDiff, Nat.add_sub_cancel, eq_self_iff_true, L_0, L_1, L_2, L_3, L_4, L_5, L_6, L_7, L_8, L_9, L_10, L_16, L_20, L_21, L_24, L_31, L_64, L_100, L_320, L_400, L_1000, L_256, nI_add, pk_mul, pk_sub, nI_clamp, vp_in_nI, nI_ge, nI_le, nI_lt, nI_nlt, qI_ne, qI_eq, qI_m1, q_all, qI_nm, qI_nm2]
  exact h
theorem t_atf {Q : Int32 → Prop} {c : Int32} {f : Nat → Int32} {T : List Nat} (hT : TX c f T) {x : Int32} (hi : x < 0 ∨ nI T.length ≤ x) (h : Q (-1)) : wpX5_at Q x c f := by
  obtain ⟨rfl, hl, hf⟩ := hT
  unfold wpX5_at
  rcases hi with hi | hi
  · exact ⟨fun _ => h, fun h9 => absurd hi h9⟩
  · exact ⟨fun _ => h, fun _ => ⟨fun _ => h, fun h9 => absurd hi h9⟩⟩
theorem t_put {Q : Int32 → (Nat → Int32) → Prop} {c : Int32} {f : Nat → Int32} {T : List Nat} {x : Nat} (hT : TX c f T) (hl : T.length < 320) (hx : x < 127) (h : ∀ c' f', TX c' f' (T ++ [x]) → Q c' f') : wpX5_put Q (nI x) c f := by
  obtain ⟨rfl, hT⟩ := hT
  simp (disch := omega) only [wpX5_put, nar_c, not_true_eq_false, not_false_eq_true, forall_const, true_implies, false_implies, implies_true, and_true, true_and, and_self, Nat.not_lt_zero, ne_eq, if_true, if_false, reduceIte, Nat.reduceAdd, Nat.reduceMul, Nat.reduceSub, Nat.reduceLT, Nat.reduceLeDiff, Nat.reduceEqDiff, Nat.add_sub_cancel, eq_self_iff_true, L_0, L_1, L_2, L_3, L_4, L_5, L_6, L_7, L_8, L_9, L_10, L_16, L_20, L_21, L_24, L_31, L_64, L_100, L_320, L_400, L_1000, L_256, nI_add, pk_mul, pk_sub, nI_clamp, vp_in_nI, nI_ge, nI_le, nI_lt, nI_nlt, qI_ne, qI_eq, qI_m1, q_all, qI_nm, qI_nm2]
  exact h _ _ (TX_add ⟨rfl, hT⟩ hl hx)
def byN (x : Int64) (i : Nat) : Nat := x.toBitVec.toNat / 2 ^ (8 * i) % 256
theorem by_u (x : Int64) : ∀ i, i < 8 → zvX5_byteAt x (nI i) = nI (byN x i) := by
  intro i hi
  have key : ((x.toUInt64 >>> ((8 * nI i).toInt64.toUInt64 &&& Int64.toUInt64 63)).toInt64 &&& 255) = lN (byN x i) := by
    apply Int64.toBitVec_inj.mp
    have hs : ∀ i, i < 8 → (((8 * nI i).toInt64.toUInt64 &&& Int64.toUInt64 63).toBitVec % 64).toNat = 8 * i := by decide +kernel
    have e : ((x.toUInt64 >>> ((8 * nI i).toInt64.toUInt64 &&& Int64.toUInt64 63)).toInt64).toBitVec = x.toBitVec >>> (8 * i) := by
      show x.toBitVec >>> (((8 * nI i).toInt64.toUInt64 &&& Int64.toUInt64 63).toBitVec % 64) = _
      rw [BitVec.ushiftRight_eq', hs i hi]
    rw [Int64.toBitVec_and, e]
    show x.toBitVec >>> (8 * i) &&& 255#64 = BitVec.ofNat 64 (byN x i)
    apply BitVec.eq_of_toNat_eq
    rw [BitVec.toNat_and, BitVec.toNat_ushiftRight, BitVec.toNat_ofNat, BitVec.toNat_ofNat]
    show x.toBitVec.toNat >>> (8 * i) &&& 255 = _
    rw [Nat.shiftRight_eq_div_pow, show (255 : Nat) = 2 ^ 8 - 1 from rfl, Nat.and_two_pow_sub_one_eq_mod]
    unfold byN
    omega
  unfold zvX5_byteAt
  rw [key]; exact lN_i _
theorem by_s (x : Int64) : ∀ i, i < 8 → (x >>> ((8 * nI i).toInt64 &&& 63)) &&& 255 = lN (byN x i) := by
  intro i hi
  apply Int64.toBitVec_inj.mp
  have hs : ∀ i, i < 8 → (((8 * nI i).toInt64 &&& 63).toBitVec.smod 64).toNat = 8 * i := by decide +kernel
  have e : (x >>> ((8 * nI i).toInt64 &&& 63)).toBitVec = x.toBitVec.sshiftRight (8 * i) := by
    show x.toBitVec.sshiftRight (((8 * nI i).toInt64 &&& 63).toBitVec.smod 64).toNat = _
    rw [hs i hi]
  rw [Int64.toBitVec_and, e]
  show x.toBitVec.sshiftRight (8 * i) &&& 255#64 = BitVec.ofNat 64 (byN x i)
  apply BitVec.eq_of_getLsbD_eq
  intro j hj
  rw [BitVec.getLsbD_and, BitVec.getLsbD_sshiftRight, BitVec.getLsbD_ofNat, BitVec.getLsbD_ofNat]
  unfold byN
  rw [show (256 : Nat) = 2 ^ 8 from rfl, Nat.testBit_mod_two_pow, Nat.testBit_div_two_pow, show (255 : Nat) = 2 ^ 8 - 1 from rfl, Nat.testBit_two_pow_sub_one]
  by_cases h8 : j < 8
  · have h1 : 8 * i + j < 64 := by omega
    simp only [h8, hj, h1, decide_true, Bool.true_and, Bool.and_true, if_true, Nat.not_le.mpr hj, decide_false, Bool.not_false]
    rw [BitVec.getLsbD, Nat.add_comm]
  · simp [h8]
theorem byN_lt (x : Int64) (i : Nat) : byN x i < 256 := Nat.mod_lt _ (by omega)
def tyL (x : Int64) : Nat → List Nat
  | 0 => []
  | n + 1 => byN x n :: tyL x n
theorem tyL_len (x : Int64) (n : Nat) : (tyL x n).length = n := by
  induction n with
  | zero => rfl
  | succ n ih => show (tyL x n).length + 1 = _; rw [ih]
def tyB (x : Int64) (n : Nat) : Bool := allN (fun i => decide (32 ≤ byN x i) && decide (byN x i ≤ 126)) n
theorem y_addBytes {Q : Int32 → Int32 → (Nat → Int32) → Prop} {c : Int32} {f : Nat → Int32} {T : List Nat} {x : Int64} {n : Nat} (hT : TX c f T) (h1 : 1 ≤ n) (hn : n ≤ 8)
    (h0 : ¬ (T.length + n ≤ 320 ∧ tyB x n = true) → Q 0 c f)
    (hy : T.length + n ≤ 320 → tyB x n = true → ∀ c' f', TX c' f' (T ++ tyL x n) → Q 1 c' f') : wpX5_addBytes Q x (nI n) c f := by
  have hc := hT.1
  have hl := hT.2.1
  rw [hc] at hT h0 ⊢
  simp (disch := omega) only [wpX5_addBytes, not_true_eq_false, not_false_eq_true, forall_const, true_implies, false_implies, implies_true, and_true, true_and, and_self, Nat.not_lt_zero, ne_eq, if_true, if_false, reduceIte, Nat.reduceAdd, Nat.reduceMul, Nat.reduceSub, Nat.reduceLT, Nat.reduceLeDiff, Nat.reduceEqDiff, Nat.add_sub_cancel, eq_self_iff_true, L_0, L_1, L_2, L_3, L_4, L_5, L_6, L_7, L_8, L_9, L_10, L_16, L_20, L_21, L_24, L_31, L_64, L_100, L_320, L_400, L_1000, L_256, nI_add, pk_mul, pk_sub, nI_clamp, vp_in_nI, nI_ge, nI_le, nI_lt, nI_nlt, qI_ne, qI_eq, qI_m1, q_all, qI_nm, qI_nm2]
  rw [nI_leI (by omega) (by omega)]
  refine ⟨fun hr => ?_, fun hr => h0 (fun h9 => hr h9.1)⟩
  refine pk_loop (σ := Unit) (fun m i _ => wpX5_addBytes_28 Q m x (nI n) (nI i) (nI T.length) f) (fun i _ => allN (fun i => decide (32 ≤ byN x i) && decide (byN x i ≤ 126)) i = true) n 0 () (Nat.zero_le _) rfl ?_ ?_
  · intro m s hI
    have hI : tyB x n = true := hI
    have hy := hy hr hI
    have hok := allN_t.mp hI
    simp (disch := omega) only [wpX5_addBytes_28, wpX5_addBytes_28b, wpX5_addBytes_64, not_true_eq_false, not_false_eq_true, forall_const, true_implies, false_implies, implies_true, and_true, true_and, and_self, Nat.not_lt_zero, ne_eq, if_true, if_false, reduceIte, Nat.reduceAdd, Nat.reduceMul, Nat.reduceSub, Nat.reduceLT, Nat.reduceLeDiff, Nat.reduceEqDiff, Nat.add_sub_cancel, eq_self_iff_true, L_0, L_1, L_2, L_3, L_4, L_5, L_6, L_7, L_8, L_9, L_10, L_16, L_20, L_21, L_24, L_31, L_64, L_100, L_320, L_400, L_1000, L_256, nI_add, pk_mul, pk_sub, nI_clamp, vp_in_nI, nI_ge, nI_le, nI_lt, nI_nlt, qI_ne, qI_eq, qI_m1, q_all, qI_nm, qI_nm2]
    refine ⟨n + 1, ?_⟩
    rw [show nI (n - 1) = nI n - nI 1 from (pk_sub h1).symm]
    refine pk_loopD (σ := Int32 × (Nat → Int32)) (fun m i s => wpX5_addBytes_69 Q m x (nI i - nI 1) s.1 s.2) (fun i s => i ≤ n ∧ ∃ U, TX s.1 s.2 U ∧ U.length + i = T.length + n ∧ U ++ tyL x i = T ++ tyL x n) ?_ ?_ n (nI T.length, f) ⟨Nat.le_refl _, T, hT, rfl, rfl⟩
    · intro m s hI2
      obtain ⟨-, U, hU, -, hU2⟩ := hI2
      simp (disch := omega) only [wpX5_addBytes_69, wpX5_addBytes_69b, neg0, not_true_eq_false, not_false_eq_true, forall_const, true_implies, false_implies, implies_true, and_true, true_and, and_self, Nat.not_lt_zero, ne_eq, if_true, if_false, reduceIte, Nat.reduceAdd, Nat.reduceMul, Nat.reduceSub, Nat.reduceLT, Nat.reduceLeDiff, Nat.reduceEqDiff, Nat.add_sub_cancel, eq_self_iff_true, L_0, L_1, L_2, L_3, L_4, L_5, L_6, L_7, L_8, L_9, L_10, L_16, L_20, L_21, L_24, L_31, L_64, L_100, L_320, L_400, L_1000, L_256, nI_add, pk_mul, pk_sub, nI_clamp, vp_in_nI, nI_ge, nI_le, nI_lt, nI_nlt, qI_ne, qI_eq, qI_m1, q_all, qI_nm, qI_nm2]
      refine hy _ _ ?_
      rw [← hU2]; simpa [tyL] using hU
    · intro m i s hI2 hk
      obtain ⟨hi, U, hU, hUl, hU2⟩ := hI2
      have hb := hok i (by omega)
      simp only [Bool.and_eq_true, decide_eq_true_eq] at hb
      simp (disch := omega) only [wpX5_addBytes_69, wpX5_addBytes_69b, sub1, by_u x i (by omega), ch_c, not_true_eq_false, not_false_eq_true, forall_const, true_implies, false_implies, implies_true, and_true, true_and, and_self, Nat.not_lt_zero, ne_eq, if_true, if_false, reduceIte, Nat.reduceAdd, Nat.reduceMul, Nat.reduceSub, Nat.reduceLT, Nat.reduceLeDiff, Nat.reduceEqDiff, Nat.add_sub_cancel, eq_self_iff_true, L_0, L_1, L_2, L_3, L_4, L_5, L_6, L_7, L_8, L_9, L_10, L_16, L_20, L_21, L_24, L_31, L_64, L_100, L_320, L_400, L_1000, L_256, nI_add, pk_mul, pk_sub, nI_clamp, vp_in_nI, nI_ge, nI_le, nI_lt, nI_nlt, qI_ne, qI_eq, qI_m1, q_all, qI_nm, qI_nm2]
      refine t_put hU (by omega) (by omega) (fun c' f' h' => ?_)
      rw [m1s]
      refine hk (c', f') ⟨by omega, U ++ [byN x i], h', by simp; omega, ?_⟩
      rw [← hU2]; simp [tyL]
  · intro m i s hi hI hk
    have hbl := byN_lt x i
    simp (disch := omega) only [wpX5_addBytes_28, wpX5_addBytes_28b, by_u x i (by omega), not_true_eq_false, not_false_eq_true, forall_const, true_implies, false_implies, implies_true, and_true, true_and, and_self, Nat.not_lt_zero, ne_eq, if_true, if_false, reduceIte, Nat.reduceAdd, Nat.reduceMul, Nat.reduceSub, Nat.reduceLT, Nat.reduceLeDiff, Nat.reduceEqDiff, Nat.add_sub_cancel, eq_self_iff_true, L_0, L_1, L_2, L_3, L_4, L_5, L_6, L_7, L_8, L_9, L_10, L_16, L_20, L_21, L_24, L_31, L_64, L_100, L_320, L_400, L_1000, L_256, nI_add, pk_mul, pk_sub, nI_clamp, vp_in_nI, nI_ge, nI_le, nI_lt, nI_nlt, qI_ne, qI_eq, qI_m1, q_all, qI_nm, qI_nm2]
    rw [show (32 : Int32) = nI 32 from rfl, show (126 : Int32) = nI 126 from rfl, nI_ltI (by omega) (by omega), nI_leI (by omega) (by omega)]
    have no : ¬ (32 ≤ byN x i ∧ byN x i ≤ 126) → Q (nI 0) (nI T.length) f := fun h9 => h0 (fun h8 => h9 (by
      have := allN_t.mp h8.2 i hi
      simpa using this))
    refine ⟨fun h9 => no (by omega), fun h9 => ⟨fun h8 => hk () ?_, fun h8 => no (by omega)⟩⟩
    show (allN _ i && _) = true
    rw [hI]; simp; omega
theorem m_type {Q : Int32 → Int32 → Int32 → (Nat → Int32) → Prop} {c ft : Int32} {f : Nat → Int32} {T : List Nat} {x : Int64} {n : Nat} (hT : TX c f T) (h1 : 1 ≤ n) (hn : n ≤ 8)
    (h0 : ¬ (T.length + n ≤ 320 ∧ tyB x n = true) → Q (-1) 0 c f)
    (hy : T.length + n ≤ 320 → tyB x n = true → ∀ c' f', TX c' f' (T ++ tyL x n) → Q c' 0 c' f') : wpX7_type Q x (nI n) ft c f := by
  have hc := hT.1
  have hl := hT.2.1
  rw [hc] at hT h0 ⊢
  have e18 : zvX7_in (nI n).toInt64 1 8 = 1 := by
    have e : zvX7_in (nI n).toInt64 1 8 = if 1 ≤ nI n ∧ nI n ≤ 8 then 1 else 0 := mz_in (lo := 1) (hi := 8)
    rw [e, if_pos ⟨nI_le (a := 1) (by omega) (by omega), nI_le (b := 8) (by omega) (by omega)⟩]
  unfold wpX7_type
  rw [e18]
  simp (disch := omega) only [not_true_eq_false, not_false_eq_true, forall_const, true_implies, false_implies, implies_true, and_true, true_and, and_self, Nat.not_lt_zero, ne_eq, if_true, if_false, reduceIte, Nat.reduceAdd, Nat.reduceMul, Nat.reduceSub, Nat.reduceLT, Nat.reduceLeDiff, Nat.reduceEqDiff, Nat.add_sub_cancel, eq_self_iff_true, L_0, L_1, L_2, L_3, L_4, L_5, L_6, L_7, L_8, L_9, L_10, L_16, L_20, L_21, L_24, L_31, L_64, L_100, L_320, L_400, L_1000, L_256, nI_add, pk_mul, pk_sub, nI_clamp, vp_in_nI, nI_ge, nI_le, nI_lt, nI_nlt, qI_ne, qI_eq, qI_m1, q_all, qI_nm, qI_nm2]
  rw [nI_leI (by omega) (by omega)]
  refine ⟨fun hr => ?_, fun hr => h0 (fun h9 => hr h9.1)⟩
  refine pk_loop (σ := Unit) (fun m i _ => wpX7_type_34 Q m x (nI n) (nI i) (nI 0) (nI T.length) f) (fun i _ => allN (fun i => decide (32 ≤ byN x i) && decide (byN x i ≤ 126)) i = true) n 0 () (Nat.zero_le _) rfl ?_ ?_
  · intro m s hI
    have hI : tyB x n = true := hI
    have hy := hy hr hI
    have hok := allN_t.mp hI
    simp (disch := omega) only [wpX7_type_34, wpX7_type_34b, wpX7_type_71, not_true_eq_false, not_false_eq_true, forall_const, true_implies, false_implies, implies_true, and_true, true_and, and_self, Nat.not_lt_zero, ne_eq, if_true, if_false, reduceIte, Nat.reduceAdd, Nat.reduceMul, Nat.reduceSub, Nat.reduceLT, Nat.reduceLeDiff, Nat.reduceEqDiff, Nat.add_sub_cancel, eq_self_iff_true, L_0, L_1, L_2, L_3, L_4, L_5, L_6, L_7, L_8, L_9, L_10, L_16, L_20, L_21, L_24, L_31, L_64, L_100, L_320, L_400, L_1000, L_256, nI_add, pk_mul, pk_sub, nI_clamp, vp_in_nI, nI_ge, nI_le, nI_lt, nI_nlt, qI_ne, qI_eq, qI_m1, q_all, qI_nm, qI_nm2]
    refine ⟨n + 1, ?_⟩
    rw [show nI (n - 1) = nI n - nI 1 from (pk_sub h1).symm]
    refine pk_loopD (σ := Int32 × (Nat → Int32)) (fun m i s => wpX7_type_76 Q m x (nI i - nI 1) (nI 0) s.1 s.2) (fun i s => i ≤ n ∧ ∃ U, TX s.1 s.2 U ∧ U.length + i = T.length + n ∧ U ++ tyL x i = T ++ tyL x n) ?_ ?_ n (nI T.length, f) ⟨Nat.le_refl _, T, hT, rfl, rfl⟩
    · intro m s hI2
      obtain ⟨-, U, hU, -, hU2⟩ := hI2
      simp (disch := omega) only [wpX7_type_76, wpX7_type_76b, neg0, not_true_eq_false, not_false_eq_true, forall_const, true_implies, false_implies, implies_true, and_true, true_and, and_self, Nat.not_lt_zero, ne_eq, if_true, if_false, reduceIte, Nat.reduceAdd, Nat.reduceMul, Nat.reduceSub, Nat.reduceLT, Nat.reduceLeDiff, Nat.reduceEqDiff, Nat.add_sub_cancel, eq_self_iff_true, L_0, L_1, L_2, L_3, L_4, L_5, L_6, L_7, L_8, L_9, L_10, L_16, L_20, L_21, L_24, L_31, L_64, L_100, L_320, L_400, L_1000, L_256, nI_add, pk_mul, pk_sub, nI_clamp, vp_in_nI, nI_ge, nI_le, nI_lt, nI_nlt, qI_ne, qI_eq, qI_m1, q_all, qI_nm, qI_nm2]
      refine hy _ _ ?_
      rw [← hU2]; simpa [tyL] using hU
    · intro m i s hI2 hk
      obtain ⟨hi, U, hU, hUl, hU2⟩ := hI2
      have hb := hok i (by omega)
      simp only [Bool.and_eq_true, decide_eq_true_eq] at hb
      have ec := hU.1
      have e8 := by_s x i (by omega)
      simp only [L_8] at e8
      simp (disch := omega) only [wpX7_type_76, wpX7_type_76b, sub1, q_all, ec, not_true_eq_false, not_false_eq_true, forall_const, true_implies, false_implies, implies_true, and_true, true_and, and_self, Nat.not_lt_zero, ne_eq, if_true, if_false, reduceIte, Nat.reduceAdd, Nat.reduceMul, Nat.reduceSub, Nat.reduceLT, Nat.reduceLeDiff, Nat.reduceEqDiff, Nat.add_sub_cancel, eq_self_iff_true, L_0, L_1, L_2, L_3, L_4, L_5, L_6, L_7, L_8, L_9, L_10, L_16, L_20, L_21, L_24, L_31, L_64, L_100, L_320, L_400, L_1000, L_256, nI_add, pk_mul, pk_sub, nI_clamp, vp_in_nI, nI_ge, nI_le, nI_lt, nI_nlt, qI_ne, qI_eq, qI_m1, q_all, qI_nm, qI_nm2]
      rw [ec] at hU
      have e9 : ((x >>> ((nI (8 * i)).toInt64 &&& 63)) &&& 255).toInt32 = nI (byN x i) := by
        rw [pk_mul] at e8; rw [e8]; exact lN_i _
      rw [e9, m1s]
      refine hk (nI (U.length + 1), upd s.2 U.length (nI (byN x i))) ⟨by omega, U ++ [byN x i], TX_add hU (by omega) (by omega), by simp; omega, ?_⟩
      rw [← hU2]; simp [tyL]
  · intro m i s hi hI hk
    have hbl := byN_lt x i
    have e8 := by_s x i (by omega)
    simp only [L_8] at e8
    rw [pk_mul] at e8
    simp (disch := omega) only [wpX7_type_34, wpX7_type_34b, not_true_eq_false, not_false_eq_true, forall_const, true_implies, false_implies, implies_true, and_true, true_and, and_self, Nat.not_lt_zero, ne_eq, if_true, if_false, reduceIte, Nat.reduceAdd, Nat.reduceMul, Nat.reduceSub, Nat.reduceLT, Nat.reduceLeDiff, Nat.reduceEqDiff, Nat.add_sub_cancel, eq_self_iff_true, L_0, L_1, L_2, L_3, L_4, L_5, L_6, L_7, L_8, L_9, L_10, L_16, L_20, L_21, L_24, L_31, L_64, L_100, L_320, L_400, L_1000, L_256, nI_add, pk_mul, pk_sub, nI_clamp, vp_in_nI, nI_ge, nI_le, nI_lt, nI_nlt, qI_ne, qI_eq, qI_m1, q_all, qI_nm, qI_nm2]
    rw [e8]
    have ei : zvX7_in (lN (byN x i)) 32 126 = if 32 ≤ byN x i ∧ byN x i ≤ 126 then 1 else 0 := by
      have e := mz_in (x := nI (byN x i)) (lo := 32) (hi := 126)
      rw [nI_l (by omega)] at e
      rw [show (32 : Int64) = (32 : Int32).toInt64 from rfl, show (126 : Int64) = (126 : Int32).toInt64 from rfl, e]
      have a1 : ((32 : Int32) ≤ nI (byN x i)) ↔ 32 ≤ byN x i := nI_leI (a := 32) (by omega) (by omega)
      have a2 : (nI (byN x i) ≤ (126 : Int32)) ↔ byN x i ≤ 126 := nI_leI (b := 126) (by omega) (by omega)
      simp only [a1, a2]
    rw [ei]
    by_cases hok : 32 ≤ byN x i ∧ byN x i ≤ 126
    · rw [if_pos hok]
      refine ⟨fun h9 => absurd h9 (by decide), fun _ => hk () ?_⟩
      show (allN _ i && _) = true
      rw [hI]; simp; exact hok
    · rw [if_neg hok]
      refine ⟨fun _ => h0 (fun h8 => hok (by
        have := allN_t.mp h8.2 i hi
        simpa using this)), fun h9 => absurd rfl h9⟩
