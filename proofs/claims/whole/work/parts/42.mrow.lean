/-! The reference's product of signs. -/
def clf (L : List Nat) : Bool := L.all (fun g => kN g != 3 && kN g != 9)
def sgL (L : List Nat) (w : Nat) : Nat × Nat × Nat := L.foldl (fun s g => sgN g s) (0, 2 ^ w, 0)
theorem clf_f {L : List Nat} {i : Nat} (hi : i < L.length) (h : kN (L.getD i 0) = 3 ∨ kN (L.getD i 0) = 9) : clf L = false := by
  unfold clf
  rw [List.all_eq_false]
  refine ⟨_, g_mem (d := 0) hi, fun h9 => ?_⟩
  simp only [Bool.and_eq_true, bne_iff_ne] at h9
  rcases h with h | h
  · exact h9.1 h
  · exact h9.2 h
theorem clf_t {L : List Nat} : (∀ i, i < L.length → kN (L.getD i 0) ≠ 3 ∧ kN (L.getD i 0) ≠ 9) ↔ clf L = true := by
  unfold clf
  rw [List.all_eq_true]
  constructor
  · intro h g hg
    obtain ⟨i, hi, e⟩ := g_of (d := 0) hg
    have := h i hi
    rw [e] at this
    simpa using this
  · intro h i hi
    have := h _ (g_mem (d := 0) hi)
    simpa using this
theorem sgI_0 {n w : Nat} (hw : w < n) : sgI n (0, 2 ^ w, 0) := ⟨Nat.two_pow_pos n, Nat.pow_lt_pow_right (by omega) hw, by show 0 < 2; omega⟩
theorem sgL_I {n : Nat} : ∀ {L : List Nat} {s : Nat × Nat × Nat}, (∀ x ∈ L, gv n x = true) → sgI n s → sgI n (L.foldl (fun s g => sgN g s) s) := by
  intro L
  induction L with
  | nil => intro s _ h; exact h
  | cons g t ih => intro s hv h; exact ih (fun x hx => hv x (List.mem_cons_of_mem _ hx)) (sg_I (hv g List.mem_cons_self) h)
section
variable {z k a b c : Nat → Int32} {Ls : Nat → List Nat}
theorem m_row156 {Q : Int32 → Int32 → Prop} {R : Int32 → Int32 → Int32 → Int32 → Int32 → Int32 → Prop} {n g i p : Nat} {x1 ft y0 : Int32} {s : Nat × Nat × Nat} (hn : n < 5) (hg : gv n g = true) (n3 : kN g ≠ 3) (n9 : kN g ≠ 9) (hs : sgI n s) (hi : i < 320) (hM : MG k a b c i g) (hy : y0 = nI (bN g))
    (h : R x1 (nI (sgN g s).1) (nI (sgN g s).2.1) (nI (sgN g s).2.2) (nI (p + 1)) ft) : wpX7_row_156 Q R (nI n) z k a b x1 (nI s.1) (nI s.2.1) (nI s.2.2) (nI p) (nI i) (nI (aN g)) y0 ft := by
  have hb16 := p16 (n := n) (by omega)
  obtain ⟨f1, f2, f3, f4⟩ := hM
  obtain ⟨k1, k9, ha⟩ := gv_k hg
  obtain ⟨h1, h2, h3⟩ := hs
  have xa := bitN_lt s.1 (aN g); have za := bitN_lt s.2.1 (aN g); have xb := bitN_lt s.1 (bN g); have zb := bitN_lt s.2.1 (bN g)
  have hbl := bN_lt g
  have u1 := bx_lt xa za; have u2 := bx_lt xa xb; have u3 := bx_lt za zb
  subst hy
  unfold wpX7_row_156
  simp (disch := omega) only [q_all, q_bit, f1, not_true_eq_false, not_false_eq_true, forall_const, true_implies, false_implies, implies_true, and_true, true_and, and_self, Nat.not_lt_zero, ne_eq, if_true, if_false, reduceIte, Nat.reduceAdd, Nat.reduceMul, Nat.reduceSub, Nat.reduceLT, Nat.reduceLeDiff, Nat.reduceEqDiff, Nat.add_sub_cancel, eq_self_iff_true, L_0, L_1, L_2, L_3, L_4, L_5, L_6, L_7, L_8, L_9, L_10, L_16, L_20, L_21, L_24, L_31, L_64, L_100, L_320, L_400, L_1000, L_256, nI_add, pk_mul, pk_sub, nI_clamp, vp_in_nI, nI_ge, nI_le, nI_lt, nI_nlt, qI_ne, qI_eq, qI_m1, q_all, qI_nm, qI_nm2]
  rcases (show kN g = 1 ∨ kN g = 2 ∨ kN g = 4 ∨ kN g = 5 ∨ kN g = 6 ∨ kN g = 7 ∨ kN g = 8 by omega) with e | e | e | e | e | e | e
  · simp (disch := omega) only [e, q_xor, q_and, q_shlc, not_true_eq_false, not_false_eq_true, forall_const, true_implies, false_implies, implies_true, and_true, true_and, and_self, Nat.not_lt_zero, ne_eq, if_true, if_false, reduceIte, Nat.reduceAdd, Nat.reduceMul, Nat.reduceSub, Nat.reduceLT, Nat.reduceLeDiff, Nat.reduceEqDiff, Nat.add_sub_cancel, eq_self_iff_true, L_0, L_1, L_2, L_3, L_4, L_5, L_6, L_7, L_8, L_9, L_10, L_16, L_20, L_21, L_24, L_31, L_64, L_100, L_320, L_400, L_1000, L_256, nI_add, pk_mul, pk_sub, nI_clamp, vp_in_nI, nI_ge, nI_le, nI_lt, nI_nlt, qI_ne, qI_eq, qI_m1, q_all, qI_nm, qI_nm2]
    unfold sgN at h; rw [if_pos e] at h; exact h
  · simp (disch := omega) only [e, q_xor, q_and, q_shlc, not_true_eq_false, not_false_eq_true, forall_const, true_implies, false_implies, implies_true, and_true, true_and, and_self, Nat.not_lt_zero, ne_eq, if_true, if_false, reduceIte, Nat.reduceAdd, Nat.reduceMul, Nat.reduceSub, Nat.reduceLT, Nat.reduceLeDiff, Nat.reduceEqDiff, Nat.add_sub_cancel, eq_self_iff_true, L_0, L_1, L_2, L_3, L_4, L_5, L_6, L_7, L_8, L_9, L_10, L_16, L_20, L_21, L_24, L_31, L_64, L_100, L_320, L_400, L_1000, L_256, nI_add, pk_mul, pk_sub, nI_clamp, vp_in_nI, nI_ge, nI_le, nI_lt, nI_nlt, qI_ne, qI_eq, qI_m1, q_all, qI_nm, qI_nm2]
    unfold sgN at h; rw [if_neg (by omega), if_pos e] at h; exact h
  · simp (disch := omega) only [e, q_xor, q_and, q_shlc, not_true_eq_false, not_false_eq_true, forall_const, true_implies, false_implies, implies_true, and_true, true_and, and_self, Nat.not_lt_zero, ne_eq, if_true, if_false, reduceIte, Nat.reduceAdd, Nat.reduceMul, Nat.reduceSub, Nat.reduceLT, Nat.reduceLeDiff, Nat.reduceEqDiff, Nat.add_sub_cancel, eq_self_iff_true, L_0, L_1, L_2, L_3, L_4, L_5, L_6, L_7, L_8, L_9, L_10, L_16, L_20, L_21, L_24, L_31, L_64, L_100, L_320, L_400, L_1000, L_256, nI_add, pk_mul, pk_sub, nI_clamp, vp_in_nI, nI_ge, nI_le, nI_lt, nI_nlt, qI_ne, qI_eq, qI_m1, q_all, qI_nm, qI_nm2]
    unfold sgN at h; rw [if_neg (by omega), if_neg (by omega), if_pos e] at h; exact h
  · simp (disch := omega) only [e, q_xor, q_and, q_shlc, not_true_eq_false, not_false_eq_true, forall_const, true_implies, false_implies, implies_true, and_true, true_and, and_self, Nat.not_lt_zero, ne_eq, if_true, if_false, reduceIte, Nat.reduceAdd, Nat.reduceMul, Nat.reduceSub, Nat.reduceLT, Nat.reduceLeDiff, Nat.reduceEqDiff, Nat.add_sub_cancel, eq_self_iff_true, L_0, L_1, L_2, L_3, L_4, L_5, L_6, L_7, L_8, L_9, L_10, L_16, L_20, L_21, L_24, L_31, L_64, L_100, L_320, L_400, L_1000, L_256, nI_add, pk_mul, pk_sub, nI_clamp, vp_in_nI, nI_ge, nI_le, nI_lt, nI_nlt, qI_ne, qI_eq, qI_m1, q_all, qI_nm, qI_nm2]
    unfold sgN at h; rw [if_neg (by omega), if_neg (by omega), if_neg (by omega), if_pos e] at h; exact h
  · simp (disch := omega) only [e, q_xor, q_and, q_shlc, not_true_eq_false, not_false_eq_true, forall_const, true_implies, false_implies, implies_true, and_true, true_and, and_self, Nat.not_lt_zero, ne_eq, if_true, if_false, reduceIte, Nat.reduceAdd, Nat.reduceMul, Nat.reduceSub, Nat.reduceLT, Nat.reduceLeDiff, Nat.reduceEqDiff, Nat.add_sub_cancel, eq_self_iff_true, L_0, L_1, L_2, L_3, L_4, L_5, L_6, L_7, L_8, L_9, L_10, L_16, L_20, L_21, L_24, L_31, L_64, L_100, L_320, L_400, L_1000, L_256, nI_add, pk_mul, pk_sub, nI_clamp, vp_in_nI, nI_ge, nI_le, nI_lt, nI_nlt, qI_ne, qI_eq, qI_m1, q_all, qI_nm, qI_nm2]
    unfold sgN at h; rw [if_neg (by omega), if_neg (by omega), if_neg (by omega), if_neg (by omega), if_pos e] at h; exact h
  · simp (disch := omega) only [e, q_xor, q_and, q_shlc, not_true_eq_false, not_false_eq_true, forall_const, true_implies, false_implies, implies_true, and_true, true_and, and_self, Nat.not_lt_zero, ne_eq, if_true, if_false, reduceIte, Nat.reduceAdd, Nat.reduceMul, Nat.reduceSub, Nat.reduceLT, Nat.reduceLeDiff, Nat.reduceEqDiff, Nat.add_sub_cancel, eq_self_iff_true, L_0, L_1, L_2, L_3, L_4, L_5, L_6, L_7, L_8, L_9, L_10, L_16, L_20, L_21, L_24, L_31, L_64, L_100, L_320, L_400, L_1000, L_256, nI_add, pk_mul, pk_sub, nI_clamp, vp_in_nI, nI_ge, nI_le, nI_lt, nI_nlt, qI_ne, qI_eq, qI_m1, q_all, qI_nm, qI_nm2]
    unfold sgN at h; rw [if_neg (by omega), if_neg (by omega), if_neg (by omega), if_neg (by omega), if_neg (by omega), if_pos e] at h; exact h
  · simp (disch := omega) only [e, q_xor, q_and, q_shlc, not_true_eq_false, not_false_eq_true, forall_const, true_implies, false_implies, implies_true, and_true, true_and, and_self, Nat.not_lt_zero, ne_eq, if_true, if_false, reduceIte, Nat.reduceAdd, Nat.reduceMul, Nat.reduceSub, Nat.reduceLT, Nat.reduceLeDiff, Nat.reduceEqDiff, Nat.add_sub_cancel, eq_self_iff_true, L_0, L_1, L_2, L_3, L_4, L_5, L_6, L_7, L_8, L_9, L_10, L_16, L_20, L_21, L_24, L_31, L_64, L_100, L_320, L_400, L_1000, L_256, nI_add, pk_mul, pk_sub, nI_clamp, vp_in_nI, nI_ge, nI_le, nI_lt, nI_nlt, qI_ne, qI_eq, qI_m1, q_all, qI_nm, qI_nm2]
    unfold sgN at h; rw [if_neg (by omega), if_neg (by omega), if_neg (by omega), if_neg (by omega), if_neg (by omega), if_neg (by omega)] at h; exact h
theorem m_row446 {Q : Int32 → Int32 → Prop} {n : Nat} {ft : Int32} {s : Nat × Nat × Nat} (h1n : 1 ≤ n) (hn : n < 5) (hs : sgI n s) (h : Q (nI (256 * s.2.2 + suN s 4)) ft) : wpX7_row_446 Q (nI n) z k a b (nI s.1) (nI s.2.1) (nI s.2.2) ft := by
  have hb16 := p16 (n := n) (by omega)
  have hS := su_hi hs (4 - n)
  rw [show n + (4 - n) = 4 by omega] at hS
  have hSl := suN_lt s n
  have hp : 2 ^ (2 * n) ≤ 256 := Nat.le_trans (Nat.pow_le_pow_right (by omega) (show 2 * n ≤ 8 by omega)) (by decide)
  obtain ⟨s1, s2, s3⟩ := hs
  unfold wpX7_row_446
  simp (disch := omega) only [not_true_eq_false, not_false_eq_true, forall_const, true_implies, false_implies, implies_true, and_true, true_and, and_self, Nat.not_lt_zero, ne_eq, if_true, if_false, reduceIte, Nat.reduceAdd, Nat.reduceMul, Nat.reduceSub, Nat.reduceLT, Nat.reduceLeDiff, Nat.reduceEqDiff, Nat.add_sub_cancel, eq_self_iff_true, L_0, L_1, L_2, L_3, L_4, L_5, L_6, L_7, L_8, L_9, L_10, L_16, L_20, L_21, L_24, L_31, L_64, L_100, L_320, L_400, L_1000, L_256, nI_add, pk_mul, pk_sub, nI_clamp, vp_in_nI, nI_ge, nI_le, nI_lt, nI_nlt, qI_ne, qI_eq, qI_m1, q_all, qI_nm, qI_nm2]
  refine ⟨n + 1, ?_⟩
  rw [show nI (n - 1) = nI n - nI 1 from (pk_sub h1n).symm]
  refine pk_loopD (σ := Nat) (fun m w t => wpX7_row_457 Q (nI n) z k a b m (nI s.1) (nI s.2.1) (nI s.2.2) (nI t) (nI w - nI 1) ft) (fun w t => w ≤ n ∧ t * 2 ^ (2 * w) + suN s w = suN s n) ?_ ?_ n 0 ⟨Nat.le_refl _, by omega⟩
  · intro m t hI
    obtain ⟨-, hI⟩ := hI
    have hI : t * 1 + 0 = suN s n := hI
    simp (disch := omega) only [wpX7_row_457, wpX7_row_457b, neg0, not_true_eq_false, not_false_eq_true, forall_const, true_implies, false_implies, implies_true, and_true, true_and, and_self, Nat.not_lt_zero, ne_eq, if_true, if_false, reduceIte, Nat.reduceAdd, Nat.reduceMul, Nat.reduceSub, Nat.reduceLT, Nat.reduceLeDiff, Nat.reduceEqDiff, Nat.add_sub_cancel, eq_self_iff_true, L_0, L_1, L_2, L_3, L_4, L_5, L_6, L_7, L_8, L_9, L_10, L_16, L_20, L_21, L_24, L_31, L_64, L_100, L_320, L_400, L_1000, L_256, nI_add, pk_mul, pk_sub, nI_clamp, vp_in_nI, nI_ge, nI_le, nI_lt, nI_nlt, qI_ne, qI_eq, qI_m1, q_all, qI_nm, qI_nm2]
    rw [show t + 256 * s.2.2 = 256 * s.2.2 + suN s 4 by omega]
    exact h
  · intro m w t hI hk
    obtain ⟨hw, hI⟩ := hI
    have xa := bitN_lt s.1 w; have za := bitN_lt s.2.1 w
    have e2 : 2 ^ (2 * (w + 1)) = 4 * 2 ^ (2 * w) := by rw [Nat.mul_succ, Nat.pow_add]; omega
    have hpos : 1 ≤ 2 ^ (2 * w) := Nat.one_le_two_pow
    have htb : t ≤ suN s n := by
      have : t * 1 ≤ t * 2 ^ (2 * (w + 1)) := Nat.mul_le_mul_left _ Nat.one_le_two_pow
      omega
    have nx : ∀ d, d = dgN s w → w ≤ n ∧ (4 * t + d) * 2 ^ (2 * w) + suN s w = suN s n := fun d hd => by
      refine ⟨by omega, ?_⟩
      rw [← hI, e2, hd]
      show _ = t * (4 * 2 ^ (2 * w)) + (suN s w + dgN s w * 2 ^ (2 * w))
      rw [Nat.add_mul, Nat.mul_comm 4 t, Nat.mul_assoc]; omega
    simp (disch := omega) only [wpX7_row_457, wpX7_row_457b, q_all, q_bit, m1s, not_true_eq_false, not_false_eq_true, forall_const, true_implies, false_implies, implies_true, and_true, true_and, and_self, Nat.not_lt_zero, ne_eq, if_true, if_false, reduceIte, Nat.reduceAdd, Nat.reduceMul, Nat.reduceSub, Nat.reduceLT, Nat.reduceLeDiff, Nat.reduceEqDiff, Nat.add_sub_cancel, eq_self_iff_true, L_0, L_1, L_2, L_3, L_4, L_5, L_6, L_7, L_8, L_9, L_10, L_16, L_20, L_21, L_24, L_31, L_64, L_100, L_320, L_400, L_1000, L_256, nI_add, pk_mul, pk_sub, nI_clamp, vp_in_nI, nI_ge, nI_le, nI_lt, nI_nlt, qI_ne, qI_eq, qI_m1, q_all, qI_nm, qI_nm2]
    rw [q_biteq (by omega)]
    refine ⟨fun h9 => ?_, fun h9 => ?_⟩
    · refine hk _ (nx _ ?_)
      unfold dgN; rw [if_neg (by omega)]
    · refine hk _ (nx _ ?_)
      unfold dgN; rw [if_pos (by omega)]
theorem m_row21 {Q : Int32 → Int32 → Prop} {n s w : Nat} {ft : Int32} (h1n : 1 ≤ n) (hn : n < 5) (hM : MM z k a b c Ls) (hs : s < 3) (hw : w < n) (hv : ∀ x ∈ Ls s, gv n x = true)
    (h2 : clf (Ls s) = false → Q 0 2) (h0 : clf (Ls s) = true → Q (nI (256 * (sgL (Ls s) w).2.2 + suN (sgL (Ls s) w) 4)) 0) : wpX7_row_21 Q (nI n) z k a b (nI s) (nI w) 0 ft := by
  obtain ⟨es, hl, hgs⟩ := hM s (by omega)
  unfold wpX7_row_21
  refine pk_loop (σ := Int32) (fun m i f => wpX7_row_26 Q (nI n) z k a b m (nI s) (nI w) (nI i) f) (fun i f => (f = 0 ∧ ∀ j, j < i → kN ((Ls s).getD j 0) ≠ 3 ∧ kN ((Ls s).getD j 0) ≠ 9) ∨ (f = 2 ∧ clf (Ls s) = false)) (Ls s).length 0 0 (Nat.zero_le _) (Or.inl ⟨rfl, fun j hj => absurd hj (Nat.not_lt_zero _)⟩) ?_ ?_
  · intro m f hf
    rcases hf with ⟨rfl, hf⟩ | ⟨rfl, hf⟩
    · simp (disch := omega) only [wpX7_row_26, wpX7_row_26b, es, wpX7_row_84, q_shl1, not_true_eq_false, not_false_eq_true, forall_const, true_implies, false_implies, implies_true, and_true, true_and, and_self, Nat.not_lt_zero, ne_eq, if_true, if_false, reduceIte, Nat.reduceAdd, Nat.reduceMul, Nat.reduceSub, Nat.reduceLT, Nat.reduceLeDiff, Nat.reduceEqDiff, Nat.add_sub_cancel, eq_self_iff_true, L_0, L_1, L_2, L_3, L_4, L_5, L_6, L_7, L_8, L_9, L_10, L_16, L_20, L_21, L_24, L_31, L_64, L_100, L_320, L_400, L_1000, L_256, nI_add, pk_mul, pk_sub, nI_clamp, vp_in_nI, nI_ge, nI_le, nI_lt, nI_nlt, qI_ne, qI_eq, qI_m1, q_all, qI_nm, qI_nm2]
      have h0 := h0 (clf_t.mp hf)
      refine pk_loop (σ := Nat × Nat × Nat) (fun m i t => wpX7_row_106 Q (nI n) z k a b m (nI s) (nI t.1) (nI t.2.1) (nI t.2.2) (nI i) (nI 0)) (fun i t => t = sgL ((Ls s).take i) w ∧ sgI n t) (Ls s).length 0 (0, 2 ^ w, 0) (Nat.zero_le _) ⟨rfl, sgI_0 hw⟩ ?_ ?_
      · intro m t ht
        simp (disch := omega) only [wpX7_row_106, wpX7_row_106b, es, not_true_eq_false, not_false_eq_true, forall_const, true_implies, false_implies, implies_true, and_true, true_and, and_self, Nat.not_lt_zero, ne_eq, if_true, if_false, reduceIte, Nat.reduceAdd, Nat.reduceMul, Nat.reduceSub, Nat.reduceLT, Nat.reduceLeDiff, Nat.reduceEqDiff, Nat.add_sub_cancel, eq_self_iff_true, L_0, L_1, L_2, L_3, L_4, L_5, L_6, L_7, L_8, L_9, L_10, L_16, L_20, L_21, L_24, L_31, L_64, L_100, L_320, L_400, L_1000, L_256, nI_add, pk_mul, pk_sub, nI_clamp, vp_in_nI, nI_ge, nI_le, nI_lt, nI_nlt, qI_ne, qI_eq, qI_m1, q_all, qI_nm, qI_nm2]
        rw [List.take_length] at ht
        refine m_row446 h1n hn ht.2 ?_
        rw [ht.1]; exact h0
      · intro m i t hi ht hk
        have hg := hv _ (g_mem (d := 0) hi)
        have hMG := (hgs i hi).2
        obtain ⟨f1, f2, f3, f4⟩ := hMG
        have hn39 := hf i hi
        have hbl := bN_lt ((Ls s).getD i 0)
        have e1 := g_take (d := 0) hi
        have go : wpX7_row_156 Q (wpX7_row_106 Q (nI n) z k a b m) (nI n) z k a b (nI s) (nI t.1) (nI t.2.1) (nI t.2.2) (nI i) (nI (64 * s + i)) (nI (aN ((Ls s).getD i 0))) (nI (bN ((Ls s).getD i 0))) (nI 0) := by
          refine m_row156 hn hg hn39.1 hn39.2 ht.2 (by omega) (hgs i hi).2 rfl ?_
          refine hk (sgN ((Ls s).getD i 0) t) ⟨?_, sg_I hg ht.2⟩
          rw [e1, ht.1]; unfold sgL; rw [List.foldl_append]; rfl
        simp (disch := omega) only [wpX7_row_106, wpX7_row_106b, es, q_all, f2, f3, not_true_eq_false, not_false_eq_true, forall_const, true_implies, false_implies, implies_true, and_true, true_and, and_self, Nat.not_lt_zero, ne_eq, if_true, if_false, reduceIte, Nat.reduceAdd, Nat.reduceMul, Nat.reduceSub, Nat.reduceLT, Nat.reduceLeDiff, Nat.reduceEqDiff, Nat.add_sub_cancel, eq_self_iff_true, L_0, L_1, L_2, L_3, L_4, L_5, L_6, L_7, L_8, L_9, L_10, L_16, L_20, L_21, L_24, L_31, L_64, L_100, L_320, L_400, L_1000, L_256, nI_add, pk_mul, pk_sub, nI_clamp, vp_in_nI, nI_ge, nI_le, nI_lt, nI_nlt, qI_ne, qI_eq, qI_m1, q_all, qI_nm, qI_nm2]
        by_cases h6 : 6 ≤ kN ((Ls s).getD i 0)
        · rw [m2_p h6]
          exact ⟨fun _ => go, fun h9 => absurd (nI_pos' (by omega)) h9⟩
        · have em : m2 ((Ls s).getD i 0) = -1 := by unfold m2; rw [if_neg h6]
          rw [em]
          refine ⟨fun h9 => absurd h9 (by decide), fun _ => ?_⟩
          have eb : bN ((Ls s).getD i 0) = 0 := by
            have e := gv_e hg; rw [if_pos (by omega)] at e
            have := aN_lt ((Ls s).getD i 0); have := kN_lt ((Ls s).getD i 0)
            unfold bN; omega
          rw [eb] at go
          exact go
    · simp (disch := omega) only [wpX7_row_26, wpX7_row_26b, wpX7_row_84, not_true_eq_false, not_false_eq_true, forall_const, true_implies, false_implies, implies_true, and_true, true_and, and_self, Nat.not_lt_zero, ne_eq, if_true, if_false, reduceIte, Nat.reduceAdd, Nat.reduceMul, Nat.reduceSub, Nat.reduceLT, Nat.reduceLeDiff, Nat.reduceEqDiff, Nat.add_sub_cancel, eq_self_iff_true, L_0, L_1, L_2, L_3, L_4, L_5, L_6, L_7, L_8, L_9, L_10, L_16, L_20, L_21, L_24, L_31, L_64, L_100, L_320, L_400, L_1000, L_256, nI_add, pk_mul, pk_sub, nI_clamp, vp_in_nI, nI_ge, nI_le, nI_lt, nI_nlt, qI_ne, qI_eq, qI_m1, q_all, qI_nm, qI_nm2]
      exact h2 hf
  · intro m i f hi hf hk
    have hMG := (hgs i hi).2
    have k1 := kN_lt ((Ls s).getD i 0)
    rcases hf with ⟨rfl, hf⟩ | ⟨rfl, hf⟩
    · simp (disch := omega) only [wpX7_row_26, wpX7_row_26b, es, q_all, hMG.1, not_true_eq_false, not_false_eq_true, forall_const, true_implies, false_implies, implies_true, and_true, true_and, and_self, Nat.not_lt_zero, ne_eq, if_true, if_false, reduceIte, Nat.reduceAdd, Nat.reduceMul, Nat.reduceSub, Nat.reduceLT, Nat.reduceLeDiff, Nat.reduceEqDiff, Nat.add_sub_cancel, eq_self_iff_true, L_0, L_1, L_2, L_3, L_4, L_5, L_6, L_7, L_8, L_9, L_10, L_16, L_20, L_21, L_24, L_31, L_64, L_100, L_320, L_400, L_1000, L_256, nI_add, pk_mul, pk_sub, nI_clamp, vp_in_nI, nI_ge, nI_le, nI_lt, nI_nlt, qI_ne, qI_eq, qI_m1, q_all, qI_nm, qI_nm2]
      rw [nI_eq (by omega) (by omega), nI_eq (by omega) (by omega)]
      refine ⟨fun h3 => hk 2 (Or.inr ⟨rfl, clf_f hi (Or.inl h3)⟩), fun h3 => ⟨fun h9 => hk 2 (Or.inr ⟨rfl, clf_f hi (Or.inr h9)⟩), fun h9 => hk 0 (Or.inl ⟨rfl, fun j hj => ?_⟩)⟩⟩
      by_cases e : j = i
      · rw [e]; exact ⟨h3, h9⟩
      · exact hf j (by omega)
    · simp (disch := omega) only [wpX7_row_26, wpX7_row_26b, wpX7_row_84, not_true_eq_false, not_false_eq_true, forall_const, true_implies, false_implies, implies_true, and_true, true_and, and_self, Nat.not_lt_zero, ne_eq, if_true, if_false, reduceIte, Nat.reduceAdd, Nat.reduceMul, Nat.reduceSub, Nat.reduceLT, Nat.reduceLeDiff, Nat.reduceEqDiff, Nat.add_sub_cancel, eq_self_iff_true, L_0, L_1, L_2, L_3, L_4, L_5, L_6, L_7, L_8, L_9, L_10, L_16, L_20, L_21, L_24, L_31, L_64, L_100, L_320, L_400, L_1000, L_256, nI_add, pk_mul, pk_sub, nI_clamp, vp_in_nI, nI_ge, nI_le, nI_lt, nI_nlt, qI_ne, qI_eq, qI_m1, q_all, qI_nm, qI_nm2]
      exact h2 hf
theorem m_row21f {Q : Int32 → Int32 → Prop} {wi x1 x2 f9 : Int32} (h : Q 0 1) : wpX7_row_21 Q wi z k a b x1 x2 1 f9 := by
  unfold wpX7_row_21
  refine ⟨1, ?_⟩
  simp (disch := omega) only [wpX7_row_26, wpX7_row_26b, wpX7_row_84, not_true_eq_false, not_false_eq_true, forall_const, true_implies, false_implies, implies_true, and_true, true_and, and_self, Nat.not_lt_zero, ne_eq, if_true, if_false, reduceIte, Nat.reduceAdd, Nat.reduceMul, Nat.reduceSub, Nat.reduceLT, Nat.reduceLeDiff, Nat.reduceEqDiff, Nat.add_sub_cancel, eq_self_iff_true, L_0, L_1, L_2, L_3, L_4, L_5, L_6, L_7, L_8, L_9, L_10, L_16, L_20, L_21, L_24, L_31, L_64, L_100, L_320, L_400, L_1000, L_256, nI_add, pk_mul, pk_sub, nI_clamp, vp_in_nI, nI_ge, nI_le, nI_lt, nI_nlt, qI_ne, qI_eq, qI_m1, q_all, qI_nm, qI_nm2]
  exact h
end
