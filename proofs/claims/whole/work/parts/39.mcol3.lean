/-! The reference: equal, differ, state, weights, measuring. -/
def firK (p : Nat → Bool) : Nat → Nat → Option Nat
  | 0, _ => none
  | m + 1, k => if p k then some k else firK p m (k + 1)
section
variable {z k a b c : Nat → Int32} {Ls : Nat → List Nat}
theorem m_equal {Q : Int32 → Int32 → Int32 → Int32 → Int32 → (Nat → Int64) → (Nat → Int64) → Prop} {n s t : Nat} {ft ph fs os : Int32} {A B : Nat → Int64} (hn : n < 5) (hM : MM z k a b c Ls) (hs : s < 3) (ht : t < 3) (hv : ∀ x ∈ Ls s, gv n x = true) (hw : ∀ x ∈ Ls t, gv n x = true)
    (h : ∀ fs os A B, match firK (fun r => trA n r (Ls s) (Ls t)) 8 0 with | none => Q 0 0 ph fs os A B | some r => Q (if r = 0 then 1 else 2) 0 (nI r) fs os A B) : wpX7_equal Q (nI s) (nI t) (nI n) z k a b c ft ph fs os A B := by
  unfold wpX7_equal
  rw [slot_t hs, slot_t ht]
  simp (disch := omega) only [wpX7_equal_20, not_true_eq_false, not_false_eq_true, forall_const, true_implies, false_implies, implies_true, and_true, true_and, and_self, Nat.not_lt_zero, ne_eq, if_true, if_false, reduceIte, Nat.reduceAdd, Nat.reduceMul, Nat.reduceSub, Nat.reduceLT, Nat.reduceLeDiff, Nat.reduceEqDiff, Nat.add_sub_cancel, eq_self_iff_true, L_0, L_1, L_2, L_3, L_4, L_5, L_6, L_7, L_8, L_9, L_10, L_16, L_20, L_21, L_24, L_31, L_64, L_100, L_320, L_400, L_1000, L_256, nI_add, pk_mul, pk_sub, nI_clamp, vp_in_nI, nI_ge, nI_le, nI_lt, nI_nlt, qI_ne, qI_eq, qI_m1, q_all, qI_nm, qI_nm2]
  refine pk_loop (σ := Int32 × Int32 × (Nat → Int64) × (Nat → Int64)) (fun m r v => wpX7_equal_25 Q (nI n) z k a b c m (nI s) (nI t) (nI r) (nI 0) ph v.1 v.2.1 v.2.2.1 v.2.2.2) (fun r v => firK (fun r => trA n r (Ls s) (Ls t)) (8 - r) r = firK (fun r => trA n r (Ls s) (Ls t)) 8 0) 8 0 (fs, os, A, B) (by omega) rfl ?_ ?_
  · intro m v hI
    simp (disch := omega) only [wpX7_equal_25, wpX7_equal_25b, not_true_eq_false, not_false_eq_true, forall_const, true_implies, false_implies, implies_true, and_true, true_and, and_self, Nat.not_lt_zero, ne_eq, if_true, if_false, reduceIte, Nat.reduceAdd, Nat.reduceMul, Nat.reduceSub, Nat.reduceLT, Nat.reduceLeDiff, Nat.reduceEqDiff, Nat.add_sub_cancel, eq_self_iff_true, L_0, L_1, L_2, L_3, L_4, L_5, L_6, L_7, L_8, L_9, L_10, L_16, L_20, L_21, L_24, L_31, L_64, L_100, L_320, L_400, L_1000, L_256, nI_add, pk_mul, pk_sub, nI_clamp, vp_in_nI, nI_ge, nI_le, nI_lt, nI_nlt, qI_ne, qI_eq, qI_m1, q_all, qI_nm, qI_nm2]
    have h := h v.1 v.2.1 v.2.2.1 v.2.2.2
    rw [← hI] at h; exact h
  · intro m r v hr hI hk
    rw [show 8 - r = (8 - (r + 1)) + 1 by omega] at hI
    unfold firK at hI
    simp (disch := omega) only [wpX7_equal_25, wpX7_equal_25b, not_true_eq_false, not_false_eq_true, forall_const, true_implies, false_implies, implies_true, and_true, true_and, and_self, Nat.not_lt_zero, ne_eq, if_true, if_false, reduceIte, Nat.reduceAdd, Nat.reduceMul, Nat.reduceSub, Nat.reduceLT, Nat.reduceLeDiff, Nat.reduceEqDiff, Nat.add_sub_cancel, eq_self_iff_true, L_0, L_1, L_2, L_3, L_4, L_5, L_6, L_7, L_8, L_9, L_10, L_16, L_20, L_21, L_24, L_31, L_64, L_100, L_320, L_400, L_1000, L_256, nI_add, pk_mul, pk_sub, nI_clamp, vp_in_nI, nI_ge, nI_le, nI_lt, nI_nlt, qI_ne, qI_eq, qI_m1, q_all, qI_nm, qI_nm2]
    refine m_isT hn hr hM (by omega) (by omega) hv hw (fun fs os A B => ?_)
    cases e : trA n r (Ls s) (Ls t) with
    | false =>
      simp only [e] at hI
      exact ⟨fun _ => hk (fs, os, A, B) hI, fun h9 => absurd rfl h9⟩
    | true =>
      simp only [e] at hI
      refine ⟨fun h9 => absurd h9 (by decide), fun _ => ?_⟩
      have h := h fs os A B
      rw [← show firK (fun r => trA n r (Ls s) (Ls t)) 8 0 = firK (fun r => trA n r (Ls s) (Ls t)) 8 0 from rfl] at h
      unfold wpX7_equal_48
      have e8 : firK (fun r => trA n r (Ls s) (Ls t)) 8 0 = some r := hI.symm
      rw [e8] at h
      by_cases e0 : r = 0
      · subst e0; exact ⟨fun _ => h, fun h9 => absurd rfl h9⟩
      · have h : Q (if r = 0 then 1 else 2) 0 (nI r) fs os A B := h
        rw [if_neg e0] at h
        exact ⟨fun h9 => absurd h9 (nI_ne0 (by omega) (by omega)), fun _ => h⟩
/-- the first entry that is another one -/
def dfF (n : Nat) (L M : List Nat) : Nat → Nat → Option Nat
  | 0, _ => none
  | m + 1, i => match fdV n (CV n L i (mxH L M - hN L)) (CV n M i (mxH L M - hN M)) with | some r => some (16 * i + r) | none => dfF n L M m (i + 1)
def dfN (n : Nat) (L M : List Nat) : Option Nat := dfF n L M (2 ^ n) 0
theorem ag_row {n i : Nat} {V W V' W' : Nat → Int64} (h1 : AG n V V') (h2 : AG n W W') (hi : i < 2 ^ n) : rowEq V W i = rowEq V' W' i :=
  allN_c (fun p hp => by rw [h1 _ (by omega), h2 _ (by omega)])
theorem ag_fdF {n : Nat} {V W V' W' : Nat → Int64} (h1 : AG n V V') (h2 : AG n W W') : ∀ m i, i + m ≤ 2 ^ n → fdF V W m i = fdF V' W' m i := by
  intro m
  induction m with
  | zero => intro i _; rfl
  | succ m ih => intro i hi; unfold fdF; rw [ag_row h1 h2 (by omega), ih (i + 1) (by omega)]
theorem ag_fd {n : Nat} {V W V' W' : Nat → Int64} (h1 : AG n V V') (h2 : AG n W W') : fdV n V W = fdV n V' W' := ag_fdF h1 h2 _ _ (by omega)
theorem m_differ {Q : Int32 → Int32 → Int32 → Int32 → (Nat → Int64) → (Nat → Int64) → Prop} {n s t : Nat} {ft fs os : Int32} {A B : Nat → Int64} (hn : n < 5) (hM : MM z k a b c Ls) (hs : s < 3) (ht : t < 3) (hv : ∀ x ∈ Ls s, gv n x = true) (hw : ∀ x ∈ Ls t, gv n x = true)
    (h : ∀ fs os A B, Q (opI (dfN n (Ls s) (Ls t))) 0 fs os A B) : wpX7_differ Q (nI s) (nI t) (nI n) z k a b c ft fs os A B := by
  have hb := p16 (n := n) (by omega)
  unfold wpX7_differ
  rw [slot_t hs, slot_t ht]
  simp (disch := omega) only [wpX7_differ_20, not_true_eq_false, not_false_eq_true, forall_const, true_implies, false_implies, implies_true, and_true, true_and, and_self, Nat.not_lt_zero, ne_eq, if_true, if_false, reduceIte, Nat.reduceAdd, Nat.reduceMul, Nat.reduceSub, Nat.reduceLT, Nat.reduceLeDiff, Nat.reduceEqDiff, Nat.add_sub_cancel, eq_self_iff_true, L_0, L_1, L_2, L_3, L_4, L_5, L_6, L_7, L_8, L_9, L_10, L_16, L_20, L_21, L_24, L_31, L_64, L_100, L_320, L_400, L_1000, L_256, nI_add, pk_mul, pk_sub, nI_clamp, vp_in_nI, nI_ge, nI_le, nI_lt, nI_nlt, qI_ne, qI_eq, qI_m1, q_all, qI_nm, qI_nm2]
  refine pk_loop (σ := Int32 × Int32 × (Nat → Int64) × (Nat → Int64)) (fun m i v => wpX7_differ_34 Q (nI n) z k a b c m (nI s) (nI t) (nI i) (nI 0) v.1 v.2.1 v.2.2.1 v.2.2.2) (fun i v => dfF n (Ls s) (Ls t) (2 ^ n - i) i = dfN n (Ls s) (Ls t)) (2 ^ n) 0 (fs, os, A, B) (Nat.zero_le _) rfl ?_ ?_
  · intro m v hI
    simp (disch := omega) only [wpX7_differ_34, wpX7_differ_34b, z_basis hn, not_true_eq_false, not_false_eq_true, forall_const, true_implies, false_implies, implies_true, and_true, true_and, and_self, Nat.not_lt_zero, ne_eq, if_true, if_false, reduceIte, Nat.reduceAdd, Nat.reduceMul, Nat.reduceSub, Nat.reduceLT, Nat.reduceLeDiff, Nat.reduceEqDiff, Nat.add_sub_cancel, eq_self_iff_true, L_0, L_1, L_2, L_3, L_4, L_5, L_6, L_7, L_8, L_9, L_10, L_16, L_20, L_21, L_24, L_31, L_64, L_100, L_320, L_400, L_1000, L_256, nI_add, pk_mul, pk_sub, nI_clamp, vp_in_nI, nI_ge, nI_le, nI_lt, nI_nlt, qI_ne, qI_eq, qI_m1, q_all, qI_nm, qI_nm2]
    rw [Nat.sub_self] at hI
    have h := h v.1 v.2.1 v.2.2.1 v.2.2.2
    rw [← hI] at h; exact h
  · intro m i v hi hI hk
    rw [show 2 ^ n - i = (2 ^ n - (i + 1)) + 1 by omega] at hI
    unfold dfF at hI
    simp (disch := omega) only [wpX7_differ_34, wpX7_differ_34b, z_basis hn, not_true_eq_false, not_false_eq_true, forall_const, true_implies, false_implies, implies_true, and_true, true_and, and_self, Nat.not_lt_zero, ne_eq, if_true, if_false, reduceIte, Nat.reduceAdd, Nat.reduceMul, Nat.reduceSub, Nat.reduceLT, Nat.reduceLeDiff, Nat.reduceEqDiff, Nat.add_sub_cancel, eq_self_iff_true, L_0, L_1, L_2, L_3, L_4, L_5, L_6, L_7, L_8, L_9, L_10, L_16, L_20, L_21, L_24, L_31, L_64, L_100, L_320, L_400, L_1000, L_256, nI_add, pk_mul, pk_sub, nI_clamp, vp_in_nI, nI_ge, nI_le, nI_lt, nI_nlt, qI_ne, qI_eq, qI_m1, q_all, qI_nm, qI_nm2]
    refine m_both hn hM (by omega) (by omega) (by omega) hv hw (fun fs os A B hA hB => ?_)
    rw [← ag_fd hA hB] at hI
    have h := h fs os A B
    refine pk_loop (σ := Unit) (fun m9 r _ => wpX7_differ_52 Q (wpX7_differ_34 Q (nI n) z k a b c m) (nI n) z k a b c m9 (nI s) (nI t) (nI i) (nI r) (nI 0) fs os A B) (fun r _ => fdF A B (2 ^ n - r) r = fdV n A B) (2 ^ n) 0 () (Nat.zero_le _) rfl ?_ ?_
    · intro m9 w hw9
      simp (disch := omega) only [wpX7_differ_52, wpX7_differ_52b, z_basis hn, not_true_eq_false, not_false_eq_true, forall_const, true_implies, false_implies, implies_true, and_true, true_and, and_self, Nat.not_lt_zero, ne_eq, if_true, if_false, reduceIte, Nat.reduceAdd, Nat.reduceMul, Nat.reduceSub, Nat.reduceLT, Nat.reduceLeDiff, Nat.reduceEqDiff, Nat.add_sub_cancel, eq_self_iff_true, L_0, L_1, L_2, L_3, L_4, L_5, L_6, L_7, L_8, L_9, L_10, L_16, L_20, L_21, L_24, L_31, L_64, L_100, L_320, L_400, L_1000, L_256, nI_add, pk_mul, pk_sub, nI_clamp, vp_in_nI, nI_ge, nI_le, nI_lt, nI_nlt, qI_ne, qI_eq, qI_m1, q_all, qI_nm, qI_nm2]
      rw [Nat.sub_self] at hw9
      rw [← hw9] at hI
      exact hk (fs, os, A, B) hI
    · intro m9 r w hr hw9 hk9
      rw [show 2 ^ n - r = (2 ^ n - (r + 1)) + 1 by omega] at hw9
      unfold fdF at hw9
      simp (disch := omega) only [wpX7_differ_52, wpX7_differ_52b, z_basis hn, not_true_eq_false, not_false_eq_true, forall_const, true_implies, false_implies, implies_true, and_true, true_and, and_self, Nat.not_lt_zero, ne_eq, if_true, if_false, reduceIte, Nat.reduceAdd, Nat.reduceMul, Nat.reduceSub, Nat.reduceLT, Nat.reduceLeDiff, Nat.reduceEqDiff, Nat.add_sub_cancel, eq_self_iff_true, L_0, L_1, L_2, L_3, L_4, L_5, L_6, L_7, L_8, L_9, L_10, L_16, L_20, L_21, L_24, L_31, L_64, L_100, L_320, L_400, L_1000, L_256, nI_add, pk_mul, pk_sub, nI_clamp, vp_in_nI, nI_ge, nI_le, nI_lt, nI_nlt, qI_ne, qI_eq, qI_m1, q_all, qI_nm, qI_nm2]
      refine pk_loop (σ := Unit) (fun m8 p _ => wpX7_differ_64 Q (wpX7_differ_34 Q (nI n) z k a b c m) (wpX7_differ_52 Q (wpX7_differ_34 Q (nI n) z k a b c m) (nI n) z k a b c m9) (nI n) z k a b c m8 (nI s) (nI t) (nI i) (nI r) (nI p) (nI 0) fs os A B) (fun p _ => ∀ q, q < p → A (4 * r + q) = B (4 * r + q)) 4 0 () (by omega) (fun q hq => absurd hq (Nat.not_lt_zero _)) ?_ ?_
      · intro m8 x hx
        simp (disch := omega) only [wpX7_differ_64, wpX7_differ_64b, not_true_eq_false, not_false_eq_true, forall_const, true_implies, false_implies, implies_true, and_true, true_and, and_self, Nat.not_lt_zero, ne_eq, if_true, if_false, reduceIte, Nat.reduceAdd, Nat.reduceMul, Nat.reduceSub, Nat.reduceLT, Nat.reduceLeDiff, Nat.reduceEqDiff, Nat.add_sub_cancel, eq_self_iff_true, L_0, L_1, L_2, L_3, L_4, L_5, L_6, L_7, L_8, L_9, L_10, L_16, L_20, L_21, L_24, L_31, L_64, L_100, L_320, L_400, L_1000, L_256, nI_add, pk_mul, pk_sub, nI_clamp, vp_in_nI, nI_ge, nI_le, nI_lt, nI_nlt, qI_ne, qI_eq, qI_m1, q_all, qI_nm, qI_nm2]
        have e : rowEq A B r = true := allN_t.mpr (fun q hq => by simpa using hx q hq)
        rw [e, if_pos rfl] at hw9
        exact hk9 () hw9
      · intro m8 p x hp hx hk8
        simp (disch := omega) only [wpX7_differ_64, wpX7_differ_64b, not_true_eq_false, not_false_eq_true, forall_const, true_implies, false_implies, implies_true, and_true, true_and, and_self, Nat.not_lt_zero, ne_eq, if_true, if_false, reduceIte, Nat.reduceAdd, Nat.reduceMul, Nat.reduceSub, Nat.reduceLT, Nat.reduceLeDiff, Nat.reduceEqDiff, Nat.add_sub_cancel, eq_self_iff_true, L_0, L_1, L_2, L_3, L_4, L_5, L_6, L_7, L_8, L_9, L_10, L_16, L_20, L_21, L_24, L_31, L_64, L_100, L_320, L_400, L_1000, L_256, nI_add, pk_mul, pk_sub, nI_clamp, vp_in_nI, nI_ge, nI_le, nI_lt, nI_nlt, qI_ne, qI_eq, qI_m1, q_all, qI_nm, qI_nm2]
        rw [← L_0, lg_cmp_eq]
        refine ⟨fun h9 => hk8 () (fun q hq => ?_), fun h9 => ?_⟩
        · by_cases e : q = p
          · rw [e]; exact h9
          · exact hx q (by omega)
        · have e : rowEq A B r = false := allN_f hp (by simpa using h9)
          rw [e] at hw9
          have e2 : fdV n A B = some r := hw9.symm
          rw [e2] at hI
          rw [← hI] at h
          exact h
theorem sh_div {x : Int64} (h : pb x = false) : x / 2 = shR x := by
  apply Int64.toInt_inj.mp
  have e1 : (x / 2).toInt = x.toInt.tdiv 2 := Int64.toInt_div_of_ne_right x 2 (by decide)
  have e2 : (shR x).toInt = x.toInt >>> 1 := by
    show (x.toBitVec.sshiftRight (((nI 1).toInt64 &&& 63).toBitVec.smod 64).toNat).toInt = _
    rw [show (((nI 1).toInt64 &&& 63).toBitVec.smod 64).toNat = 1 from by decide, BitVec.toInt_sshiftRight]
    rfl
  rw [e1, e2, Int.shiftRight_eq_div_pow]
  have e3 : x.toInt % 2 = 0 := by
    rw [pb_nat] at h
    have h1 : x.toBitVec.toNat % 2 = 0 := by simpa using h
    show x.toBitVec.toInt % 2 = 0
    rw [BitVec.toInt_eq_toNat_cond]
    split <;> omega
  obtain ⟨y, hy⟩ : ∃ y, x.toInt = 2 * y := ⟨x.toInt / 2, by omega⟩
  rw [hy, Int.mul_tdiv_cancel_left _ (by decide)]
  show y = 2 * y / 2
  omega
def dvM (i : Nat) (V : Nat → Int64) : Nat → Int64 := fun k => if k / 4 = i then grV i V k / 2 else V k
theorem ok_ev {V : Nat → Int64} {i k : Nat} (h : okD V i = true) (hk : k / 4 = i) : pb (grV i V k) = false := by
  unfold okD at h
  simp only [Bool.and_eq_true, beq_iff_eq] at h
  unfold grV
  rw [if_pos hk]
  split
  · rw [pb_sub, h.2]; cases pb (V (4 * i + 3)) <;> rfl
  · split
    · rw [pb_add, h.1]; cases pb (V (4 * i + 2)) <;> rfl
    · split
      · rw [pb_add, h.2]; cases pb (V (4 * i + 3)) <;> rfl
      · rw [pb_sub, h.1]; cases pb (V (4 * i + 2)) <;> rfl
theorem fo_dv {V : Nat → Int64} : ∀ {m : Nat}, (∀ i, i < m → okD V i = true) → foN dvM m V = foN dvV m V ∧ ∀ k, m ≤ k / 4 → foN dvV m V k = V k := by
  intro m
  induction m with
  | zero => intro _; exact ⟨rfl, fun k _ => rfl⟩
  | succ m ih =>
    intro h
    obtain ⟨h1, h2⟩ := ih (fun i hi => h i (by omega))
    refine ⟨?_, fun k hk => ?_⟩
    · show dvM m (foN dvM m V) = dvV m (foN dvV m V)
      rw [h1]
      have e4 : okD (foN dvV m V) m = true := by
        rw [← h m (by omega)]
        unfold okD
        rw [h2 (4 * m) (by omega), h2 (4 * m + 2) (by omega), h2 (4 * m + 1) (by omega), h2 (4 * m + 3) (by omega)]
      generalize foN dvV m V = W at *
      funext q
      unfold dvM dvV
      by_cases e : q / 4 = m
      · rw [if_pos e, if_pos e]
        exact sh_div (ok_ev e4 e)
      · rw [if_neg e, if_neg e]
    · show dvV m (foN dvV m V) k = V k
      unfold dvV
      rw [if_neg (by omega)]
      exact h2 k (by omega)
theorem m_lower {Q : Int32 → (Nat → Int64) → Prop} {n e : Nat} {f : Nat → Int64} (hn : n < 5) (he : e < 1000) (h : Q (nI (lowV n e f).1) (lowV n e f).2) : wpX7_lower Q (nI n) (nI e) f := by
  have hb := p16 (n := n) (by omega)
  have key : ∀ (x : Int32) (e : Nat) (f : Nat → Int64), e < 1000 → ((x = 0 ∧ Q (nI e) f) ∨ (x = 1 ∧ 0 < e ∧ Q (nI (lowV n e f).1) (lowV n e f).2)) → ∃ m, wpX7_lower_13 Q (nI n) m x (nI e) f := by
    intro x e f he hI
    refine loop_m (σ := Int32 × Nat × (Nat → Int64)) (fun m v => wpX7_lower_13 Q (nI n) m v.1 (nI v.2.1) v.2.2) (fun v => v.2.1 < 1000 ∧ ((v.1 = 0 ∧ Q (nI v.2.1) v.2.2) ∨ (v.1 = 1 ∧ 0 < v.2.1 ∧ Q (nI (lowV n v.2.1 v.2.2).1) (lowV n v.2.1 v.2.2).2))) (fun v => 2 * v.2.1 + if v.1 = 1 then 1 else 0) ?_ (x, e, f) ⟨he, hI⟩
    intro m v hv hk
    obtain ⟨x, e, f⟩ := v
    obtain ⟨he, hv⟩ := hv
    simp only at he hv hk
    simp (disch := omega) only [wpX7_lower_13, wpX7_lower_13b, not_true_eq_false, not_false_eq_true, forall_const, true_implies, false_implies, implies_true, and_true, true_and, and_self, Nat.not_lt_zero, ne_eq, if_true, if_false, reduceIte, Nat.reduceAdd, Nat.reduceMul, Nat.reduceSub, Nat.reduceLT, Nat.reduceLeDiff, Nat.reduceEqDiff, Nat.add_sub_cancel, eq_self_iff_true, L_0, L_1, L_2, L_3, L_4, L_5, L_6, L_7, L_8, L_9, L_10, L_16, L_20, L_21, L_24, L_31, L_64, L_100, L_320, L_400, L_1000, L_256, nI_add, pk_mul, pk_sub, nI_clamp, vp_in_nI, nI_ge, nI_le, nI_lt, nI_nlt, qI_ne, qI_eq, qI_m1, q_all, qI_nm, qI_nm2]
    rcases hv with ⟨rfl, hQ⟩ | ⟨rfl, hpos, hQ⟩
    · exact ⟨fun _ => hQ, fun h9 => absurd rfl h9⟩
    · refine ⟨fun h9 => absurd h9 (by decide), fun _ => ?_⟩
      obtain ⟨e, rfl⟩ : ∃ e', e = e' + 1 := ⟨e - 1, by omega⟩
      unfold lowV at hQ
      refine pk_loop (σ := Int32) (fun m9 i y => wpX7_lower_19 Q (wpX7_lower_13 Q (nI n) m) (nI n) m9 y (nI i) (nI (e + 1)) f) (fun i y => (y = 1 ∧ allN (okD f) i = true) ∨ (y = 0 ∧ ∃ j, j < 2 ^ n ∧ okD f j = false)) (2 ^ n) 0 1 (Nat.zero_le _) (Or.inl ⟨rfl, rfl⟩) ?_ ?_
      · intro m9 y hy
        simp (disch := omega) only [wpX7_lower_19, wpX7_lower_19b, z_basis hn, wpX7_lower_97, not_true_eq_false, not_false_eq_true, forall_const, true_implies, false_implies, implies_true, and_true, true_and, and_self, Nat.not_lt_zero, ne_eq, if_true, if_false, reduceIte, Nat.reduceAdd, Nat.reduceMul, Nat.reduceSub, Nat.reduceLT, Nat.reduceLeDiff, Nat.reduceEqDiff, Nat.add_sub_cancel, eq_self_iff_true, L_0, L_1, L_2, L_3, L_4, L_5, L_6, L_7, L_8, L_9, L_10, L_16, L_20, L_21, L_24, L_31, L_64, L_100, L_320, L_400, L_1000, L_256, nI_add, pk_mul, pk_sub, nI_clamp, vp_in_nI, nI_ge, nI_le, nI_lt, nI_nlt, qI_ne, qI_eq, qI_m1, q_all, qI_nm, qI_nm2]
        rcases hy with ⟨rfl, hy⟩ | ⟨rfl, j, hj, hy⟩
        · have hcd : cdB n f = true := hy
          rw [hcd, if_pos rfl] at hQ
          have hok := allN_t.mp hy
          rw [← (fo_dv hok).1] at hQ
          refine pk_loop (σ := Nat → Int64) (fun m8 i s => wpX7_lower_99 Q (wpX7_lower_13 Q (nI n) m) (nI n) m8 1 (nI i) (nI (e + 1)) s) (fun i s => s = foN dvM i f) (2 ^ n) 0 f (Nat.zero_le _) rfl ?_ ?_
          · intro m8 s hs
            simp (disch := omega) only [wpX7_lower_99, wpX7_lower_99b, z_basis hn, wpX7_lower_156, wpX7_lower_174, not_true_eq_false, not_false_eq_true, forall_const, true_implies, false_implies, implies_true, and_true, true_and, and_self, Nat.not_lt_zero, ne_eq, if_true, if_false, reduceIte, Nat.reduceAdd, Nat.reduceMul, Nat.reduceSub, Nat.reduceLT, Nat.reduceLeDiff, Nat.reduceEqDiff, Nat.add_sub_cancel, eq_self_iff_true, L_0, L_1, L_2, L_3, L_4, L_5, L_6, L_7, L_8, L_9, L_10, L_16, L_20, L_21, L_24, L_31, L_64, L_100, L_320, L_400, L_1000, L_256, nI_add, pk_mul, pk_sub, nI_clamp, vp_in_nI, nI_ge, nI_le, nI_lt, nI_nlt, qI_ne, qI_eq, qI_m1, q_all, qI_nm, qI_nm2]
            rw [← hs] at hQ
            rw [nI_leI (by omega) (by omega)]
            refine ⟨fun h9 => hk (0, e, s) ⟨by show e < 1000; omega, Or.inl ⟨rfl, ?_⟩⟩ ?_, fun h9 => hk (1, e, s) ⟨by show e < 1000; omega, Or.inr ⟨rfl, by show 0 < e; omega, hQ⟩⟩ ?_⟩
            · have : e = 0 := by omega
              subst this; exact hQ
            · show 2 * e + 0 < 2 * (e + 1) + _; omega
            · show 2 * e + 1 < 2 * (e + 1) + _; omega
          · intro m8 i s hi hs hk8
            simp (disch := omega) only [wpX7_lower_99, wpX7_lower_99b, z_basis hn, not_true_eq_false, not_false_eq_true, forall_const, true_implies, false_implies, implies_true, and_true, true_and, and_self, Nat.not_lt_zero, ne_eq, if_true, if_false, reduceIte, Nat.reduceAdd, Nat.reduceMul, Nat.reduceSub, Nat.reduceLT, Nat.reduceLeDiff, Nat.reduceEqDiff, Nat.add_sub_cancel, eq_self_iff_true, L_0, L_1, L_2, L_3, L_4, L_5, L_6, L_7, L_8, L_9, L_10, L_16, L_20, L_21, L_24, L_31, L_64, L_100, L_320, L_400, L_1000, L_256, nI_add, pk_mul, pk_sub, nI_clamp, vp_in_nI, nI_ge, nI_le, nI_lt, nI_nlt, qI_ne, qI_eq, qI_m1, q_all, qI_nm, qI_nm2]
            refine mm_grow (by omega) ?_
            refine pk_loop (σ := Nat → Int64) (fun m7 p s9 => wpX7_lower_123 Q (wpX7_lower_13 Q (nI n) m) (wpX7_lower_99 Q (wpX7_lower_13 Q (nI n) m) (nI n) m8) (nI n) m7 (nI 1) (nI i) (nI p) (nI (e + 1)) s9) (fun p s9 => ∀ k, s9 k = if k / 4 = i ∧ k % 4 < p then grV i s k / 2 else grV i s k) 4 0 (grV i s) (by omega) (fun k => by rw [if_neg (by omega)]) ?_ ?_
            · intro m7 s9 hs9
              simp (disch := omega) only [wpX7_lower_123, wpX7_lower_123b, not_true_eq_false, not_false_eq_true, forall_const, true_implies, false_implies, implies_true, and_true, true_and, and_self, Nat.not_lt_zero, ne_eq, if_true, if_false, reduceIte, Nat.reduceAdd, Nat.reduceMul, Nat.reduceSub, Nat.reduceLT, Nat.reduceLeDiff, Nat.reduceEqDiff, Nat.add_sub_cancel, eq_self_iff_true, L_0, L_1, L_2, L_3, L_4, L_5, L_6, L_7, L_8, L_9, L_10, L_16, L_20, L_21, L_24, L_31, L_64, L_100, L_320, L_400, L_1000, L_256, nI_add, pk_mul, pk_sub, nI_clamp, vp_in_nI, nI_ge, nI_le, nI_lt, nI_nlt, qI_ne, qI_eq, qI_m1, q_all, qI_nm, qI_nm2]
              refine hk8 _ ?_
              show s9 = dvM i (foN dvM i f)
              rw [← hs]
              funext q
              rw [hs9 q]
              unfold dvM
              by_cases e9 : q / 4 = i
              · rw [if_pos ⟨e9, by omega⟩, if_pos e9]
              · rw [if_neg (by omega), if_neg e9]; unfold grV; rw [if_neg e9]
            · intro m7 p s9 hp hs9 hk7
              simp (disch := omega) only [wpX7_lower_123, wpX7_lower_123b, q_all, not_true_eq_false, not_false_eq_true, forall_const, true_implies, false_implies, implies_true, and_true, true_and, and_self, Nat.not_lt_zero, ne_eq, if_true, if_false, reduceIte, Nat.reduceAdd, Nat.reduceMul, Nat.reduceSub, Nat.reduceLT, Nat.reduceLeDiff, Nat.reduceEqDiff, Nat.add_sub_cancel, eq_self_iff_true, L_0, L_1, L_2, L_3, L_4, L_5, L_6, L_7, L_8, L_9, L_10, L_16, L_20, L_21, L_24, L_31, L_64, L_100, L_320, L_400, L_1000, L_256, nI_add, pk_mul, pk_sub, nI_clamp, vp_in_nI, nI_ge, nI_le, nI_lt, nI_nlt, qI_ne, qI_eq, qI_m1, q_all, qI_nm, qI_nm2]
              refine hk7 _ (fun q => ?_)
              by_cases e9 : q = 4 * i + p
              · rw [e9, pk_uLs, if_pos ⟨by omega, by omega⟩, hs9, if_neg (by omega)]
              · rw [pk_uLn e9, hs9 q]
                by_cases e2 : q / 4 = i ∧ q % 4 < p
                · rw [if_pos e2, if_pos ⟨e2.1, by omega⟩]
                · rw [if_neg e2, if_neg (by omega)]
        · have hcd : cdB n f = false := allN_f hj hy
          rw [hcd] at hQ
          refine ⟨1, ?_⟩
          simp (disch := omega) only [wpX7_lower_99, wpX7_lower_99b, z_basis hn, wpX7_lower_156, wpX7_lower_174, not_true_eq_false, not_false_eq_true, forall_const, true_implies, false_implies, implies_true, and_true, true_and, and_self, Nat.not_lt_zero, ne_eq, if_true, if_false, reduceIte, Nat.reduceAdd, Nat.reduceMul, Nat.reduceSub, Nat.reduceLT, Nat.reduceLeDiff, Nat.reduceEqDiff, Nat.add_sub_cancel, eq_self_iff_true, L_0, L_1, L_2, L_3, L_4, L_5, L_6, L_7, L_8, L_9, L_10, L_16, L_20, L_21, L_24, L_31, L_64, L_100, L_320, L_400, L_1000, L_256, nI_add, pk_mul, pk_sub, nI_clamp, vp_in_nI, nI_ge, nI_le, nI_lt, nI_nlt, qI_ne, qI_eq, qI_m1, q_all, qI_nm, qI_nm2]
          refine hk (0, e + 1, f) ⟨he, Or.inl ⟨rfl, hQ⟩⟩ ?_
          show 2 * (e + 1) + 0 < 2 * (e + 1) + 1
          omega
      · intro m9 i y hi hy hk9
        simp (disch := omega) only [wpX7_lower_19, wpX7_lower_19b, z_basis hn, not_true_eq_false, not_false_eq_true, forall_const, true_implies, false_implies, implies_true, and_true, true_and, and_self, Nat.not_lt_zero, ne_eq, if_true, if_false, reduceIte, Nat.reduceAdd, Nat.reduceMul, Nat.reduceSub, Nat.reduceLT, Nat.reduceLeDiff, Nat.reduceEqDiff, Nat.add_sub_cancel, eq_self_iff_true, L_0, L_1, L_2, L_3, L_4, L_5, L_6, L_7, L_8, L_9, L_10, L_16, L_20, L_21, L_24, L_31, L_64, L_100, L_320, L_400, L_1000, L_256, nI_add, pk_mul, pk_sub, nI_clamp, vp_in_nI, nI_ge, nI_le, nI_lt, nI_nlt, qI_ne, qI_eq, qI_m1, q_all, qI_nm, qI_nm2]
        rcases hy with ⟨rfl, hy⟩ | ⟨rfl, j, hj, hy⟩
        · refine ⟨fun h9 => absurd h9 (by decide), fun _ => ?_⟩
          rw [← L_0, pb_z, pb_z, pb_add, pb_add]
          have ed : okD f i = (pb (f (4 * i)) == pb (f (4 * i + 2)) && pb (f (4 * i + 1)) == pb (f (4 * i + 3))) := rfl
          refine ⟨fun h1 => ⟨fun h2 => hk9 1 (Or.inl ⟨rfl, ?_⟩), fun h2 => hk9 0 (Or.inr ⟨rfl, i, hi, ?_⟩)⟩, fun h1 => hk9 0 (Or.inr ⟨rfl, i, hi, ?_⟩)⟩
          · show (allN (okD f) i && okD f i) = true
            rw [hy, ed]
            revert h1 h2
            cases pb (f (4 * i)) <;> cases pb (f (4 * i + 2)) <;> cases pb (f (4 * i + 1)) <;> cases pb (f (4 * i + 3)) <;> simp
          · rw [ed]
            revert h1 h2
            cases pb (f (4 * i)) <;> cases pb (f (4 * i + 2)) <;> cases pb (f (4 * i + 1)) <;> cases pb (f (4 * i + 3)) <;> simp
          · rw [ed]
            revert h1
            cases pb (f (4 * i)) <;> cases pb (f (4 * i + 2)) <;> cases pb (f (4 * i + 1)) <;> cases pb (f (4 * i + 3)) <;> simp
        · refine ⟨fun _ => ?_, fun h9 => absurd rfl h9⟩
          have hcd : cdB n f = false := allN_f hj hy
          rw [hcd] at hQ
          refine ⟨1, ?_⟩
          simp (disch := omega) only [wpX7_lower_99, wpX7_lower_99b, z_basis hn, wpX7_lower_156, wpX7_lower_174, wpX7_lower_97, not_true_eq_false, not_false_eq_true, forall_const, true_implies, false_implies, implies_true, and_true, true_and, and_self, Nat.not_lt_zero, ne_eq, if_true, if_false, reduceIte, Nat.reduceAdd, Nat.reduceMul, Nat.reduceSub, Nat.reduceLT, Nat.reduceLeDiff, Nat.reduceEqDiff, Nat.add_sub_cancel, eq_self_iff_true, L_0, L_1, L_2, L_3, L_4, L_5, L_6, L_7, L_8, L_9, L_10, L_16, L_20, L_21, L_24, L_31, L_64, L_100, L_320, L_400, L_1000, L_256, nI_add, pk_mul, pk_sub, nI_clamp, vp_in_nI, nI_ge, nI_le, nI_lt, nI_nlt, qI_ne, qI_eq, qI_m1, q_all, qI_nm, qI_nm2]
          refine hk (0, e + 1, f) ⟨he, Or.inl ⟨rfl, hQ⟩⟩ ?_
          show 2 * (e + 1) + 0 < 2 * (e + 1) + 1
          omega
  simp (disch := omega) only [wpX7_lower, wpX7_lower_12, not_true_eq_false, not_false_eq_true, forall_const, true_implies, false_implies, implies_true, and_true, true_and, and_self, Nat.not_lt_zero, ne_eq, if_true, if_false, reduceIte, Nat.reduceAdd, Nat.reduceMul, Nat.reduceSub, Nat.reduceLT, Nat.reduceLeDiff, Nat.reduceEqDiff, Nat.add_sub_cancel, eq_self_iff_true, L_0, L_1, L_2, L_3, L_4, L_5, L_6, L_7, L_8, L_9, L_10, L_16, L_20, L_21, L_24, L_31, L_64, L_100, L_320, L_400, L_1000, L_256, nI_add, pk_mul, pk_sub, nI_clamp, vp_in_nI, nI_ge, nI_le, nI_lt, nI_nlt, qI_ne, qI_eq, qI_m1, q_all, qI_nm, qI_nm2]
  by_cases e0 : e = 0
  · subst e0
    simp (disch := omega) only [not_true_eq_false, not_false_eq_true, forall_const, true_implies, false_implies, implies_true, and_true, true_and, and_self, Nat.not_lt_zero, ne_eq, if_true, if_false, reduceIte, Nat.reduceAdd, Nat.reduceMul, Nat.reduceSub, Nat.reduceLT, Nat.reduceLeDiff, Nat.reduceEqDiff, Nat.add_sub_cancel, eq_self_iff_true, L_0, L_1, L_2, L_3, L_4, L_5, L_6, L_7, L_8, L_9, L_10, L_16, L_20, L_21, L_24, L_31, L_64, L_100, L_320, L_400, L_1000, L_256, nI_add, pk_mul, pk_sub, nI_clamp, vp_in_nI, nI_ge, nI_le, nI_lt, nI_nlt, qI_ne, qI_eq, qI_m1, q_all, qI_nm, qI_nm2]
    exact key 0 0 f (by omega) (Or.inl ⟨rfl, h⟩)
  · simp (disch := omega) only [not_true_eq_false, not_false_eq_true, forall_const, true_implies, false_implies, implies_true, and_true, true_and, and_self, Nat.not_lt_zero, ne_eq, if_true, if_false, reduceIte, Nat.reduceAdd, Nat.reduceMul, Nat.reduceSub, Nat.reduceLT, Nat.reduceLeDiff, Nat.reduceEqDiff, Nat.add_sub_cancel, eq_self_iff_true, L_0, L_1, L_2, L_3, L_4, L_5, L_6, L_7, L_8, L_9, L_10, L_16, L_20, L_21, L_24, L_31, L_64, L_100, L_320, L_400, L_1000, L_256, nI_add, pk_mul, pk_sub, nI_clamp, vp_in_nI, nI_ge, nI_le, nI_lt, nI_nlt, qI_ne, qI_eq, qI_m1, q_all, qI_nm, qI_nm2]
    exact key 1 e f he (Or.inr ⟨rfl, by omega, h⟩)
end
