/-! The program's columns: scale, comparing, weights, measuring. -/
def pb (x : Int64) : Bool := x.toBitVec.getLsbD 0
theorem pb_nat (x : Int64) : pb x = decide (x.toBitVec.toNat % 2 = 1) := by
  unfold pb
  rw [BitVec.getLsbD, Nat.testBit_zero]
theorem pb_xor (x y : Int64) : pb (x ^^^ y) = (pb x ^^ pb y) := by unfold pb; rw [Int64.toBitVec_xor, BitVec.getLsbD_xor]
theorem pb_or (x y : Int64) : pb (x ||| y) = (pb x || pb y) := by unfold pb; rw [Int64.toBitVec_or, BitVec.getLsbD_or]
theorem pb_add (x y : Int64) : pb (x + y) = (pb x ^^ pb y) := by
  rw [pb_nat, pb_nat, pb_nat, Int64.toBitVec_add, BitVec.toNat_add]
  rcases Nat.mod_two_eq_zero_or_one x.toBitVec.toNat with h1 | h1 <;> rcases Nat.mod_two_eq_zero_or_one y.toBitVec.toNat with h2 | h2
  · rw [h1, h2, show (x.toBitVec.toNat + y.toBitVec.toNat) % 2 ^ 64 % 2 = 0 by omega]; rfl
  · rw [h1, h2, show (x.toBitVec.toNat + y.toBitVec.toNat) % 2 ^ 64 % 2 = 1 by omega]; rfl
  · rw [h1, h2, show (x.toBitVec.toNat + y.toBitVec.toNat) % 2 ^ 64 % 2 = 1 by omega]; rfl
  · rw [h1, h2, show (x.toBitVec.toNat + y.toBitVec.toNat) % 2 ^ 64 % 2 = 0 by omega]; rfl
theorem pb_sub (x y : Int64) : pb (x - y) = (pb x ^^ pb y) := by
  have h := pb_add (x - y) y
  rw [show x - y + y = x by rw [Int64.sub_add_cancel]] at h
  rw [h]; cases pb (x - y) <;> cases pb y <;> rfl
theorem pb_z (x : Int64) : lg_cmp (x &&& 1) 0 = 0 ↔ pb x = false := by
  rw [lg_cmp_eq, ← Int64.toBitVec_inj, Int64.toBitVec_and]
  show x.toBitVec &&& 1#64 = 0#64 ↔ _
  rw [pb_nat, ← BitVec.toNat_inj, BitVec.toNat_and]
  show x.toBitVec.toNat &&& 1 = 0 ↔ _
  rw [Nat.and_one_is_mod]
  simp
def okD (V : Nat → Int64) (i : Nat) : Bool := pb (V (4 * i)) == pb (V (4 * i + 2)) && pb (V (4 * i + 1)) == pb (V (4 * i + 3))
def allN (p : Nat → Bool) : Nat → Bool
  | 0 => true
  | m + 1 => allN p m && p m
theorem allN_t {p : Nat → Bool} : ∀ {m : Nat}, allN p m = true ↔ ∀ i, i < m → p i = true := by
  intro m
  induction m with
  | zero => simp [allN]
  | succ m ih =>
    unfold allN
    rw [Bool.and_eq_true, ih]
    constructor
    · intro h i hi
      by_cases e : i = m
      · rw [e]; exact h.2
      · exact h.1 i (by omega)
    · intro h
      exact ⟨fun i hi => h i (by omega), h m (by omega)⟩
theorem allN_f {p : Nat → Bool} {m i : Nat} (hi : i < m) (h : p i = false) : allN p m = false := by
  cases e : allN p m with
  | false => rfl
  | true => rw [allN_t.mp e i hi] at h; exact absurd h (by decide)
def cdB (n : Nat) (V : Nat → Int64) : Bool := allN (okD V) (2 ^ n)
theorem y_cbd {Q : Int32 → Prop} {n : Nat} {V : Nat → Int64} (hn : n < 5) (h : Q (if cdB n V then 1 else 0)) : wpX1_canBeDivided Q (nI (2 ^ n)) V := by
  unfold wpX1_canBeDivided
  have hb := p16 (n := n) (by omega)
  refine pk_loop (σ := Int64) (fun m i s => wpX1_canBeDivided_4 Q (nI (2 ^ n)) V m s (nI i)) (fun i s => pb s = !allN (okD V) i) (2 ^ n) 0 0 (Nat.zero_le _) (show pb 0 = !true by decide) ?_ ?_
  · intro m s hI
    simp (disch := omega) only [wpX1_canBeDivided_4, wpX1_canBeDivided_4b, wpX1_canBeDivided_63, not_true_eq_false, not_false_eq_true, forall_const, true_implies, false_implies, implies_true, and_true, true_and, and_self, Nat.not_lt_zero, ne_eq, if_true, if_false, reduceIte, Nat.reduceAdd, Nat.reduceMul, Nat.reduceSub, Nat.reduceLT, Nat.reduceLeDiff, Nat.reduceEqDiff, eq_self_iff_true, L_0, L_1, L_2, L_3, L_4, L_5, L_6, L_7, L_8, L_9, L_10, L_16, L_20, L_21, L_24, L_31, L_64, L_100, L_320, L_400, L_1000, L_256, nI_add, pk_mul, pk_sub, nI_clamp, vp_in_nI, nI_ge, nI_le, nI_lt, nI_nlt, qI_ne, qI_eq, qI_m1, q_all, qI_nm, qI_nm2]
    rw [← L_0, pb_z, hI]
    unfold cdB at h
    cases e : allN (okD V) (2 ^ n) with
    | true => rw [e] at h; exact ⟨fun _ => h, fun h9 => absurd rfl h9⟩
    | false => rw [e] at h; exact ⟨fun h9 => absurd h9 (by decide), fun _ => h⟩
  · intro m i s hi hI hk
    simp (disch := omega) only [wpX1_canBeDivided_4, wpX1_canBeDivided_4b, not_true_eq_false, not_false_eq_true, forall_const, true_implies, false_implies, implies_true, and_true, true_and, and_self, Nat.not_lt_zero, ne_eq, if_true, if_false, reduceIte, Nat.reduceAdd, Nat.reduceMul, Nat.reduceSub, Nat.reduceLT, Nat.reduceLeDiff, Nat.reduceEqDiff, eq_self_iff_true, L_0, L_1, L_2, L_3, L_4, L_5, L_6, L_7, L_8, L_9, L_10, L_16, L_20, L_21, L_24, L_31, L_64, L_100, L_320, L_400, L_1000, L_256, nI_add, pk_mul, pk_sub, nI_clamp, vp_in_nI, nI_ge, nI_le, nI_lt, nI_nlt, qI_ne, qI_eq, qI_m1, q_all, qI_nm, qI_nm2]
    refine hk _ ?_
    rw [pb_or, pb_or, pb_xor, pb_xor, hI]
    show _ = !(allN (okD V) i && okD V i)
    rw [show okD V i = (pb (V (4 * i)) == pb (V (4 * i + 2)) && pb (V (4 * i + 1)) == pb (V (4 * i + 3))) from rfl]
    cases allN (okD V) i <;> cases pb (V (4 * i)) <;> cases pb (V (4 * i + 2)) <;> cases pb (V (4 * i + 1)) <;> cases pb (V (4 * i + 3)) <;> rfl
def shR (x : Int64) : Int64 := x >>> ((nI 1).toInt64 &&& 63)
def dvV (i : Nat) (V : Nat → Int64) : Nat → Int64 := fun k => if k / 4 = i then shR (grV i V k) else V k
theorem y_divide {Q : (Nat → Int64) → Prop} {n : Nat} {f : Nat → Int64} (hn : n < 5) (h : Q (foN dvV (2 ^ n) f)) : wpX1_divide Q (nI (2 ^ n)) f := by
  unfold wpX1_divide
  have hb := p16 (n := n) (by omega)
  refine pk_loop (σ := Nat → Int64) (fun m i s => wpX1_divide_2 Q (nI (2 ^ n)) m (nI i) s) (fun i s => s = foN dvV i f) (2 ^ n) 0 f (Nat.zero_le _) rfl ?_ ?_
  · intro m s hI
    simp (disch := omega) only [wpX1_divide_2, wpX1_divide_2b, not_true_eq_false, not_false_eq_true, forall_const, true_implies, false_implies, implies_true, and_true, true_and, and_self, Nat.not_lt_zero, ne_eq, if_true, if_false, reduceIte, Nat.reduceAdd, Nat.reduceMul, Nat.reduceSub, Nat.reduceLT, Nat.reduceLeDiff, Nat.reduceEqDiff, eq_self_iff_true, L_0, L_1, L_2, L_3, L_4, L_5, L_6, L_7, L_8, L_9, L_10, L_16, L_20, L_21, L_24, L_31, L_64, L_100, L_320, L_400, L_1000, L_256, nI_add, pk_mul, pk_sub, nI_clamp, vp_in_nI, nI_ge, nI_le, nI_lt, nI_nlt, qI_ne, qI_eq, qI_m1, q_all, qI_nm, qI_nm2]
    rw [hI]; exact h
  · intro m i s hi hI hk
    simp (disch := omega) only [wpX1_divide_2, wpX1_divide_2b, not_true_eq_false, not_false_eq_true, forall_const, true_implies, false_implies, implies_true, and_true, true_and, and_self, Nat.not_lt_zero, ne_eq, if_true, if_false, reduceIte, Nat.reduceAdd, Nat.reduceMul, Nat.reduceSub, Nat.reduceLT, Nat.reduceLeDiff, Nat.reduceEqDiff, eq_self_iff_true, L_0, L_1, L_2, L_3, L_4, L_5, L_6, L_7, L_8, L_9, L_10, L_16, L_20, L_21, L_24, L_31, L_64, L_100, L_320, L_400, L_1000, L_256, nI_add, pk_mul, pk_sub, nI_clamp, vp_in_nI, nI_ge, nI_le, nI_lt, nI_nlt, qI_ne, qI_eq, qI_m1, q_all, qI_nm, qI_nm2]
    refine y_timesRoot (by omega) ?_
    refine pk_loop (σ := Nat → Int64) (fun m9 p s9 => wpX1_divide_21 Q (wpX1_divide_2 Q (nI (2 ^ n)) m) (nI (2 ^ n)) m9 (nI i) (nI (4 * i)) (nI p) s9) (fun p s9 => ∀ k, s9 k = if k / 4 = i ∧ k % 4 < p then shR (grV i s k) else grV i s k) 4 0 (grV i s) (by omega) (fun k => by rw [if_neg (by omega)]) ?_ ?_
    · intro m9 s9 hI9
      simp (disch := omega) only [wpX1_divide_21, wpX1_divide_21b, not_true_eq_false, not_false_eq_true, forall_const, true_implies, false_implies, implies_true, and_true, true_and, and_self, Nat.not_lt_zero, ne_eq, if_true, if_false, reduceIte, Nat.reduceAdd, Nat.reduceMul, Nat.reduceSub, Nat.reduceLT, Nat.reduceLeDiff, Nat.reduceEqDiff, eq_self_iff_true, L_0, L_1, L_2, L_3, L_4, L_5, L_6, L_7, L_8, L_9, L_10, L_16, L_20, L_21, L_24, L_31, L_64, L_100, L_320, L_400, L_1000, L_256, nI_add, pk_mul, pk_sub, nI_clamp, vp_in_nI, nI_ge, nI_le, nI_lt, nI_nlt, qI_ne, qI_eq, qI_m1, q_all, qI_nm, qI_nm2]
      refine hk _ ?_
      rw [← show _ = foN dvV (i + 1) f from rfl]
      show _ = dvV i (foN dvV i f)
      rw [← hI]
      funext k
      rw [hI9 k]
      unfold dvV
      by_cases e : k / 4 = i
      · rw [if_pos ⟨e, by omega⟩, if_pos e]
      · rw [if_neg (by omega), if_neg e]; unfold grV; rw [if_neg e]
    · intro m9 p s9 hp hI9 hk9
      simp (disch := omega) only [wpX1_divide_21, wpX1_divide_21b, not_true_eq_false, not_false_eq_true, forall_const, true_implies, false_implies, implies_true, and_true, true_and, and_self, Nat.not_lt_zero, ne_eq, if_true, if_false, reduceIte, Nat.reduceAdd, Nat.reduceMul, Nat.reduceSub, Nat.reduceLT, Nat.reduceLeDiff, Nat.reduceEqDiff, eq_self_iff_true, L_0, L_1, L_2, L_3, L_4, L_5, L_6, L_7, L_8, L_9, L_10, L_16, L_20, L_21, L_24, L_31, L_64, L_100, L_320, L_400, L_1000, L_256, nI_add, pk_mul, pk_sub, nI_clamp, vp_in_nI, nI_ge, nI_le, nI_lt, nI_nlt, qI_ne, qI_eq, qI_m1, q_all, qI_nm, qI_nm2]
      refine hk9 _ (fun k => ?_)
      by_cases e : k = 4 * i + p
      · rw [e, pk_uLs, if_pos ⟨by omega, by omega⟩, hI9, if_neg (by omega)]; rfl
      · rw [pk_uLn e, hI9 k]
        by_cases e2 : k / 4 = i ∧ k % 4 < p
        · rw [if_pos e2, if_pos ⟨e2.1, by omega⟩]
        · rw [if_neg e2, if_neg (by omega)]
def lowV (n : Nat) : Nat → (Nat → Int64) → Nat × (Nat → Int64)
  | 0, V => (0, V)
  | e + 1, V => if cdB n V then lowV n e (foN dvV (2 ^ n) V) else (e + 1, V)
theorem y_low0 {Q : Int32 → (Nat → Int64) → Prop} {n : Nat} (hn : n < 5) : ∀ (e : Nat) (f : Nat → Int64), e < 1000 → Q (nI (lowV n e f).1) (lowV n e f).2 → wpX1_lower_0 Q (nI (2 ^ n)) (e + 1) (nI e) f := by
  intro e f he h
  refine pk_loopD (σ := Nat → Int64) (fun m e s => wpX1_lower_0 Q (nI (2 ^ n)) m (nI e) s) (fun e s => e < 1000 ∧ Q (nI (lowV n e s).1) (lowV n e s).2) ?_ ?_ e f ⟨he, h⟩
  · intro m s hI
    simp (disch := omega) only [wpX1_lower_0, wpX1_lower_0b, not_true_eq_false, not_false_eq_true, forall_const, true_implies, false_implies, implies_true, and_true, true_and, and_self, Nat.not_lt_zero, ne_eq, if_true, if_false, reduceIte, Nat.reduceAdd, Nat.reduceMul, Nat.reduceSub, Nat.reduceLT, Nat.reduceLeDiff, Nat.reduceEqDiff, eq_self_iff_true, L_0, L_1, L_2, L_3, L_4, L_5, L_6, L_7, L_8, L_9, L_10, L_16, L_20, L_21, L_24, L_31, L_64, L_100, L_320, L_400, L_1000, L_256, nI_add, pk_mul, pk_sub, nI_clamp, vp_in_nI, nI_ge, nI_le, nI_lt, nI_nlt, qI_ne, qI_eq, qI_m1, q_all, qI_nm, qI_nm2]
    exact hI.2
  · intro m e s hI hk
    obtain ⟨he, hI⟩ := hI
    simp (disch := omega) only [wpX1_lower_0, wpX1_lower_0b, not_true_eq_false, not_false_eq_true, forall_const, true_implies, false_implies, implies_true, and_true, true_and, and_self, Nat.not_lt_zero, ne_eq, if_true, if_false, reduceIte, Nat.reduceAdd, Nat.reduceMul, Nat.reduceSub, Nat.reduceLT, Nat.reduceLeDiff, Nat.reduceEqDiff, eq_self_iff_true, L_0, L_1, L_2, L_3, L_4, L_5, L_6, L_7, L_8, L_9, L_10, L_16, L_20, L_21, L_24, L_31, L_64, L_100, L_320, L_400, L_1000, L_256, nI_add, pk_mul, pk_sub, nI_clamp, vp_in_nI, nI_ge, nI_le, nI_lt, nI_nlt, qI_ne, qI_eq, qI_m1, q_all, qI_nm, qI_nm2]
    refine y_cbd hn ?_
    unfold lowV at hI
    cases e9 : cdB n s with
    | true =>
      rw [e9, if_pos rfl] at hI
      refine ⟨fun h9 => absurd h9 (by decide), fun _ => y_divide hn ?_⟩
      rw [show e + 1 - 1 = e from rfl]
      exact hk _ ⟨by omega, hI⟩
    | false =>
      rw [e9] at hI
      exact ⟨fun _ => hI, fun h9 => absurd rfl h9⟩
theorem y_lower {Q : Int32 → (Nat → Int64) → Prop} {n e : Nat} {f : Nat → Int64} (hn : n < 5) (he : e < 1000) (h : Q (nI (lowV n e f).1) (lowV n e f).2) : wpX1_lower Q (nI (2 ^ n)) (nI e) f := by
  have h0 := y_low0 (Q := Q) hn e f he h
  cases e with
  | zero => simp (disch := omega) only [wpX1_lower, not_true_eq_false, not_false_eq_true, forall_const, true_implies, false_implies, implies_true, and_true, true_and, and_self, Nat.not_lt_zero, ne_eq, if_true, if_false, reduceIte, Nat.reduceAdd, Nat.reduceMul, Nat.reduceSub, Nat.reduceLT, Nat.reduceLeDiff, Nat.reduceEqDiff, eq_self_iff_true, L_0, L_1, L_2, L_3, L_4, L_5, L_6, L_7, L_8, L_9, L_10, L_16, L_20, L_21, L_24, L_31, L_64, L_100, L_320, L_400, L_1000, L_256, nI_add, pk_mul, pk_sub, nI_clamp, vp_in_nI, nI_ge, nI_le, nI_lt, nI_nlt, qI_ne, qI_eq, qI_m1, q_all, qI_nm, qI_nm2]; exact h
  | succ e =>
    simp (disch := omega) only [wpX1_lower, not_true_eq_false, not_false_eq_true, forall_const, true_implies, false_implies, implies_true, and_true, true_and, and_self, Nat.not_lt_zero, ne_eq, if_true, if_false, reduceIte, Nat.reduceAdd, Nat.reduceMul, Nat.reduceSub, Nat.reduceLT, Nat.reduceLeDiff, Nat.reduceEqDiff, eq_self_iff_true, L_0, L_1, L_2, L_3, L_4, L_5, L_6, L_7, L_8, L_9, L_10, L_16, L_20, L_21, L_24, L_31, L_64, L_100, L_320, L_400, L_1000, L_256, nI_add, pk_mul, pk_sub, nI_clamp, vp_in_nI, nI_ge, nI_le, nI_lt, nI_nlt, qI_ne, qI_eq, qI_m1, q_all, qI_nm, qI_nm2]
    refine y_cbd hn ?_
    unfold lowV at h
    cases e9 : cdB n f with
    | true =>
      rw [e9, if_pos rfl] at h
      refine ⟨fun h9 => absurd h9 (by decide), fun _ => y_divide hn ?_⟩
      rw [show e + 1 - 1 = e from rfl]
      exact ⟨_, y_low0 hn e _ (by omega) h⟩
    | false =>
      rw [e9] at h
      exact ⟨fun _ => h, fun h9 => absurd rfl h9⟩
theorem y_part {Q : Int64 → Prop} {b p : Nat} {f : Nat → Int64} (hb : b < 16) (hp : p < 4) (h : Q (f (4 * b + p))) : wpX1_part Q (nI b) (nI p) f := by
  simp (disch := omega) only [wpX1_part, not_true_eq_false, not_false_eq_true, forall_const, true_implies, false_implies, implies_true, and_true, true_and, and_self, Nat.not_lt_zero, ne_eq, if_true, if_false, reduceIte, Nat.reduceAdd, Nat.reduceMul, Nat.reduceSub, Nat.reduceLT, Nat.reduceLeDiff, Nat.reduceEqDiff, eq_self_iff_true, L_0, L_1, L_2, L_3, L_4, L_5, L_6, L_7, L_8, L_9, L_10, L_16, L_20, L_21, L_24, L_31, L_64, L_100, L_320, L_400, L_1000, L_256, nI_add, pk_mul, pk_sub, nI_clamp, vp_in_nI, nI_ge, nI_le, nI_lt, nI_nlt, qI_ne, qI_eq, qI_m1, q_all, qI_nm, qI_nm2]; exact h
def rowEq (V W : Nat → Int64) (i : Nat) : Bool := allN (fun p => V (4 * i + p) == W (4 * i + p)) 4
def fdF (V W : Nat → Int64) : Nat → Nat → Option Nat
  | 0, _ => none
  | m + 1, i => if rowEq V W i then fdF V W m (i + 1) else some i
def fdV (n : Nat) (V W : Nat → Int64) : Option Nat := fdF V W (2 ^ n) 0
def opI (o : Option Nat) : Int32 := match o with | none => -1 | some i => nI i
theorem y_fd {Q : Int32 → Prop} {n : Nat} {V W : Nat → Int64} (hn : n < 5) (h : Q (opI (fdV n V W))) : wpX1_firstDifference Q (nI (2 ^ n)) V W := by
  unfold wpX1_firstDifference
  have hb := p16 (n := n) (by omega)
  refine pk_loop (σ := Unit) (fun m i _ => wpX1_firstDifference_2 Q (nI (2 ^ n)) V W m (nI i)) (fun i _ => fdF V W (2 ^ n - i) i = fdV n V W) (2 ^ n) 0 () (Nat.zero_le _) rfl ?_ ?_
  · intro m s hI
    simp (disch := omega) only [wpX1_firstDifference_2, wpX1_firstDifference_2b, not_true_eq_false, not_false_eq_true, forall_const, true_implies, false_implies, implies_true, and_true, true_and, and_self, Nat.not_lt_zero, ne_eq, if_true, if_false, reduceIte, Nat.reduceAdd, Nat.reduceMul, Nat.reduceSub, Nat.reduceLT, Nat.reduceLeDiff, Nat.reduceEqDiff, eq_self_iff_true, L_0, L_1, L_2, L_3, L_4, L_5, L_6, L_7, L_8, L_9, L_10, L_16, L_20, L_21, L_24, L_31, L_64, L_100, L_320, L_400, L_1000, L_256, nI_add, pk_mul, pk_sub, nI_clamp, vp_in_nI, nI_ge, nI_le, nI_lt, nI_nlt, qI_ne, qI_eq, qI_m1, q_all, qI_nm, qI_nm2]
    rw [Nat.sub_self] at hI
    rw [← hI] at h; exact h
  · intro m i s hi hI hk
    simp (disch := omega) only [wpX1_firstDifference_2, wpX1_firstDifference_2b, not_true_eq_false, not_false_eq_true, forall_const, true_implies, false_implies, implies_true, and_true, true_and, and_self, Nat.not_lt_zero, ne_eq, if_true, if_false, reduceIte, Nat.reduceAdd, Nat.reduceMul, Nat.reduceSub, Nat.reduceLT, Nat.reduceLeDiff, Nat.reduceEqDiff, eq_self_iff_true, L_0, L_1, L_2, L_3, L_4, L_5, L_6, L_7, L_8, L_9, L_10, L_16, L_20, L_21, L_24, L_31, L_64, L_100, L_320, L_400, L_1000, L_256, nI_add, pk_mul, pk_sub, nI_clamp, vp_in_nI, nI_ge, nI_le, nI_lt, nI_nlt, qI_ne, qI_eq, qI_m1, q_all, qI_nm, qI_nm2]
    rw [show 2 ^ n - i = (2 ^ n - (i + 1)) + 1 by omega] at hI
    unfold fdF at hI
    refine pk_loop (σ := Unit) (fun m9 p _ => wpX1_firstDifference_12 Q (wpX1_firstDifference_2 Q (nI (2 ^ n)) V W m) (nI (2 ^ n)) V W m9 (nI i) (nI p)) (fun p _ => ∀ q, q < p → V (4 * i + q) = W (4 * i + q)) 4 0 () (by omega) (fun q hq => absurd hq (Nat.not_lt_zero _)) ?_ ?_
    · intro m9 s9 hI9
      simp (disch := omega) only [wpX1_firstDifference_12, wpX1_firstDifference_12b, not_true_eq_false, not_false_eq_true, forall_const, true_implies, false_implies, implies_true, and_true, true_and, and_self, Nat.not_lt_zero, ne_eq, if_true, if_false, reduceIte, Nat.reduceAdd, Nat.reduceMul, Nat.reduceSub, Nat.reduceLT, Nat.reduceLeDiff, Nat.reduceEqDiff, eq_self_iff_true, L_0, L_1, L_2, L_3, L_4, L_5, L_6, L_7, L_8, L_9, L_10, L_16, L_20, L_21, L_24, L_31, L_64, L_100, L_320, L_400, L_1000, L_256, nI_add, pk_mul, pk_sub, nI_clamp, vp_in_nI, nI_ge, nI_le, nI_lt, nI_nlt, qI_ne, qI_eq, qI_m1, q_all, qI_nm, qI_nm2]
      have e : rowEq V W i = true := allN_t.mpr (fun q hq => by simpa using hI9 q hq)
      rw [e, if_pos rfl] at hI
      exact hk () hI
    · intro m9 p s9 hp hI9 hk9
      simp (disch := omega) only [wpX1_firstDifference_12, wpX1_firstDifference_12b, not_true_eq_false, not_false_eq_true, forall_const, true_implies, false_implies, implies_true, and_true, true_and, and_self, Nat.not_lt_zero, ne_eq, if_true, if_false, reduceIte, Nat.reduceAdd, Nat.reduceMul, Nat.reduceSub, Nat.reduceLT, Nat.reduceLeDiff, Nat.reduceEqDiff, eq_self_iff_true, L_0, L_1, L_2, L_3, L_4, L_5, L_6, L_7, L_8, L_9, L_10, L_16, L_20, L_21, L_24, L_31, L_64, L_100, L_320, L_400, L_1000, L_256, nI_add, pk_mul, pk_sub, nI_clamp, vp_in_nI, nI_ge, nI_le, nI_lt, nI_nlt, qI_ne, qI_eq, qI_m1, q_all, qI_nm, qI_nm2]
      refine y_part (by omega) hp (y_part (by omega) hp ?_)
      rw [← L_0, lg_cmp_eq]
      refine ⟨fun h9 => hk9 () (fun q hq => ?_), fun h9 => ?_⟩
      · by_cases e : q = p
        · rw [e]; exact h9
        · exact hI9 q (by omega)
      · have e : rowEq V W i = false := allN_f hp (by simpa using h9)
        rw [e] at hI
        rw [← hI] at h; exact h
def frN (p k : Nat) : Nat := (p + 8 - k) % 8
def twP (k : Nat) (W : Nat → Int64) (j : Nat) : Int64 := if frN (j % 4) k < 4 then W (4 * (j / 4) + frN (j % 4) k) else -W (4 * (j / 4) + (frN (j % 4) k - 4))
def trB (n k : Nat) (V W : Nat → Int64) : Bool := allN (fun j => V j == twP k W j) (4 * 2 ^ n)
theorem fr_eq : ∀ p, p < 4 → ∀ k, k < 8 → ((nI p - nI k) &&& nI 7) = nI (frN p k) := by decide +kernel
theorem y_isT {Q : Int32 → Prop} {n k : Nat} {V W : Nat → Int64} (hn : n < 5) (hk8 : k < 8) (h : Q (if trB n k V W then 1 else 0)) : wpX1_isTurned Q (nI k) (nI (2 ^ n)) V W := by
  unfold wpX1_isTurned
  have hb := p16 (n := n) (by omega)
  refine pk_loop (σ := Unit) (fun m i _ => wpX1_isTurned_2 Q (nI (2 ^ n)) V W m (nI k) (nI i)) (fun i _ => ∀ j, j < 4 * i → V j = twP k W j) (2 ^ n) 0 () (Nat.zero_le _) (fun j hj => absurd hj (by omega)) ?_ ?_
  · intro m s hI
    simp (disch := omega) only [wpX1_isTurned_2, wpX1_isTurned_2b, not_true_eq_false, not_false_eq_true, forall_const, true_implies, false_implies, implies_true, and_true, true_and, and_self, Nat.not_lt_zero, ne_eq, if_true, if_false, reduceIte, Nat.reduceAdd, Nat.reduceMul, Nat.reduceSub, Nat.reduceLT, Nat.reduceLeDiff, Nat.reduceEqDiff, eq_self_iff_true, L_0, L_1, L_2, L_3, L_4, L_5, L_6, L_7, L_8, L_9, L_10, L_16, L_20, L_21, L_24, L_31, L_64, L_100, L_320, L_400, L_1000, L_256, nI_add, pk_mul, pk_sub, nI_clamp, vp_in_nI, nI_ge, nI_le, nI_lt, nI_nlt, qI_ne, qI_eq, qI_m1, q_all, qI_nm, qI_nm2]
    have e : trB n k V W = true := allN_t.mpr (fun j hj => by simpa using hI j hj)
    rw [e] at h; exact h
  · intro m i s hi hI hk
    simp (disch := omega) only [wpX1_isTurned_2, wpX1_isTurned_2b, not_true_eq_false, not_false_eq_true, forall_const, true_implies, false_implies, implies_true, and_true, true_and, and_self, Nat.not_lt_zero, ne_eq, if_true, if_false, reduceIte, Nat.reduceAdd, Nat.reduceMul, Nat.reduceSub, Nat.reduceLT, Nat.reduceLeDiff, Nat.reduceEqDiff, eq_self_iff_true, L_0, L_1, L_2, L_3, L_4, L_5, L_6, L_7, L_8, L_9, L_10, L_16, L_20, L_21, L_24, L_31, L_64, L_100, L_320, L_400, L_1000, L_256, nI_add, pk_mul, pk_sub, nI_clamp, vp_in_nI, nI_ge, nI_le, nI_lt, nI_nlt, qI_ne, qI_eq, qI_m1, q_all, qI_nm, qI_nm2]
    refine pk_loop (σ := Unit) (fun m9 p _ => wpX1_isTurned_13 Q (wpX1_isTurned_2 Q (nI (2 ^ n)) V W m) (nI (2 ^ n)) V W m9 (nI k) (nI i) (nI p)) (fun p _ => ∀ j, j < 4 * i + p → V j = twP k W j) 4 0 () (by omega) hI ?_ ?_
    · intro m9 s9 hI9
      simp (disch := omega) only [wpX1_isTurned_13, wpX1_isTurned_13b, not_true_eq_false, not_false_eq_true, forall_const, true_implies, false_implies, implies_true, and_true, true_and, and_self, Nat.not_lt_zero, ne_eq, if_true, if_false, reduceIte, Nat.reduceAdd, Nat.reduceMul, Nat.reduceSub, Nat.reduceLT, Nat.reduceLeDiff, Nat.reduceEqDiff, eq_self_iff_true, L_0, L_1, L_2, L_3, L_4, L_5, L_6, L_7, L_8, L_9, L_10, L_16, L_20, L_21, L_24, L_31, L_64, L_100, L_320, L_400, L_1000, L_256, nI_add, pk_mul, pk_sub, nI_clamp, vp_in_nI, nI_ge, nI_le, nI_lt, nI_nlt, qI_ne, qI_eq, qI_m1, q_all, qI_nm, qI_nm2]
      exact hk () (fun j hj => hI9 j (by omega))
    · intro m9 p s9 hp hI9 hk9
      have hf : frN p k < 8 := Nat.mod_lt _ (by omega)
      have e1 : (4 * i + p) % 4 = p := by omega
      have e2 : (4 * i + p) / 4 = i := by omega
      have fin : ∀ y : Int64, y = twP k W (4 * i + p) → wpX1_isTurned_54 Q (wpX1_isTurned_2 Q (nI (2 ^ n)) V W m) (wpX1_isTurned_13 Q (wpX1_isTurned_2 Q (nI (2 ^ n)) V W m) (nI (2 ^ n)) V W m9) (nI (2 ^ n)) V W (nI k) (nI i) (nI p) y := fun y hy => by
        unfold wpX1_isTurned_54
        refine y_part (by omega) hp ?_
        rw [lg_cmp_eq, nI_1]
        refine ⟨fun h9 => hk9 () (fun j hj => ?_), fun h9 => ?_⟩
        · by_cases e : j = 4 * i + p
          · rw [e, h9, hy]
          · exact hI9 j (by omega)
        · have e : trB n k V W = false := allN_f (i := 4 * i + p) (by omega) (by rw [← hy]; simpa using h9)
          rw [e] at h; exact h
      simp (disch := omega) only [wpX1_isTurned_13, wpX1_isTurned_13b, fr_eq p hp k hk8, not_true_eq_false, not_false_eq_true, forall_const, true_implies, false_implies, implies_true, and_true, true_and, and_self, Nat.not_lt_zero, ne_eq, if_true, if_false, reduceIte, Nat.reduceAdd, Nat.reduceMul, Nat.reduceSub, Nat.reduceLT, Nat.reduceLeDiff, Nat.reduceEqDiff, eq_self_iff_true, L_0, L_1, L_2, L_3, L_4, L_5, L_6, L_7, L_8, L_9, L_10, L_16, L_20, L_21, L_24, L_31, L_64, L_100, L_320, L_400, L_1000, L_256, nI_add, pk_mul, pk_sub, nI_clamp, vp_in_nI, nI_ge, nI_le, nI_lt, nI_nlt, qI_ne, qI_eq, qI_m1, q_all, qI_nm, qI_nm2]
      rw [nI_leI (by omega) (by omega)]
      refine ⟨fun h9 => ?_, fun h9 => ?_⟩
      · rw [pk_sub h9]
        refine y_part (by omega) (by omega) (fin _ ?_)
        unfold twP; rw [e1, e2, if_neg (by omega)]
      · refine y_part (by omega) (by omega) (fin _ ?_)
        unfold twP; rw [e1, e2, if_pos (by omega)]
def bitN (i w : Nat) : Nat := i / 2 ^ w % 2
def smW (c : Nat → Bool) (t : Nat → Int64) : Nat → Int64
  | 0 => 0
  | m + 1 => if c m then smW c t m + t m else smW c t m
def whT (V : Nat → Int64) (i : Nat) : Int64 := V (4 * i) * V (4 * i) + V (4 * i + 1) * V (4 * i + 1) + V (4 * i + 2) * V (4 * i + 2) + V (4 * i + 3) * V (4 * i + 3)
def roT (V : Nat → Int64) (i : Nat) : Int64 := V (4 * i) * V (4 * i + 1) + V (4 * i + 1) * V (4 * i + 2) + V (4 * i + 2) * V (4 * i + 3) - V (4 * i + 3) * V (4 * i)
theorem q_bit {i w : Nat} (hi : i < 2 ^ 31) (hw : w < 32) : (nI i >>> (nI w &&& nI 31)) &&& nI 1 = nI (bitN i w) := by
  rw [q_shr hi hw, q_and, Nat.and_one_is_mod]; rfl
theorem bitN_lt (i w : Nat) : bitN i w < 2 := Nat.mod_lt _ (by omega)
theorem q_biteq {i w v : Nat} (hv : v < 2) : (nI (bitN i w) = nI v) ↔ bitN i w = v := nI_eq (by have := bitN_lt i w; omega) (by omega)
theorem y_whole {Q : Int64 → Prop} {n w v : Nat} {V : Nat → Int64} (hn : n < 5) (hw : w < 4) (hv : v < 2) (h : Q (smW (fun i => bitN i w == v) (whT V) (2 ^ n))) : wpX1_weightWhole Q (nI w) (nI v) (nI (2 ^ n)) V := by
  unfold wpX1_weightWhole
  have hb := p16 (n := n) (by omega)
  refine pk_loop (σ := Int64) (fun m i s => wpX1_weightWhole_5 Q (nI (2 ^ n)) V m (nI w) (nI v) s (nI i)) (fun i s => s = smW (fun i => bitN i w == v) (whT V) i) (2 ^ n) 0 0 (Nat.zero_le _) rfl ?_ ?_
  · intro m s hI
    simp (disch := omega) only [wpX1_weightWhole_5, wpX1_weightWhole_5b, not_true_eq_false, not_false_eq_true, forall_const, true_implies, false_implies, implies_true, and_true, true_and, and_self, Nat.not_lt_zero, ne_eq, if_true, if_false, reduceIte, Nat.reduceAdd, Nat.reduceMul, Nat.reduceSub, Nat.reduceLT, Nat.reduceLeDiff, Nat.reduceEqDiff, eq_self_iff_true, L_0, L_1, L_2, L_3, L_4, L_5, L_6, L_7, L_8, L_9, L_10, L_16, L_20, L_21, L_24, L_31, L_64, L_100, L_320, L_400, L_1000, L_256, nI_add, pk_mul, pk_sub, nI_clamp, vp_in_nI, nI_ge, nI_le, nI_lt, nI_nlt, qI_ne, qI_eq, qI_m1, q_all, qI_nm, qI_nm2]
    rw [hI]; exact h
  · intro m i s hi hI hk
    simp (disch := omega) only [wpX1_weightWhole_5, wpX1_weightWhole_5b, q_bit, q_biteq, not_true_eq_false, not_false_eq_true, forall_const, true_implies, false_implies, implies_true, and_true, true_and, and_self, Nat.not_lt_zero, ne_eq, if_true, if_false, reduceIte, Nat.reduceAdd, Nat.reduceMul, Nat.reduceSub, Nat.reduceLT, Nat.reduceLeDiff, Nat.reduceEqDiff, eq_self_iff_true, L_0, L_1, L_2, L_3, L_4, L_5, L_6, L_7, L_8, L_9, L_10, L_16, L_20, L_21, L_24, L_31, L_64, L_100, L_320, L_400, L_1000, L_256, nI_add, pk_mul, pk_sub, nI_clamp, vp_in_nI, nI_ge, nI_le, nI_lt, nI_nlt, qI_ne, qI_eq, qI_m1, q_all, qI_nm, qI_nm2]
    refine ⟨fun h9 => hk _ ?_, fun h9 => hk _ ?_⟩
    · show _ = if (bitN i w == v) = true then smW _ (whT V) i + whT V i else _
      rw [if_pos (by simpa using h9), ← hI]
      unfold whT; simp only [Int64.add_assoc]
    · show _ = if (bitN i w == v) = true then _ else smW _ (whT V) i
      rw [if_neg (by simpa using h9), hI]
theorem y_root {Q : Int64 → Prop} {n w v : Nat} {V : Nat → Int64} (hn : n < 5) (hw : w < 4) (hv : v < 2) (h : Q (smW (fun i => bitN i w == v) (roT V) (2 ^ n))) : wpX1_weightRoot Q (nI w) (nI v) (nI (2 ^ n)) V := by
  unfold wpX1_weightRoot
  have hb := p16 (n := n) (by omega)
  refine pk_loop (σ := Int64) (fun m i s => wpX1_weightRoot_5 Q (nI (2 ^ n)) V m (nI w) (nI v) s (nI i)) (fun i s => s = smW (fun i => bitN i w == v) (roT V) i) (2 ^ n) 0 0 (Nat.zero_le _) rfl ?_ ?_
  · intro m s hI
    simp (disch := omega) only [wpX1_weightRoot_5, wpX1_weightRoot_5b, not_true_eq_false, not_false_eq_true, forall_const, true_implies, false_implies, implies_true, and_true, true_and, and_self, Nat.not_lt_zero, ne_eq, if_true, if_false, reduceIte, Nat.reduceAdd, Nat.reduceMul, Nat.reduceSub, Nat.reduceLT, Nat.reduceLeDiff, Nat.reduceEqDiff, eq_self_iff_true, L_0, L_1, L_2, L_3, L_4, L_5, L_6, L_7, L_8, L_9, L_10, L_16, L_20, L_21, L_24, L_31, L_64, L_100, L_320, L_400, L_1000, L_256, nI_add, pk_mul, pk_sub, nI_clamp, vp_in_nI, nI_ge, nI_le, nI_lt, nI_nlt, qI_ne, qI_eq, qI_m1, q_all, qI_nm, qI_nm2]
    rw [hI]; exact h
  · intro m i s hi hI hk
    simp (disch := omega) only [wpX1_weightRoot_5, wpX1_weightRoot_5b, q_bit, q_biteq, not_true_eq_false, not_false_eq_true, forall_const, true_implies, false_implies, implies_true, and_true, true_and, and_self, Nat.not_lt_zero, ne_eq, if_true, if_false, reduceIte, Nat.reduceAdd, Nat.reduceMul, Nat.reduceSub, Nat.reduceLT, Nat.reduceLeDiff, Nat.reduceEqDiff, eq_self_iff_true, L_0, L_1, L_2, L_3, L_4, L_5, L_6, L_7, L_8, L_9, L_10, L_16, L_20, L_21, L_24, L_31, L_64, L_100, L_320, L_400, L_1000, L_256, nI_add, pk_mul, pk_sub, nI_clamp, vp_in_nI, nI_ge, nI_le, nI_lt, nI_nlt, qI_ne, qI_eq, qI_m1, q_all, qI_nm, qI_nm2]
    refine ⟨fun h9 => hk _ ?_, fun h9 => hk _ ?_⟩
    · show _ = if (bitN i w == v) = true then smW _ (roT V) i + roT V i else _
      rw [if_pos (by simpa using h9), ← hI]
      unfold roT; simp only [Int64.sub_eq_add_neg, Int64.add_assoc]
    · show _ = if (bitN i w == v) = true then _ else smW _ (roT V) i
      rw [if_neg (by simpa using h9), hI]
def anyV (n w v : Nat) (V : Nat → Int64) : Bool := !allN (fun k => !(bitN (k / 4) w == v && V k != 0)) (4 * 2 ^ n)
def kpV (n w v : Nat) (V : Nat → Int64) : Nat → Int64 := fun k => if k < 4 * 2 ^ n ∧ bitN (k / 4) w ≠ v then 0 else V k
theorem y_any {Q : Int32 → Prop} {n w v : Nat} {V : Nat → Int64} (hn : n < 5) (hw : w < 4) (hv : v < 2) (h : Q (if anyV n w v V then 1 else 0)) : wpX1_hasAny Q (nI w) (nI v) (nI (2 ^ n)) V := by
  unfold wpX1_hasAny
  have hb := p16 (n := n) (by omega)
  refine pk_loop (σ := Unit) (fun m i _ => wpX1_hasAny_2 Q (nI (2 ^ n)) V m (nI w) (nI v) (nI i)) (fun i _ => ∀ j, j < i → ¬ (bitN (j / 4) w = v ∧ V j ≠ 0)) (4 * 2 ^ n) 0 () (Nat.zero_le _) (fun j hj => absurd hj (by omega)) ?_ ?_
  · intro m s hI
    simp (disch := omega) only [wpX1_hasAny_2, wpX1_hasAny_2b, not_true_eq_false, not_false_eq_true, forall_const, true_implies, false_implies, implies_true, and_true, true_and, and_self, Nat.not_lt_zero, ne_eq, if_true, if_false, reduceIte, Nat.reduceAdd, Nat.reduceMul, Nat.reduceSub, Nat.reduceLT, Nat.reduceLeDiff, Nat.reduceEqDiff, eq_self_iff_true, L_0, L_1, L_2, L_3, L_4, L_5, L_6, L_7, L_8, L_9, L_10, L_16, L_20, L_21, L_24, L_31, L_64, L_100, L_320, L_400, L_1000, L_256, nI_add, pk_mul, pk_sub, nI_clamp, vp_in_nI, nI_ge, nI_le, nI_lt, nI_nlt, qI_ne, qI_eq, qI_m1, q_all, qI_nm, qI_nm2]
    have e : anyV n w v V = false := by
      unfold anyV
      rw [show allN (fun k => !(bitN (k / 4) w == v && V k != 0)) (4 * 2 ^ n) = true from allN_t.mpr (fun j hj => by have := hI j hj; simp at this ⊢; exact (Decidable.em (bitN (j / 4) w = v)).elim (fun e => Or.inr (this e)) Or.inl)]
      rfl
    rw [e] at h; exact h
  · intro m i s hi hI hk
    have e4 : nI i / nI 4 = nI (i / 4) := pk_div (by omega) (by omega) (by omega)
    simp (disch := omega) only [wpX1_hasAny_2, wpX1_hasAny_2b, e4, q_bit, q_biteq, not_true_eq_false, not_false_eq_true, forall_const, true_implies, false_implies, implies_true, and_true, true_and, and_self, Nat.not_lt_zero, ne_eq, if_true, if_false, reduceIte, Nat.reduceAdd, Nat.reduceMul, Nat.reduceSub, Nat.reduceLT, Nat.reduceLeDiff, Nat.reduceEqDiff, eq_self_iff_true, L_0, L_1, L_2, L_3, L_4, L_5, L_6, L_7, L_8, L_9, L_10, L_16, L_20, L_21, L_24, L_31, L_64, L_100, L_320, L_400, L_1000, L_256, nI_add, pk_mul, pk_sub, nI_clamp, vp_in_nI, nI_ge, nI_le, nI_lt, nI_nlt, qI_ne, qI_eq, qI_m1, q_all, qI_nm, qI_nm2]
    rw [← L_0, lg_cmp_eq]
    have nx : ¬ (bitN (i / 4) w = v ∧ V i ≠ 0) → ∀ j, j < i + 1 → ¬ (bitN (j / 4) w = v ∧ V j ≠ 0) := fun h9 j hj => by
      by_cases e : j = i
      · rw [e]; exact h9
      · exact hI j (by omega)
    refine ⟨fun h9 => ⟨fun h8 => hk () (nx (fun h7 => h7.2 h8)), fun h8 => ?_⟩, fun h9 => hk () (nx (fun h7 => h9 h7.1))⟩
    have e : anyV n w v V = true := by
      unfold anyV
      rw [allN_f hi (by simp [h9, h8])]
      rfl
    rw [e] at h; exact h
theorem y_keep {Q : (Nat → Int64) → Prop} {n w v : Nat} {V : Nat → Int64} (hn : n < 5) (hw : w < 4) (hv : v < 2) (h : Q (kpV n w v V)) : wpX1_keepOnly Q (nI w) (nI v) (nI (2 ^ n)) V := by
  unfold wpX1_keepOnly
  have hb := p16 (n := n) (by omega)
  refine pk_loop (σ := Nat → Int64) (fun m i s => wpX1_keepOnly_2 Q (nI (2 ^ n)) m (nI w) (nI v) (nI i) s) (fun i s => ∀ k, s k = if k < i ∧ bitN (k / 4) w ≠ v then 0 else V k) (4 * 2 ^ n) 0 V (Nat.zero_le _) (fun k => by rw [if_neg (by omega)]) ?_ ?_
  · intro m s hI
    simp (disch := omega) only [wpX1_keepOnly_2, wpX1_keepOnly_2b, not_true_eq_false, not_false_eq_true, forall_const, true_implies, false_implies, implies_true, and_true, true_and, and_self, Nat.not_lt_zero, ne_eq, if_true, if_false, reduceIte, Nat.reduceAdd, Nat.reduceMul, Nat.reduceSub, Nat.reduceLT, Nat.reduceLeDiff, Nat.reduceEqDiff, eq_self_iff_true, L_0, L_1, L_2, L_3, L_4, L_5, L_6, L_7, L_8, L_9, L_10, L_16, L_20, L_21, L_24, L_31, L_64, L_100, L_320, L_400, L_1000, L_256, nI_add, pk_mul, pk_sub, nI_clamp, vp_in_nI, nI_ge, nI_le, nI_lt, nI_nlt, qI_ne, qI_eq, qI_m1, q_all, qI_nm, qI_nm2]
    rw [show s = kpV n w v V from funext hI]; exact h
  · intro m i s hi hI hk
    have e4 : nI i / nI 4 = nI (i / 4) := pk_div (by omega) (by omega) (by omega)
    simp (disch := omega) only [wpX1_keepOnly_2, wpX1_keepOnly_2b, e4, q_bit, q_biteq, not_true_eq_false, not_false_eq_true, forall_const, true_implies, false_implies, implies_true, and_true, true_and, and_self, Nat.not_lt_zero, ne_eq, if_true, if_false, reduceIte, Nat.reduceAdd, Nat.reduceMul, Nat.reduceSub, Nat.reduceLT, Nat.reduceLeDiff, Nat.reduceEqDiff, eq_self_iff_true, L_0, L_1, L_2, L_3, L_4, L_5, L_6, L_7, L_8, L_9, L_10, L_16, L_20, L_21, L_24, L_31, L_64, L_100, L_320, L_400, L_1000, L_256, nI_add, pk_mul, pk_sub, nI_clamp, vp_in_nI, nI_ge, nI_le, nI_lt, nI_nlt, qI_ne, qI_eq, qI_m1, q_all, qI_nm, qI_nm2]
    refine ⟨fun h9 => hk _ (fun k => ?_), fun h9 => hk _ (fun k => ?_)⟩
    · rw [hI k]
      by_cases e : k = i
      · rw [e, if_neg (by omega), if_neg (fun h8 => h8.2 h9)]
      · by_cases e2 : k < i ∧ bitN (k / 4) w ≠ v
        · rw [if_pos e2, if_pos ⟨by omega, e2.2⟩]
        · rw [if_neg e2, if_neg (fun h8 => e2 ⟨by omega, h8.2⟩)]
    · by_cases e : k = i
      · rw [e, pk_uLs, if_pos ⟨by omega, h9⟩]
      · rw [pk_uLn e, hI k]
        by_cases e2 : k < i ∧ bitN (k / 4) w ≠ v
        · rw [if_pos e2, if_pos ⟨by omega, e2.2⟩]
        · rw [if_neg e2, if_neg (fun h8 => e2 ⟨by omega, h8.2⟩)]
