/-! Columns: rows of four parts. -/
def prV (F : Int64 → Int64 → Int64 × Int64) (i j : Nat) (V : Nat → Int64) : Nat → Int64 := fun k => if k / 4 = i then (F (V k) (V (4 * j + k % 4))).1 else if k / 4 = j then (F (V (4 * i + k % 4)) (V k)).2 else V k
def mixF (x y : Int64) : Int64 × Int64 := (x + y, x - y)
def exF (x y : Int64) : Int64 × Int64 := (y, x)
def w1 (i : Nat) (V : Nat → Int64) : Nat → Int64 := fun k => if k / 4 = i then (if k % 4 = 0 then -(V (4 * i + 3)) else V (k - 1)) else V k
def tuV : Nat → Nat → (Nat → Int64) → Nat → Int64
  | 0, _, V => V
  | t + 1, i, V => tuV t i (w1 i V)
def grV (i : Nat) (V : Nat → Int64) : Nat → Int64 := fun k => if k / 4 = i then (if k % 4 = 0 then V (4 * i + 1) - V (4 * i + 3) else if k % 4 = 1 then V (4 * i) + V (4 * i + 2) else if k % 4 = 2 then V (4 * i + 1) + V (4 * i + 3) else V (4 * i + 2) - V (4 * i)) else V k
def foN {α : Type} (st : Nat → α → α) : Nat → α → α
  | 0, V => V
  | m + 1, V => st m (foN st m V)
def prI (F : Int64 → Int64 → Int64 × Int64) (i j : Nat) (f : Nat → Int64) (p : Nat) (s : Nat → Int64) : Prop := ∀ k, s k = if (k / 4 = i ∨ k / 4 = j) ∧ k % 4 < p then prV F i j f k else f k
theorem prI_0 {F : Int64 → Int64 → Int64 × Int64} {i j : Nat} {f : Nat → Int64} : prI F i j f 0 f := fun k => by rw [if_neg (by omega)]
theorem prI_4 {F : Int64 → Int64 → Int64 × Int64} {i j : Nat} {f s : Nat → Int64} (h : prI F i j f 4 s) : s = prV F i j f := by
  funext k
  rw [h k]
  by_cases e : k / 4 = i ∨ k / 4 = j
  · rw [if_pos ⟨e, by omega⟩]
  · rw [if_neg (by omega)]
    unfold prV; rw [if_neg (by omega), if_neg (by omega)]
theorem prI_s {F : Int64 → Int64 → Int64 × Int64} {i j p : Nat} {f s : Nat → Int64} (hij : i ≠ j) (hp : p < 4) (h : prI F i j f p s) : s (4 * i + p) = f (4 * i + p) ∧ s (4 * j + p) = f (4 * j + p) ∧ ∀ s' : Nat → Int64, (∀ k, s' k = if k = 4 * i + p then (F (f (4 * i + p)) (f (4 * j + p))).1 else if k = 4 * j + p then (F (f (4 * i + p)) (f (4 * j + p))).2 else s k) → prI F i j f (p + 1) s' := by
  refine ⟨by rw [h]; rw [if_neg (by omega)], by rw [h]; rw [if_neg (by omega)], fun s' h' k => ?_⟩
  rw [h' k]
  by_cases e1 : k = 4 * i + p
  · have a1 : k / 4 = i := by omega
    have a2 : k % 4 = p := by omega
    rw [if_pos e1, if_pos ⟨Or.inl a1, by omega⟩]
    unfold prV; rw [if_pos a1, a2, e1]
  · by_cases e2 : k = 4 * j + p
    · have a1 : k / 4 = j := by omega
      have a2 : k % 4 = p := by omega
      rw [if_neg e1, if_pos e2, if_pos ⟨Or.inr a1, by omega⟩]
      unfold prV; rw [if_neg (by omega), if_pos a1, a2, e2]
    · rw [if_neg e1, if_neg e2, h k]
      by_cases e3 : (k / 4 = i ∨ k / 4 = j) ∧ k % 4 < p
      · rw [if_pos e3, if_pos ⟨e3.1, by omega⟩]
      · rw [if_neg e3, if_neg (by omega)]
theorem up2 {s : Nat → Int64} {a b k : Nat} {x y : Int64} : (vp_updL (vp_updL s b y) a x) k = if k = a then x else if k = b then y else s k := rfl
theorem up2' {s : Nat → Int64} {a b k : Nat} {x y : Int64} (h : a ≠ b) : (vp_updL (vp_updL s a x) b y) k = if k = a then x else if k = b then y else s k := by
  unfold vp_updL
  by_cases e1 : k = a
  · rw [if_neg (by omega), if_pos e1, if_pos e1]
  · by_cases e2 : k = b
    · rw [if_pos e2, if_neg e1, if_pos e2]
    · rw [if_neg e2, if_neg e1, if_neg e1, if_neg e2]
theorem y_mixPair {Q : (Nat → Int64) → Prop} {i j : Nat} {f : Nat → Int64} (hi : i < 16) (hj : j < 16) (hij : i ≠ j) (h : Q (prV mixF i j f)) : wpX1_mixPair Q (nI (4 * i)) (nI (4 * j)) f := by
  unfold wpX1_mixPair
  refine pk_loop (σ := Nat → Int64) (fun n p s => wpX1_mixPair_2 Q n (nI (4 * i)) (nI (4 * j)) (nI p) s) (prI mixF i j f) 4 0 f (by omega) prI_0 ?_ ?_
  · intro n s hI
    simp (disch := omega) only [wpX1_mixPair_2, wpX1_mixPair_2b, not_true_eq_false, not_false_eq_true, forall_const, true_implies, false_implies, implies_true, and_true, true_and, and_self, Nat.not_lt_zero, ne_eq, if_true, if_false, reduceIte, Nat.reduceAdd, Nat.reduceMul, Nat.reduceSub, Nat.reduceLT, Nat.reduceLeDiff, Nat.reduceEqDiff, eq_self_iff_true, L_0, L_1, L_2, L_3, L_4, L_5, L_6, L_7, L_8, L_9, L_10, L_16, L_20, L_21, L_24, L_31, L_64, L_100, L_320, L_400, L_1000, L_256, nI_add, pk_mul, pk_sub, nI_clamp, vp_in_nI, nI_ge, nI_le, nI_lt, nI_nlt, qI_ne, qI_eq, qI_m1, q_all, qI_nm, qI_nm2]
    rw [prI_4 hI]; exact h
  · intro n p s hp hI hk
    obtain ⟨a1, a2, a3⟩ := prI_s hij hp hI
    simp (disch := omega) only [wpX1_mixPair_2, wpX1_mixPair_2b, not_true_eq_false, not_false_eq_true, forall_const, true_implies, false_implies, implies_true, and_true, true_and, and_self, Nat.not_lt_zero, ne_eq, if_true, if_false, reduceIte, Nat.reduceAdd, Nat.reduceMul, Nat.reduceSub, Nat.reduceLT, Nat.reduceLeDiff, Nat.reduceEqDiff, eq_self_iff_true, L_0, L_1, L_2, L_3, L_4, L_5, L_6, L_7, L_8, L_9, L_10, L_16, L_20, L_21, L_24, L_31, L_64, L_100, L_320, L_400, L_1000, L_256, nI_add, pk_mul, pk_sub, nI_clamp, vp_in_nI, nI_ge, nI_le, nI_lt, nI_nlt, qI_ne, qI_eq, qI_m1, q_all, qI_nm, qI_nm2]
    exact hk _ (a3 _ (fun k => by rw [up2, a1, a2]; rfl))
theorem y_exchange {Q : (Nat → Int64) → Prop} {i j : Nat} {f : Nat → Int64} (hi : i < 16) (hj : j < 16) (hij : i ≠ j) (h : Q (prV exF i j f)) : wpX1_exchange Q (nI (4 * i)) (nI (4 * j)) f := by
  unfold wpX1_exchange
  refine pk_loop (σ := Nat → Int64) (fun n p s => wpX1_exchange_2 Q n (nI (4 * i)) (nI (4 * j)) (nI p) s) (prI exF i j f) 4 0 f (by omega) prI_0 ?_ ?_
  · intro n s hI
    simp (disch := omega) only [wpX1_exchange_2, wpX1_exchange_2b, not_true_eq_false, not_false_eq_true, forall_const, true_implies, false_implies, implies_true, and_true, true_and, and_self, Nat.not_lt_zero, ne_eq, if_true, if_false, reduceIte, Nat.reduceAdd, Nat.reduceMul, Nat.reduceSub, Nat.reduceLT, Nat.reduceLeDiff, Nat.reduceEqDiff, eq_self_iff_true, L_0, L_1, L_2, L_3, L_4, L_5, L_6, L_7, L_8, L_9, L_10, L_16, L_20, L_21, L_24, L_31, L_64, L_100, L_320, L_400, L_1000, L_256, nI_add, pk_mul, pk_sub, nI_clamp, vp_in_nI, nI_ge, nI_le, nI_lt, nI_nlt, qI_ne, qI_eq, qI_m1, q_all, qI_nm, qI_nm2]
    rw [prI_4 hI]; exact h
  · intro n p s hp hI hk
    obtain ⟨a1, a2, a3⟩ := prI_s hij hp hI
    simp (disch := omega) only [wpX1_exchange_2, wpX1_exchange_2b, not_true_eq_false, not_false_eq_true, forall_const, true_implies, false_implies, implies_true, and_true, true_and, and_self, Nat.not_lt_zero, ne_eq, if_true, if_false, reduceIte, Nat.reduceAdd, Nat.reduceMul, Nat.reduceSub, Nat.reduceLT, Nat.reduceLeDiff, Nat.reduceEqDiff, eq_self_iff_true, L_0, L_1, L_2, L_3, L_4, L_5, L_6, L_7, L_8, L_9, L_10, L_16, L_20, L_21, L_24, L_31, L_64, L_100, L_320, L_400, L_1000, L_256, nI_add, pk_mul, pk_sub, nI_clamp, vp_in_nI, nI_ge, nI_le, nI_lt, nI_nlt, qI_ne, qI_eq, qI_m1, q_all, qI_nm, qI_nm2]
    exact hk _ (a3 _ (fun k => by rw [up2' (by omega), a1, a2]; rfl))
theorem row4 {i k : Nat} (h : k / 4 = i) : k = 4 * i ∨ k = 4 * i + 1 ∨ k = 4 * i + 2 ∨ k = 4 * i + 3 := by omega
theorem w1_eq {i : Nat} {f : Nat → Int64} : vp_updL (vp_updL (vp_updL (vp_updL f (4 * i + 3) (f (4 * i + 2))) (4 * i + 2) (f (4 * i + 1))) (4 * i + 1) (f (4 * i))) (4 * i) (-(f (4 * i + 3))) = w1 i f := by
  funext k
  unfold vp_updL w1
  by_cases e : k / 4 = i
  · rcases row4 e with e1 | e1 | e1 | e1
    · rw [if_pos e1, if_pos e, if_pos (by omega)]
    · rw [if_neg (by omega), if_pos e1, if_pos e, if_neg (by omega), show k - 1 = 4 * i by omega]
    · rw [if_neg (by omega), if_neg (by omega), if_pos e1, if_pos e, if_neg (by omega), show k - 1 = 4 * i + 1 by omega]
    · rw [if_neg (by omega), if_neg (by omega), if_neg (by omega), if_pos e1, if_pos e, if_neg (by omega), show k - 1 = 4 * i + 2 by omega]
  · rw [if_neg (by omega), if_neg (by omega), if_neg (by omega), if_neg (by omega), if_neg e]
theorem tuV_s (t i : Nat) (V : Nat → Int64) : tuV (t + 1) i V = w1 i (tuV t i V) := by
  induction t generalizing V with
  | zero => rfl
  | succ t ih => show tuV (t + 1) i (w1 i V) = _; rw [ih (w1 i V)]; rfl
theorem uL {s : Nat → Int64} {a b : Nat} {x : Int64} (h : b ≠ a) : vp_updL s a x b = s b := if_neg h
theorem y_turnOne {Q : (Nat → Int64) → Prop} {i t : Nat} {f : Nat → Int64} (hi : i < 16) (ht : t < 8) (h : Q (tuV t i f)) : wpX1_turnOne Q (nI (4 * i)) (nI t) f := by
  unfold wpX1_turnOne
  refine pk_loop (σ := Nat → Int64) (fun n p s => wpX1_turnOne_2 Q n (nI (4 * i)) (nI t) (nI p) s) (fun p s => s = tuV p i f) t 0 f (by omega) rfl ?_ ?_
  · intro n s hI
    simp (disch := omega) only [wpX1_turnOne_2, wpX1_turnOne_2b, not_true_eq_false, not_false_eq_true, forall_const, true_implies, false_implies, implies_true, and_true, true_and, and_self, Nat.not_lt_zero, ne_eq, if_true, if_false, reduceIte, Nat.reduceAdd, Nat.reduceMul, Nat.reduceSub, Nat.reduceLT, Nat.reduceLeDiff, Nat.reduceEqDiff, eq_self_iff_true, L_0, L_1, L_2, L_3, L_4, L_5, L_6, L_7, L_8, L_9, L_10, L_16, L_20, L_21, L_24, L_31, L_64, L_100, L_320, L_400, L_1000, L_256, nI_add, pk_mul, pk_sub, nI_clamp, vp_in_nI, nI_ge, nI_le, nI_lt, nI_nlt, qI_ne, qI_eq, qI_m1, q_all, qI_nm, qI_nm2]
    rw [hI]; exact h
  · intro n p s hp hI hk
    simp (disch := omega) only [wpX1_turnOne_2, wpX1_turnOne_2b, not_true_eq_false, not_false_eq_true, forall_const, true_implies, false_implies, implies_true, and_true, true_and, and_self, Nat.not_lt_zero, ne_eq, if_true, if_false, reduceIte, Nat.reduceAdd, Nat.reduceMul, Nat.reduceSub, Nat.reduceLT, Nat.reduceLeDiff, Nat.reduceEqDiff, eq_self_iff_true, L_0, L_1, L_2, L_3, L_4, L_5, L_6, L_7, L_8, L_9, L_10, L_16, L_20, L_21, L_24, L_31, L_64, L_100, L_320, L_400, L_1000, L_256, nI_add, pk_mul, pk_sub, nI_clamp, vp_in_nI, nI_ge, nI_le, nI_lt, nI_nlt, qI_ne, qI_eq, qI_m1, q_all, qI_nm, qI_nm2]
    refine hk _ ?_
    rw [uL (a := 4 * i + 3) (b := 4 * i + 1) (by omega), uL (a := 4 * i + 2) (b := 4 * i) (by omega), uL (a := 4 * i + 3) (b := 4 * i) (by omega), w1_eq, hI, tuV_s]
theorem gr_eq {i : Nat} {f : Nat → Int64} : vp_updL (vp_updL (vp_updL (vp_updL f (4 * i) (f (4 * i + 1) - f (4 * i + 3))) (4 * i + 1) (f (4 * i) + f (4 * i + 2))) (4 * i + 2) (f (4 * i + 1) + f (4 * i + 3))) (4 * i + 3) (f (4 * i + 2) - f (4 * i)) = grV i f := by
  funext k
  unfold vp_updL grV
  by_cases e : k / 4 = i
  · rcases row4 e with e1 | e1 | e1 | e1
    · rw [if_neg (by omega), if_neg (by omega), if_neg (by omega), if_pos e1, if_pos e, if_pos (by omega)]
    · rw [if_neg (by omega), if_neg (by omega), if_pos e1, if_pos e, if_neg (by omega), if_pos (by omega)]
    · rw [if_neg (by omega), if_pos e1, if_pos e, if_neg (by omega), if_neg (by omega), if_pos (by omega)]
    · rw [if_pos e1, if_pos e, if_neg (by omega), if_neg (by omega), if_neg (by omega)]
  · rw [if_neg (by omega), if_neg (by omega), if_neg (by omega), if_neg (by omega), if_neg e]
theorem y_timesRoot {Q : (Nat → Int64) → Prop} {i : Nat} {f : Nat → Int64} (hi : i < 16) (h : Q (grV i f)) : wpX1_timesRoot Q (nI (4 * i)) f := by
  rw [← gr_eq] at h
  simp (disch := omega) only [wpX1_timesRoot, not_true_eq_false, not_false_eq_true, forall_const, true_implies, false_implies, implies_true, and_true, true_and, and_self, Nat.not_lt_zero, ne_eq, if_true, if_false, reduceIte, Nat.reduceAdd, Nat.reduceMul, Nat.reduceSub, Nat.reduceLT, Nat.reduceLeDiff, Nat.reduceEqDiff, eq_self_iff_true, L_0, L_1, L_2, L_3, L_4, L_5, L_6, L_7, L_8, L_9, L_10, L_16, L_20, L_21, L_24, L_31, L_64, L_100, L_320, L_400, L_1000, L_256, nI_add, pk_mul, pk_sub, nI_clamp, vp_in_nI, nI_ge, nI_le, nI_lt, nI_nlt, qI_ne, qI_eq, qI_m1, q_all, qI_nm, qI_nm2]
  exact h
theorem p16 {n : Nat} (h : n ≤ 4) : 2 ^ n ≤ 16 := Nat.pow_le_pow_right (n := 2) (by omega) h
theorem y_raise {Q : Int32 → (Nat → Int64) → Prop} {n e : Nat} {f : Nat → Int64} (hn : n ≤ 4) (h : Q (nI (e + 1)) (foN grV (2 ^ n) f)) : wpX1_raise Q (nI (2 ^ n)) (nI e) f := by
  unfold wpX1_raise
  have hb := p16 hn
  refine pk_loop (σ := Nat → Int64) (fun m i s => wpX1_raise_2 Q (nI (2 ^ n)) m (nI i) (nI e) s) (fun i s => s = foN grV i f) (2 ^ n) 0 f (Nat.zero_le _) rfl ?_ ?_
  · intro m s hI
    simp (disch := omega) only [wpX1_raise_2, wpX1_raise_2b, not_true_eq_false, not_false_eq_true, forall_const, true_implies, false_implies, implies_true, and_true, true_and, and_self, Nat.not_lt_zero, ne_eq, if_true, if_false, reduceIte, Nat.reduceAdd, Nat.reduceMul, Nat.reduceSub, Nat.reduceLT, Nat.reduceLeDiff, Nat.reduceEqDiff, eq_self_iff_true, L_0, L_1, L_2, L_3, L_4, L_5, L_6, L_7, L_8, L_9, L_10, L_16, L_20, L_21, L_24, L_31, L_64, L_100, L_320, L_400, L_1000, L_256, nI_add, pk_mul, pk_sub, nI_clamp, vp_in_nI, nI_ge, nI_le, nI_lt, nI_nlt, qI_ne, qI_eq, qI_m1, q_all, qI_nm, qI_nm2]
    rw [hI]; exact h
  · intro m i s hi hI hk
    simp (disch := omega) only [wpX1_raise_2, wpX1_raise_2b, not_true_eq_false, not_false_eq_true, forall_const, true_implies, false_implies, implies_true, and_true, true_and, and_self, Nat.not_lt_zero, ne_eq, if_true, if_false, reduceIte, Nat.reduceAdd, Nat.reduceMul, Nat.reduceSub, Nat.reduceLT, Nat.reduceLeDiff, Nat.reduceEqDiff, eq_self_iff_true, L_0, L_1, L_2, L_3, L_4, L_5, L_6, L_7, L_8, L_9, L_10, L_16, L_20, L_21, L_24, L_31, L_64, L_100, L_320, L_400, L_1000, L_256, nI_add, pk_mul, pk_sub, nI_clamp, vp_in_nI, nI_ge, nI_le, nI_lt, nI_nlt, qI_ne, qI_eq, qI_m1, q_all, qI_nm, qI_nm2]
    exact y_timesRoot (by omega) (hk _ (by rw [hI]; rfl))
/-- one basis state's part of what a gate does -/
def stG (g i : Nat) (V : Nat → Int64) : Nat → Int64 :=
  if kN g = 1 then (if i &&& 2 ^ aN g = 0 then prV mixF i (i ||| 2 ^ aN g) V else V)
  else if kN g = 8 then (if i &&& 2 ^ aN g ≠ 0 ∧ i &&& 2 ^ bN g = 0 then prV exF i (i ^^^ 2 ^ aN g ^^^ 2 ^ bN g) V else V)
  else if kN g = 4 ∨ kN g = 6 ∨ kN g = 9 then (if i &&& cbN g = cbN g ∧ i &&& tbN g = 0 then prV exF i (i ||| tbN g) V else V)
  else (if i &&& wbN g = wbN g then tuV (if kN g = 7 then 4 else tuN g) i V else V)
def actV (n g : Nat) (V : Nat → Int64) : Nat → Int64 := foN (stG g) (2 ^ n) V
/-- a gate with wires that there are -/
def gv (n g : Nat) : Bool := (1 ≤ kN g) && (kN g ≤ 9) && (aN g < n) && (if kN g < 6 then g == kN g + 10 * aN g else if kN g < 9 then (bN g < n) && bN g != aN g && g == kN g + 10 * aN g + 100 * bN g else (bN g < n) && bN g != aN g && (cN g < n) && cN g != aN g && cN g != bN g && g == kN g + 10 * aN g + 100 * bN g + 1000 * cN g)
