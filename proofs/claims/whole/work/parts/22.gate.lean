/-! Gates as numbers. -/
theorem s32 : ∀ n, n < 32 → ((nI n &&& nI 31).toBitVec.smod 32).toNat = n := by decide +kernel
theorem q_shl1 {k : Nat} (hk : k < 31) : nI 1 <<< (nI k &&& nI 31) = nI (2 ^ k) := by
  have h2 : 2 ^ k < 2 ^ 31 := Nat.pow_lt_pow_right (by omega) hk
  have h := pk_shlN (n := 1) (nI k &&& nI 31) k (s32 k (by omega)) (by omega)
  rw [h, Nat.one_mul]
theorem q_shr {n k : Nat} (h : n < 2 ^ 31) (hk : k < 32) : nI n >>> (nI k &&& nI 31) = nI (n / 2 ^ k) := pk_shrN h _ k (s32 k hk)
theorem q_and (a b : Nat) : nI a &&& nI b = nI (a &&& b) := by
  apply Int32.toBitVec_inj.1
  show BitVec.ofNat 32 a &&& BitVec.ofNat 32 b = BitVec.ofNat 32 (a &&& b)
  apply BitVec.eq_of_getLsbD_eq
  intro i hi
  simp [hi]
theorem q_xor (a b : Nat) : nI a ^^^ nI b = nI (a ^^^ b) := by
  apply Int32.toBitVec_inj.1
  show BitVec.ofNat 32 a ^^^ BitVec.ofNat 32 b = BitVec.ofNat 32 (a ^^^ b)
  apply BitVec.eq_of_getLsbD_eq
  intro i hi
  simp [hi]
theorem q_or (a b : Nat) : nI a ||| nI b = nI (a ||| b) := by
  apply Int32.toBitVec_inj.1
  show BitVec.ofNat 32 a ||| BitVec.ofNat 32 b = BitVec.ofNat 32 (a ||| b)
  apply BitVec.eq_of_getLsbD_eq
  intro i hi
  simp [hi]
theorem q_andz {a b : Nat} (ha : a < 2 ^ 31) : (nI (a &&& b) = nI 0) ↔ a &&& b = 0 :=
  nI_eq (Nat.lt_of_le_of_lt Nat.and_le_left ha) (by omega)
def kN (g : Nat) : Nat := g % 10
def aN (g : Nat) : Nat := g / 10 % 10
def bN (g : Nat) : Nat := g / 100 % 10
def cN (g : Nat) : Nat := g / 1000 % 10
def wsN (k : Nat) : Nat := if k = 9 then 3 else if k < 6 then 1 else 2
def wbN (g : Nat) : Nat := if wsN (kN g) < 2 then 2 ^ aN g else if wsN (kN g) < 3 then 2 ^ aN g ||| 2 ^ bN g else 2 ^ aN g ||| 2 ^ bN g ||| 2 ^ cN g
def tbN (g : Nat) : Nat := if kN g = 9 then 2 ^ cN g else if kN g = 6 then 2 ^ bN g else 2 ^ aN g
def cbN (g : Nat) : Nat := if kN g = 9 then 2 ^ aN g ||| 2 ^ bN g else if kN g = 6 then 2 ^ aN g else 0
def tuN (g : Nat) : Nat := if kN g = 3 then 1 else if kN g = 2 then 2 else if kN g = 5 then 4 else 0
def meN (g h : Nat) : Bool := kN g == kN h && (if kN g = 7 ∨ kN g = 8 then wbN g == wbN h else if kN g = 9 then cN g == cN h && wbN g == wbN h else g == h)
def onN (g : Nat) : Bool := decide (0 < tuN g) || kN g == 7
def slN (g h : Nat) : Bool := (kN h == 6 || kN h == 9) && (if tuN g = 0 then kN g == 4 && tbN h == wbN g else cbN h &&& wbN g != 0)
def paN (g h : Nat) : Bool := wbN g &&& wbN h == 0 || onN g && onN h || slN g h || slN h g
theorem y_ws : ∀ k, k < 10 → zvX2_wiresOf (nI k) = nI (wsN k) := by decide +kernel
theorem wsN_3 (k : Nat) : wsN k = 1 ∨ wsN k = 2 ∨ wsN k = 3 := by
  unfold wsN; split
  · simp
  · split <;> simp
theorem kN_lt (g : Nat) : kN g < 10 := Nat.mod_lt _ (by omega)
theorem aN_lt (g : Nat) : aN g < 10 := Nat.mod_lt _ (by omega)
theorem bN_lt (g : Nat) : bN g < 10 := Nat.mod_lt _ (by omega)
theorem cN_lt (g : Nat) : cN g < 10 := Nat.mod_lt _ (by omega)
theorem p_lt {k : Nat} (h : k < 10) : 2 ^ k < 1024 := Nat.pow_lt_pow_right (a := 2) (by omega) h
theorem wbN_lt (g : Nat) : wbN g < 1024 := by
  have ha := p_lt (aN_lt g); have hb := p_lt (bN_lt g); have hc := p_lt (cN_lt g)
  unfold wbN
  split
  · exact ha
  · split
    · exact Nat.or_lt_two_pow (n := 10) ha hb
    · exact Nat.or_lt_two_pow (n := 10) (Nat.or_lt_two_pow (n := 10) ha hb) hc
theorem tbN_lt (g : Nat) : tbN g < 1024 := by
  have ha := p_lt (aN_lt g); have hb := p_lt (bN_lt g); have hc := p_lt (cN_lt g)
  unfold tbN
  split
  · exact hc
  · split
    · exact hb
    · exact ha
theorem cbN_lt (g : Nat) : cbN g < 1024 := by
  have ha := p_lt (aN_lt g); have hb := p_lt (bN_lt g)
  unfold cbN
  split
  · exact Nat.or_lt_two_pow (n := 10) ha hb
  · split
    · exact ha
    · omega
theorem y_k {g : Nat} (h : g < 10000) : zvX2_kind (nI g) = nI (kN g) := y_kind h
theorem y_A {g : Nat} (h : g < 10000) : zvX2_a (nI g) = nI (aN g) := y_a h
theorem y_B {g : Nat} (h : g < 10000) : zvX2_b (nI g) = nI (bN g) := y_b h
theorem y_C {g : Nat} (h : g < 10000) : zvX2_c (nI g) = nI (cN g) := y_c h
theorem y_wb {g : Nat} (h : g < 10000) : zvX2_wireBits (nI g) = nI (wbN g) := by
  have hk := kN_lt g; have ha := aN_lt g; have hb := bN_lt g; have hc := cN_lt g
  unfold zvX2_wireBits wbN
  rw [y_k h, y_A h, y_B h, y_C h, y_ws _ hk]
  rcases wsN_3 (kN g) with e | e | e <;> simp (disch := omega) only [e, q_shl1, q_or, Nat.or_zero, not_true_eq_false, not_false_eq_true, forall_const, true_implies, false_implies, implies_true, and_true, true_and, and_self, Nat.not_lt_zero, ne_eq, if_true, if_false, reduceIte, Nat.reduceAdd, Nat.reduceMul, Nat.reduceSub, Nat.reduceLT, Nat.reduceLeDiff, Nat.reduceEqDiff, Nat.add_sub_cancel, eq_self_iff_true, L_0, L_1, L_2, L_3, L_4, L_5, L_6, L_7, L_8, L_9, L_10, L_16, L_20, L_21, L_24, L_31, L_64, L_100, L_320, L_400, L_1000, L_256, nI_add, pk_mul, pk_sub, nI_clamp, vp_in_nI, nI_ge, nI_le, nI_lt, nI_nlt, qI_ne, qI_eq, qI_m1, q_all, qI_nm, qI_nm2]
theorem y_tb {g : Nat} (h : g < 10000) : zvX2_targetBit (nI g) = nI (tbN g) := by
  have hk := kN_lt g; have ha := aN_lt g; have hb := bN_lt g; have hc := cN_lt g
  unfold zvX2_targetBit tbN
  rw [y_k h, y_A h, y_B h, y_C h]
  simp (disch := omega) only [nI_eq, q_shl1, not_true_eq_false, not_false_eq_true, forall_const, true_implies, false_implies, implies_true, and_true, true_and, and_self, Nat.not_lt_zero, ne_eq, if_true, if_false, reduceIte, Nat.reduceAdd, Nat.reduceMul, Nat.reduceSub, Nat.reduceLT, Nat.reduceLeDiff, Nat.reduceEqDiff, Nat.add_sub_cancel, eq_self_iff_true, L_0, L_1, L_2, L_3, L_4, L_5, L_6, L_7, L_8, L_9, L_10, L_16, L_20, L_21, L_24, L_31, L_64, L_100, L_320, L_400, L_1000, L_256, nI_add, pk_mul, pk_sub, nI_clamp, vp_in_nI, nI_ge, nI_le, nI_lt, nI_nlt, qI_ne, qI_eq, qI_m1, q_all, qI_nm, qI_nm2]
  split
  · rfl
  · split <;> rfl
theorem y_cb {g : Nat} (h : g < 10000) : zvX2_controlBits (nI g) = nI (cbN g) := by
  have hk := kN_lt g; have ha := aN_lt g; have hb := bN_lt g
  unfold zvX2_controlBits cbN
  rw [y_k h, y_A h, y_B h]
  simp (disch := omega) only [nI_eq, q_shl1, q_or, not_true_eq_false, not_false_eq_true, forall_const, true_implies, false_implies, implies_true, and_true, true_and, and_self, Nat.not_lt_zero, ne_eq, if_true, if_false, reduceIte, Nat.reduceAdd, Nat.reduceMul, Nat.reduceSub, Nat.reduceLT, Nat.reduceLeDiff, Nat.reduceEqDiff, Nat.add_sub_cancel, eq_self_iff_true, L_0, L_1, L_2, L_3, L_4, L_5, L_6, L_7, L_8, L_9, L_10, L_16, L_20, L_21, L_24, L_31, L_64, L_100, L_320, L_400, L_1000, L_256, nI_add, pk_mul, pk_sub, nI_clamp, vp_in_nI, nI_ge, nI_le, nI_lt, nI_nlt, qI_ne, qI_eq, qI_m1, q_all, qI_nm, qI_nm2]
  split
  · rfl
  · split <;> rfl
theorem y_tu {g : Nat} (h : g < 10000) : zvX2_turns (nI g) = nI (tuN g) := by
  have hk := kN_lt g
  unfold zvX2_turns tuN
  rw [y_k h]
  simp (disch := omega) only [nI_eq, not_true_eq_false, not_false_eq_true, forall_const, true_implies, false_implies, implies_true, and_true, true_and, and_self, Nat.not_lt_zero, ne_eq, if_true, if_false, reduceIte, Nat.reduceAdd, Nat.reduceMul, Nat.reduceSub, Nat.reduceLT, Nat.reduceLeDiff, Nat.reduceEqDiff, Nat.add_sub_cancel, eq_self_iff_true, L_0, L_1, L_2, L_3, L_4, L_5, L_6, L_7, L_8, L_9, L_10, L_16, L_20, L_21, L_24, L_31, L_64, L_100, L_320, L_400, L_1000, L_256, nI_add, pk_mul, pk_sub, nI_clamp, vp_in_nI, nI_ge, nI_le, nI_lt, nI_nlt, qI_ne, qI_eq, qI_m1, q_all, qI_nm, qI_nm2]
  split
  · rfl
  · split
    · rfl
    · split <;> rfl
theorem y_fl {g : Nat} (h : g < 10000) : zvX2_flips (nI g) = if kN g = 4 ∨ kN g = 6 ∨ kN g = 9 then 1 else 0 := by
  have hk := kN_lt g
  unfold zvX2_flips
  rw [y_k h]
  by_cases h4 : kN g = 4
  · simp (disch := omega) only [h4, true_or, not_true_eq_false, not_false_eq_true, forall_const, true_implies, false_implies, implies_true, and_true, true_and, and_self, Nat.not_lt_zero, ne_eq, if_true, if_false, reduceIte, Nat.reduceAdd, Nat.reduceMul, Nat.reduceSub, Nat.reduceLT, Nat.reduceLeDiff, Nat.reduceEqDiff, Nat.add_sub_cancel, eq_self_iff_true, L_0, L_1, L_2, L_3, L_4, L_5, L_6, L_7, L_8, L_9, L_10, L_16, L_20, L_21, L_24, L_31, L_64, L_100, L_320, L_400, L_1000, L_256, nI_add, pk_mul, pk_sub, nI_clamp, vp_in_nI, nI_ge, nI_le, nI_lt, nI_nlt, qI_ne, qI_eq, qI_m1, q_all, qI_nm, qI_nm2]
  · by_cases h6 : kN g = 6
    · simp (disch := omega) only [h6, true_or, or_true, false_or, not_true_eq_false, not_false_eq_true, forall_const, true_implies, false_implies, implies_true, and_true, true_and, and_self, Nat.not_lt_zero, ne_eq, if_true, if_false, reduceIte, Nat.reduceAdd, Nat.reduceMul, Nat.reduceSub, Nat.reduceLT, Nat.reduceLeDiff, Nat.reduceEqDiff, Nat.add_sub_cancel, eq_self_iff_true, L_0, L_1, L_2, L_3, L_4, L_5, L_6, L_7, L_8, L_9, L_10, L_16, L_20, L_21, L_24, L_31, L_64, L_100, L_320, L_400, L_1000, L_256, nI_add, pk_mul, pk_sub, nI_clamp, vp_in_nI, nI_ge, nI_le, nI_lt, nI_nlt, qI_ne, qI_eq, qI_m1, q_all, qI_nm, qI_nm2]
    · by_cases h9 : kN g = 9
      · simp (disch := omega) only [h9, or_true, false_or, not_true_eq_false, not_false_eq_true, forall_const, true_implies, false_implies, implies_true, and_true, true_and, and_self, Nat.not_lt_zero, ne_eq, if_true, if_false, reduceIte, Nat.reduceAdd, Nat.reduceMul, Nat.reduceSub, Nat.reduceLT, Nat.reduceLeDiff, Nat.reduceEqDiff, Nat.add_sub_cancel, eq_self_iff_true, L_0, L_1, L_2, L_3, L_4, L_5, L_6, L_7, L_8, L_9, L_10, L_16, L_20, L_21, L_24, L_31, L_64, L_100, L_320, L_400, L_1000, L_256, nI_add, pk_mul, pk_sub, nI_clamp, vp_in_nI, nI_ge, nI_le, nI_lt, nI_nlt, qI_ne, qI_eq, qI_m1, q_all, qI_nm, qI_nm2]
      · simp (disch := omega) only [h4, h6, h9, or_self, not_true_eq_false, not_false_eq_true, forall_const, true_implies, false_implies, implies_true, and_true, true_and, and_self, Nat.not_lt_zero, ne_eq, if_true, if_false, reduceIte, Nat.reduceAdd, Nat.reduceMul, Nat.reduceSub, Nat.reduceLT, Nat.reduceLeDiff, Nat.reduceEqDiff, Nat.add_sub_cancel, eq_self_iff_true, L_0, L_1, L_2, L_3, L_4, L_5, L_6, L_7, L_8, L_9, L_10, L_16, L_20, L_21, L_24, L_31, L_64, L_100, L_320, L_400, L_1000, L_256, nI_add, pk_mul, pk_sub, nI_clamp, vp_in_nI, nI_ge, nI_le, nI_lt, nI_nlt, qI_ne, qI_eq, qI_m1, q_all, qI_nm, qI_nm2]
theorem tuN_lt (g : Nat) : tuN g < 5 := by
  unfold tuN; split
  · omega
  · split
    · omega
    · split <;> omega
theorem y_me {g h : Nat} (hg : g < 10000) (hh : h < 10000) : zvX2_meet (nI g) (nI h) = if meN g h then 1 else 0 := by
  have k1 := kN_lt g; have k2 := kN_lt h
  have w1 := wbN_lt g; have w2 := wbN_lt h; have c1 := cN_lt g; have c2 := cN_lt h
  unfold zvX2_meet meN
  rw [y_k hg, y_k hh, y_wb hg, y_wb hh, y_C hg, y_C hh]
  simp (disch := omega) only [nI_eq, not_true_eq_false, not_false_eq_true, forall_const, true_implies, false_implies, implies_true, and_true, true_and, and_self, Nat.not_lt_zero, ne_eq, if_true, if_false, reduceIte, Nat.reduceAdd, Nat.reduceMul, Nat.reduceSub, Nat.reduceLT, Nat.reduceLeDiff, Nat.reduceEqDiff, Nat.add_sub_cancel, eq_self_iff_true, L_0, L_1, L_2, L_3, L_4, L_5, L_6, L_7, L_8, L_9, L_10, L_16, L_20, L_21, L_24, L_31, L_64, L_100, L_320, L_400, L_1000, L_256, nI_add, pk_mul, pk_sub, nI_clamp, vp_in_nI, nI_ge, nI_le, nI_lt, nI_nlt, qI_ne, qI_eq, qI_m1, q_all, qI_nm, qI_nm2]
  by_cases e : kN g = kN h
  · by_cases e7 : kN g = 7
    · simp [e7, e, ← e]
    · by_cases e8 : kN g = 8
      · simp [e8, e, ← e]
      · by_cases e9 : kN g = 9
        · by_cases ec : cN g = cN h
          · simp [e9, ec, ← e]
          · simp [e9, ec, ← e]
        · simp [e7, e8, e9, ← e]
  · simp [e]
theorem y_on {g : Nat} (h : g < 10000) : zvX2_onlyTurns (nI g) = if onN g then 1 else 0 := by
  have hk := kN_lt g; have ht := tuN_lt g
  unfold zvX2_onlyTurns onN
  rw [y_k h, y_tu h]
  simp (disch := omega) only [nI_eq, nI_ltI, not_true_eq_false, not_false_eq_true, forall_const, true_implies, false_implies, implies_true, and_true, true_and, and_self, Nat.not_lt_zero, ne_eq, if_true, if_false, reduceIte, Nat.reduceAdd, Nat.reduceMul, Nat.reduceSub, Nat.reduceLT, Nat.reduceLeDiff, Nat.reduceEqDiff, Nat.add_sub_cancel, eq_self_iff_true, L_0, L_1, L_2, L_3, L_4, L_5, L_6, L_7, L_8, L_9, L_10, L_16, L_20, L_21, L_24, L_31, L_64, L_100, L_320, L_400, L_1000, L_256, nI_add, pk_mul, pk_sub, nI_clamp, vp_in_nI, nI_ge, nI_le, nI_lt, nI_nlt, qI_ne, qI_eq, qI_m1, q_all, qI_nm, qI_nm2]
  by_cases e : 0 < tuN g
  · simp [e]
  · simp [e]
theorem y_sl {g h : Nat} (hg : g < 10000) (hh : h < 10000) : zvX2_slipsBy (nI g) (nI h) = if slN g h then 1 else 0 := by
  have k1 := kN_lt g; have k2 := kN_lt h; have ht := tuN_lt g
  have w1 := wbN_lt g; have w2 := tbN_lt h; have w3 := cbN_lt h
  unfold zvX2_slipsBy slN
  rw [y_k hg, y_k hh, y_wb hg, y_tb hh, y_cb hh, y_tu hg, q_and]
  simp (disch := omega) only [nI_eq, nI_leI, q_andz, not_true_eq_false, not_false_eq_true, forall_const, true_implies, false_implies, implies_true, and_true, true_and, and_self, Nat.not_lt_zero, ne_eq, if_true, if_false, reduceIte, Nat.reduceAdd, Nat.reduceMul, Nat.reduceSub, Nat.reduceLT, Nat.reduceLeDiff, Nat.reduceEqDiff, Nat.add_sub_cancel, eq_self_iff_true, L_0, L_1, L_2, L_3, L_4, L_5, L_6, L_7, L_8, L_9, L_10, L_16, L_20, L_21, L_24, L_31, L_64, L_100, L_320, L_400, L_1000, L_256, nI_add, pk_mul, pk_sub, nI_clamp, vp_in_nI, nI_ge, nI_le, nI_lt, nI_nlt, qI_ne, qI_eq, qI_m1, q_all, qI_nm, qI_nm2]
  by_cases e6 : kN h = 6
  · by_cases et : tuN g = 0
    · by_cases e4 : kN g = 4
      · simp [e6, et, e4]
      · simp [e6, et, e4]
    · have : ¬ tuN g ≤ 0 := by omega
      simp [e6, et]
  · by_cases e9 : kN h = 9
    · by_cases et : tuN g = 0
      · by_cases e4 : kN g = 4
        · simp [e9, et, e4]
        · simp [e9, et, e4]
      · simp [e9, et]
    · simp [e6, e9]
theorem z10 (b : Bool) : ((if b = true then (1 : Int32) else 0) = 0) ↔ b = false := by cases b <;> simp
theorem y_pa {g h : Nat} (hg : g < 10000) (hh : h < 10000) : zvX2_pass (nI g) (nI h) = if paN g h then 1 else 0 := by
  have w1 := wbN_lt g
  unfold zvX2_pass paN
  rw [y_wb hg, y_wb hh, y_on hg, y_on hh, y_sl hg hh, y_sl hh hg, q_and]
  simp only [z10]
  have ez : ((nI (wbN g &&& wbN h) = 0) ↔ wbN g &&& wbN h = 0) := q_andz (by omega)
  simp only [ez]
  by_cases e : wbN g &&& wbN h = 0
  · simp [e]
  · cases onN g <;> cases onN h <;> cases slN g h <;> cases slN h g <;> simp [e]
def gi (k a : Nat) : Nat := k + 10 * a
def unN (g : Nat) : Option Nat := if kN g = 3 then some (gi 2 (aN g)) else if kN g = 2 then some (gi 5 (aN g)) else none
theorem y_of1 {k a : Nat} (hk : k < 6) (ha : a < 10) (b c : Int32) : zvX2_of (nI k) (nI a) b c = nI (gi k a) := by
  have e : zvX2_wiresOf (nI k) = nI 1 := by rw [y_ws k (by omega)]; unfold wsN; rw [if_neg (by omega), if_pos hk]
  unfold zvX2_of gi
  simp (disch := omega) only [e, not_true_eq_false, not_false_eq_true, forall_const, true_implies, false_implies, implies_true, and_true, true_and, and_self, Nat.not_lt_zero, ne_eq, if_true, if_false, reduceIte, Nat.reduceAdd, Nat.reduceMul, Nat.reduceSub, Nat.reduceLT, Nat.reduceLeDiff, Nat.reduceEqDiff, Nat.add_sub_cancel, eq_self_iff_true, L_0, L_1, L_2, L_3, L_4, L_5, L_6, L_7, L_8, L_9, L_10, L_16, L_20, L_21, L_24, L_31, L_64, L_100, L_320, L_400, L_1000, L_256, nI_add, pk_mul, pk_sub, nI_clamp, vp_in_nI, nI_ge, nI_le, nI_lt, nI_nlt, qI_ne, qI_eq, qI_m1, q_all, qI_nm, qI_nm2]
theorem y_un {g : Nat} (h : g < 10000) : zvX2_united (nI g) = match unN g with | none => -1 | some u => nI u := by
  have hk := kN_lt g; have ha := aN_lt g
  unfold zvX2_united unN
  rw [y_k h, y_A h]
  by_cases e3 : kN g = 3
  · rw [if_pos (by rw [e3]; rfl), if_pos e3]
    exact y_of1 (k := 2) (by omega) ha _ _
  · have n3 : ¬ nI (kN g) = 3 := fun e => e3 ((nI_eq (by omega) (by omega)).mp (e.trans L_3))
    rw [if_neg n3, if_neg e3]
    by_cases e2 : kN g = 2
    · rw [if_pos (by rw [e2]; rfl), if_pos e2]
      exact y_of1 (k := 5) (by omega) ha _ _
    · have n2 : ¬ nI (kN g) = 2 := fun e => e2 ((nI_eq (by omega) (by omega)).mp (e.trans L_2))
      rw [if_neg n2, if_neg e2]
