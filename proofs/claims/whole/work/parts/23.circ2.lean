/-! The program's circuits: one wire, inverse, expanding. -/
def oneW (L : List Nat) : Bool := L.all (fun g => decide (kN g ≤ 5) && aN g == aN (L.getD 0 0))
theorem oneW_f {L : List Nat} {i : Nat} (hi : i < L.length) (h : ¬ (kN (L.getD i 0) ≤ 5 ∧ aN (L.getD i 0) = aN (L.getD 0 0))) : oneW L = false := by
  unfold oneW
  rw [List.all_eq_false]
  exact ⟨_, g_mem hi, by simpa using h⟩
theorem oneW_t {L : List Nat} (h : ∀ i, i < L.length → kN (L.getD i 0) ≤ 5 ∧ aN (L.getD i 0) = aN (L.getD 0 0)) : oneW L = true := by
  unfold oneW
  rw [List.all_eq_true]
  intro g hg
  obtain ⟨i, hi, e⟩ := g_of (d := 0) hg
  have := h i hi
  rw [e] at this
  simpa using this
theorem y_oneW {Q : Int32 → Prop} {c : Int32} {f : Nat → Int32} {L : List Nat} (hC : CR c f L) (h : Q (if oneW L then 1 else 0)) : wpX0_isOnOneWire Q c f := by
  unfold wpX0_isOnOneWire
  have hl := hC.2.1
  obtain ⟨rfl, -, hf⟩ := hC
  refine pk_loop (σ := Unit) (fun n i _ => wpX0_isOnOneWire_2 Q (nI L.length) f n (nI i)) (fun i _ => ∀ j, j < i → kN (L.getD j 0) ≤ 5 ∧ aN (L.getD j 0) = aN (L.getD 0 0)) L.length 0 () (Nat.zero_le _) (fun j hj => absurd hj (Nat.not_lt_zero _)) ?_ ?_
  · intro n s hI
    simp (disch := omega) only [wpX0_isOnOneWire_2, wpX0_isOnOneWire_2b, not_true_eq_false, not_false_eq_true, forall_const, true_implies, false_implies, implies_true, and_true, true_and, and_self, Nat.not_lt_zero, ne_eq, if_true, if_false, reduceIte, Nat.reduceAdd, Nat.reduceMul, Nat.reduceSub, Nat.reduceLT, Nat.reduceLeDiff, Nat.reduceEqDiff, eq_self_iff_true, L_0, L_1, L_2, L_3, L_4, L_5, L_6, L_7, L_8, L_9, L_10, L_16, L_20, L_21, L_24, L_31, L_64, L_100, L_320, L_400, L_1000, L_256, nI_add, pk_mul, pk_sub, nI_clamp, vp_in_nI, nI_ge, nI_le, nI_lt, nI_nlt, qI_ne, qI_eq, qI_m1, q_all, qI_nm, qI_nm2]
    rw [oneW_t hI] at h
    exact h
  · intro n i s hi hI hk
    have g1 := hf i hi
    have g0 := hf 0 (by omega)
    have k1 := kN_lt (L.getD i 0); have a1 := aN_lt (L.getD i 0); have a0 := aN_lt (L.getD 0 0)
    simp (disch := omega) only [wpX0_isOnOneWire_2, wpX0_isOnOneWire_2b, g1.2, g0.2, y_k g1.1, y_A g1.1, y_A g0.1, nI_ltI, nI_eq, not_true_eq_false, not_false_eq_true, forall_const, true_implies, false_implies, implies_true, and_true, true_and, and_self, Nat.not_lt_zero, ne_eq, if_true, if_false, reduceIte, Nat.reduceAdd, Nat.reduceMul, Nat.reduceSub, Nat.reduceLT, Nat.reduceLeDiff, Nat.reduceEqDiff, eq_self_iff_true, L_0, L_1, L_2, L_3, L_4, L_5, L_6, L_7, L_8, L_9, L_10, L_16, L_20, L_21, L_24, L_31, L_64, L_100, L_320, L_400, L_1000, L_256, nI_add, pk_mul, pk_sub, nI_clamp, vp_in_nI, nI_ge, nI_le, nI_lt, nI_nlt, qI_ne, qI_eq, qI_m1, q_all, qI_nm, qI_nm2]
    refine ⟨fun h9 => ?_, fun h9 => ⟨fun h8 => hk () ?_, fun h8 => ?_⟩⟩
    · rw [oneW_f hi (by omega)] at h; exact h
    · intro j hj
      by_cases e : j = i
      · subst e; exact ⟨by omega, h8⟩
      · exact hI j (by omega)
    · rw [oneW_f hi (by omega)] at h; exact h
def invG (g : Nat) : List Nat := if kN g = 3 then [gi 3 (aN g), gi 2 (aN g), gi 5 (aN g)] else if kN g = 2 then [g, gi 5 (aN g)] else [g]
def invL (L : List Nat) : List Nat := L.reverse.flatMap invG
theorem gi_lt {k a : Nat} (hk : k < 10) (ha : a < 10) : gi k a < 10000 := by unfold gi; omega
theorem y_addOn {Q : Int32 → (Nat → Int32) → Prop} {c : Int32} {f : Nat → Int32} {L : List Nat} {k a : Nat} (hC : CR c f L) (hl : L.length < 64) (hk : k < 6) (ha : a < 10) (h : ∀ c' f', CR c' f' (L ++ [gi k a]) → Q c' f') : wpX0_addOn Q (nI k) (nI a) c f := by
  unfold wpX0_addOn
  rw [y_of1 hk ha]
  exact y_add hC hl (gi_lt (by omega) ha) h
theorem y_addBack {Q : Int32 → (Nat → Int32) → Prop} {c : Int32} {f : Nat → Int32} {L : List Nat} {a : Nat} (hC : CR c f L) (hl : L.length + 3 ≤ 64) (ha : a < 10) (h : ∀ c' f', CR c' f' (L ++ [gi 3 a, gi 2 a, gi 5 a]) → Q c' f') : wpX0_addBackTurn Q (nI a) c f := by
  unfold wpX0_addBackTurn
  refine y_addOn (k := 3) hC (by omega) (by omega) ha (fun c1 f1 h1 => ?_)
  refine y_addOn (k := 2) h1 (by simp; omega) (by omega) ha (fun c2 f2 h2 => ?_)
  refine y_addOn (k := 5) h2 (by simp; omega) (by omega) ha (fun c3 f3 h3 => ?_)
  exact h _ _ (by simpa using h3)
theorem y_addCon {Q : Int32 → (Nat → Int32) → Prop} {c : Int32} {f : Nat → Int32} {L : List Nat} {a b : Nat} (hC : CR c f L) (hl : L.length < 64) (ha : a < 10) (hb : b < 10) (h : ∀ c' f', CR c' f' (L ++ [6 + 10 * a + 100 * b]) → Q c' f') : wpX0_addControlled Q (nI a) (nI b) c f := by
  unfold wpX0_addControlled
  have e : zvX2_of 6 (nI a) (nI b) 0 = nI (6 + 10 * a + 100 * b) := by
    have e : zvX2_wiresOf (nI 6) = nI 2 := y_ws 6 (by omega)
    unfold zvX2_of
    simp (disch := omega) only [e, not_true_eq_false, not_false_eq_true, forall_const, true_implies, false_implies, implies_true, and_true, true_and, and_self, Nat.not_lt_zero, ne_eq, if_true, if_false, reduceIte, Nat.reduceAdd, Nat.reduceMul, Nat.reduceSub, Nat.reduceLT, Nat.reduceLeDiff, Nat.reduceEqDiff, eq_self_iff_true, L_0, L_1, L_2, L_3, L_4, L_5, L_6, L_7, L_8, L_9, L_10, L_16, L_20, L_21, L_24, L_31, L_64, L_100, L_320, L_400, L_1000, L_256, nI_add, pk_mul, pk_sub, nI_clamp, vp_in_nI, nI_ge, nI_le, nI_lt, nI_nlt, qI_ne, qI_eq, qI_m1, q_all, qI_nm, qI_nm2]
  rw [e]
  exact y_add hC hl (by omega) h
theorem invG_len (L : List Nat) : (L.flatMap invG).length = L.length + L.countP (fun g => g % 10 = 2) + 2 * L.countP (fun g => g % 10 = 3) := by
  induction L with
  | nil => rfl
  | cons g t ih =>
    rw [List.flatMap_cons, List.length_append, ih, List.length_cons, List.countP_cons, List.countP_cons]
    unfold invG kN
    by_cases e3 : g % 10 = 3
    · simp [e3]; omega
    · by_cases e2 : g % 10 = 2
      · simp [e2]; omega
      · simp [e3, e2]; omega
theorem invL_len (L : List Nat) : (invL L).length = L.length + L.countP (fun g => g % 10 = 2) + 2 * L.countP (fun g => g % 10 = 3) := by
  unfold invL; rw [invG_len, List.length_reverse, List.countP_reverse, List.countP_reverse]
theorem y_countInv {Q : Int32 → Prop} {c : Int32} {f : Nat → Int32} {L : List Nat} (hC : CR c f L) (h : Q (nI (invL L).length)) : wpX0_countInverted Q c f := by
  unfold wpX0_countInverted
  refine y_countKind (k := 2) (by omega) hC (y_countKind (k := 3) (by omega) hC ?_)
  rw [hC.1]
  simp (disch := omega) only [not_true_eq_false, not_false_eq_true, forall_const, true_implies, false_implies, implies_true, and_true, true_and, and_self, Nat.not_lt_zero, ne_eq, if_true, if_false, reduceIte, Nat.reduceAdd, Nat.reduceMul, Nat.reduceSub, Nat.reduceLT, Nat.reduceLeDiff, Nat.reduceEqDiff, eq_self_iff_true, L_0, L_1, L_2, L_3, L_4, L_5, L_6, L_7, L_8, L_9, L_10, L_16, L_20, L_21, L_24, L_31, L_64, L_100, L_320, L_400, L_1000, L_256, nI_add, pk_mul, pk_sub, nI_clamp, vp_in_nI, nI_ge, nI_le, nI_lt, nI_nlt, qI_ne, qI_eq, qI_m1, q_all, qI_nm, qI_nm2]
  rw [invL_len] at h; exact h
theorem sub1 {a : Nat} : nI (a + 1) - nI 1 = nI a := nI_pred a
theorem m1s {a : Nat} : nI a + -nI 1 = nI a - nI 1 := (Int32.sub_eq_add_neg _ _).symm
theorem neg0 : nI 0 - nI 1 < nI 0 := by decide
theorem y_addInv {Q : Int32 → (Nat → Int32) → Prop} {c c2 : Int32} {f f2 : Nat → Int32} {M : List Nat} (hC : CR c f []) (hM : CR c2 f2 M) (hl : (invL M).length ≤ 64) (h : ∀ c' f', CR c' f' (invL M) → Q c' f') : wpX0_addInverted Q c2 f2 c f := by
  unfold wpX0_addInverted
  have hcut : ∀ i, ((M.drop i).reverse.flatMap invG).length ≤ 64 := fun i => by
    have e : invL M = (M.drop i).reverse.flatMap invG ++ (M.take i).reverse.flatMap invG := by
      unfold invL
      conv => lhs; rw [← List.take_append_drop i M]
      rw [List.reverse_append, List.flatMap_append]
    rw [e, List.length_append] at hl
    omega
  have hc := hM.1
  rw [hc] at hM ⊢
  refine ⟨M.length + 1, ?_⟩
  refine pk_loopD (σ := Int32 × (Nat → Int32)) (fun n i s => wpX0_addInverted_7 Q (nI M.length) f2 n (nI i - 1) s.1 s.2) (fun i s => i ≤ M.length ∧ CR s.1 s.2 ((M.drop i).reverse.flatMap invG)) ?_ ?_ M.length (c, f) ⟨Nat.le_refl _, by simpa using hC⟩
  · intro n s hI
    simp (disch := omega) only [wpX0_addInverted_7, wpX0_addInverted_7b, neg0, not_true_eq_false, not_false_eq_true, forall_const, true_implies, false_implies, implies_true, and_true, true_and, and_self, Nat.not_lt_zero, ne_eq, if_true, if_false, reduceIte, Nat.reduceAdd, Nat.reduceMul, Nat.reduceSub, Nat.reduceLT, Nat.reduceLeDiff, Nat.reduceEqDiff, eq_self_iff_true, L_0, L_1, L_2, L_3, L_4, L_5, L_6, L_7, L_8, L_9, L_10, L_16, L_20, L_21, L_24, L_31, L_64, L_100, L_320, L_400, L_1000, L_256, nI_add, pk_mul, pk_sub, nI_clamp, vp_in_nI, nI_ge, nI_le, nI_lt, nI_nlt, qI_ne, qI_eq, qI_m1, q_all, qI_nm, qI_nm2]
    exact h _ _ (by simpa [invL] using hI.2)
  · intro n i s hI hk
    obtain ⟨hi, hI⟩ := hI
    have hb := hM.2.1
    have g1 := hM.2.2 i (by omega)
    have k1 := kN_lt (M.getD i 0); have a1 := aN_lt (M.getD i 0)
    have hcu := hcut i
    have e : (M.drop i).reverse.flatMap invG = (M.drop (i + 1)).reverse.flatMap invG ++ invG (M.getD i 0) := by
      have e1 : M.drop i = M.getD i 0 :: M.drop (i + 1) := by
        rw [List.drop_eq_getElem_cons (by omega)]; simp [List.getD, show i < M.length by omega]
      rw [e1, List.reverse_cons, List.flatMap_append]; simp
    rw [e] at hk hcu
    rw [List.length_append] at hcu
    simp (disch := omega) only [wpX0_addInverted_7, wpX0_addInverted_7b, sub1, not_true_eq_false, not_false_eq_true, forall_const, true_implies, false_implies, implies_true, and_true, true_and, and_self, Nat.not_lt_zero, ne_eq, if_true, if_false, reduceIte, Nat.reduceAdd, Nat.reduceMul, Nat.reduceSub, Nat.reduceLT, Nat.reduceLeDiff, Nat.reduceEqDiff, eq_self_iff_true, L_0, L_1, L_2, L_3, L_4, L_5, L_6, L_7, L_8, L_9, L_10, L_16, L_20, L_21, L_24, L_31, L_64, L_100, L_320, L_400, L_1000, L_256, nI_add, pk_mul, pk_sub, nI_clamp, vp_in_nI, nI_ge, nI_le, nI_lt, nI_nlt, qI_ne, qI_eq, qI_m1, q_all, qI_nm, qI_nm2]
    refine y_at hM (i := i) (by omega) ?_
    simp (disch := omega) only [y_k g1.1, y_A g1.1, nI_eq, not_true_eq_false, not_false_eq_true, forall_const, true_implies, false_implies, implies_true, and_true, true_and, and_self, Nat.not_lt_zero, ne_eq, if_true, if_false, reduceIte, Nat.reduceAdd, Nat.reduceMul, Nat.reduceSub, Nat.reduceLT, Nat.reduceLeDiff, Nat.reduceEqDiff, eq_self_iff_true, L_0, L_1, L_2, L_3, L_4, L_5, L_6, L_7, L_8, L_9, L_10, L_16, L_20, L_21, L_24, L_31, L_64, L_100, L_320, L_400, L_1000, L_256, nI_add, pk_mul, pk_sub, nI_clamp, vp_in_nI, nI_ge, nI_le, nI_lt, nI_nlt, qI_ne, qI_eq, qI_m1, q_all, qI_nm, qI_nm2]
    refine ⟨fun h3 => ?_, fun h3 => ?_⟩
    · have ei : invG (M.getD i 0) = [gi 3 (aN (M.getD i 0)), gi 2 (aN (M.getD i 0)), gi 5 (aN (M.getD i 0))] := by unfold invG; rw [if_pos h3]
      rw [ei] at hk hcu
      refine y_addBack hI (by simpa using hcu) a1 (fun c' f' h' => ?_)
      rw [m1s]
      exact hk (c', f') ⟨by omega, h'⟩
    · by_cases h2 : kN (M.getD i 0) = 2
      · have ei : invG (M.getD i 0) = [M.getD i 0, gi 5 (aN (M.getD i 0))] := by unfold invG; rw [if_neg h3, if_pos h2]
        rw [ei] at hk hcu
        simp only [List.length_cons, List.length_nil] at hcu
        refine y_add hI (by omega) g1.1 (fun c1 f1 h1 => ⟨fun _ => ?_, fun h9 => absurd h2 h9⟩)
        refine y_addOn (k := 5) h1 (by rw [List.length_append]; simp only [List.length_cons, List.length_nil]; omega) (by omega) a1 (fun c' f' h' => ?_)
        rw [m1s]
        exact hk (c', f') ⟨by omega, by simpa using h'⟩
      · have ei : invG (M.getD i 0) = [M.getD i 0] := by unfold invG; rw [if_neg h3, if_neg h2]
        rw [ei] at hk hcu
        simp only [List.length_cons, List.length_nil] at hcu
        refine y_add hI (by omega) g1.1 (fun c1 f1 h1 => ⟨fun h9 => absurd h9 h2, fun _ => ?_⟩)
        rw [m1s]
        exact hk (c1, f1) ⟨by omega, h1⟩
def bkG (a : Nat) : List Nat := [gi 3 a, gi 2 a, gi 5 a]
def cx (a b : Nat) : Nat := 6 + 10 * a + 100 * b
def partsG (a b c : Nat) : List Nat := [gi 1 c] ++ [cx b c] ++ bkG c ++ [cx a c] ++ [gi 3 c] ++ [cx b c] ++ bkG c ++ [cx a c] ++ [gi 3 b] ++ [gi 3 c] ++ [gi 1 c] ++ [cx a b] ++ [gi 3 a] ++ bkG b ++ [cx a b]
def expG (g : Nat) : List Nat := if kN g = 9 then partsG (aN g) (bN g) (cN g) else [g]
def expL (L : List Nat) : List Nat := L.flatMap expG
theorem expL_len (L : List Nat) : (expL L).length = L.length + 20 * L.countP (fun g => g % 10 = 9) := by
  unfold expL
  induction L with
  | nil => rfl
  | cons g t ih =>
    rw [List.flatMap_cons, List.length_append, ih, List.length_cons, List.countP_cons]
    unfold expG kN
    by_cases e : g % 10 = 9
    · simp [e, partsG, bkG]; omega
    · simp [e]; omega
theorem y_countExp {Q : Int32 → Prop} {c : Int32} {f : Nat → Int32} {L : List Nat} (hC : CR c f L) (h : Q (nI (expL L).length)) : wpX0_countExpanded Q c f := by
  unfold wpX0_countExpanded
  refine y_countKind (k := 9) (by omega) hC ?_
  rw [hC.1]
  simp (disch := omega) only [not_true_eq_false, not_false_eq_true, forall_const, true_implies, false_implies, implies_true, and_true, true_and, and_self, Nat.not_lt_zero, ne_eq, if_true, if_false, reduceIte, Nat.reduceAdd, Nat.reduceMul, Nat.reduceSub, Nat.reduceLT, Nat.reduceLeDiff, Nat.reduceEqDiff, eq_self_iff_true, L_0, L_1, L_2, L_3, L_4, L_5, L_6, L_7, L_8, L_9, L_10, L_16, L_20, L_21, L_24, L_31, L_64, L_100, L_320, L_400, L_1000, L_256, nI_add, pk_mul, pk_sub, nI_clamp, vp_in_nI, nI_ge, nI_le, nI_lt, nI_nlt, qI_ne, qI_eq, qI_m1, q_all, qI_nm, qI_nm2]
  rw [expL_len] at h; exact h
theorem y_addParts {Q : Int32 → (Nat → Int32) → Prop} {c0 : Int32} {f : Nat → Int32} {L : List Nat} {a b c : Nat} (hC : CR c0 f L) (hl : L.length + 21 ≤ 64) (ha : a < 10) (hb : b < 10) (hc : c < 10) (h : ∀ c' f', CR c' f' (L ++ partsG a b c) → Q c' f') : wpX0_addParts Q (nI a) (nI b) (nI c) c0 f := by
  unfold wpX0_addParts
  refine y_addOn (k := 1) hC (by omega) (by omega) hc (fun c1 f1 h1 => ?_)
  refine y_addCon h1 (by simp; omega) hb hc (fun c2 f2 h2 => ?_)
  refine y_addBack h2 (by simp; omega) hc (fun c3 f3 h3 => ?_)
  refine y_addCon h3 (by simp; omega) ha hc (fun c4 f4 h4 => ?_)
  refine y_addOn (k := 3) h4 (by simp; omega) (by omega) hc (fun c5 f5 h5 => ?_)
  refine y_addCon h5 (by simp; omega) hb hc (fun c6 f6 h6 => ?_)
  refine y_addBack h6 (by simp; omega) hc (fun c7 f7 h7 => ?_)
  refine y_addCon h7 (by simp; omega) ha hc (fun c8 f8 h8 => ?_)
  refine y_addOn (k := 3) h8 (by simp; omega) (by omega) hb (fun c9 f9 h9 => ?_)
  refine y_addOn (k := 3) h9 (by simp; omega) (by omega) hc (fun c10 f10 h10 => ?_)
  refine y_addOn (k := 1) h10 (by simp; omega) (by omega) hc (fun c11 f11 h11 => ?_)
  refine y_addCon h11 (by simp; omega) ha hb (fun c12 f12 h12 => ?_)
  refine y_addOn (k := 3) h12 (by simp; omega) (by omega) ha (fun c13 f13 h13 => ?_)
  refine y_addBack h13 (by simp; omega) hb (fun c14 f14 h14 => ?_)
  refine y_addCon h14 (by simp; omega) ha hb (fun c15 f15 h15 => ?_)
  exact h _ _ (by simpa [partsG, bkG, cx] using h15)
theorem y_addExp {Q : Int32 → (Nat → Int32) → Prop} {c c2 : Int32} {f f2 : Nat → Int32} {M : List Nat} (hC : CR c f []) (hM : CR c2 f2 M) (hl : (expL M).length ≤ 64) (h : ∀ c' f', CR c' f' (expL M) → Q c' f') : wpX0_addExpanded Q c2 f2 c f := by
  unfold wpX0_addExpanded
  have hcut : ∀ i, (expL (M.take i)).length ≤ 64 := fun i => by
    have e : expL M = expL (M.take i) ++ expL (M.drop i) := by
      unfold expL
      conv => lhs; rw [← List.take_append_drop i M]
      rw [List.flatMap_append]
    rw [e, List.length_append] at hl
    omega
  have hc := hM.1
  have hb := hM.2.1
  rw [hc] at hM ⊢
  refine pk_loop (σ := Int32 × (Nat → Int32)) (fun n i s => wpX0_addExpanded_2 Q (nI M.length) f2 n (nI i) s.1 s.2) (fun i s => CR s.1 s.2 (expL (M.take i))) M.length 0 (c, f) (Nat.zero_le _) (by simpa [expL] using hC) ?_ ?_
  · intro n s hI
    simp (disch := omega) only [wpX0_addExpanded_2, wpX0_addExpanded_2b, not_true_eq_false, not_false_eq_true, forall_const, true_implies, false_implies, implies_true, and_true, true_and, and_self, Nat.not_lt_zero, ne_eq, if_true, if_false, reduceIte, Nat.reduceAdd, Nat.reduceMul, Nat.reduceSub, Nat.reduceLT, Nat.reduceLeDiff, Nat.reduceEqDiff, eq_self_iff_true, L_0, L_1, L_2, L_3, L_4, L_5, L_6, L_7, L_8, L_9, L_10, L_16, L_20, L_21, L_24, L_31, L_64, L_100, L_320, L_400, L_1000, L_256, nI_add, pk_mul, pk_sub, nI_clamp, vp_in_nI, nI_ge, nI_le, nI_lt, nI_nlt, qI_ne, qI_eq, qI_m1, q_all, qI_nm, qI_nm2]
    rw [List.take_length] at hI
    exact h _ _ hI
  · intro n i s hi hI hk
    have g1 := hM.2.2 i hi
    have k1 := kN_lt (M.getD i 0); have a1 := aN_lt (M.getD i 0); have b1 := bN_lt (M.getD i 0); have c1 := cN_lt (M.getD i 0)
    have hcu := hcut (i + 1)
    have e : expL (M.take (i + 1)) = expL (M.take i) ++ expG (M.getD i 0) := by
      unfold expL; rw [g_take (d := 0) hi, List.flatMap_append]; simp
    rw [e] at hk hcu
    rw [List.length_append] at hcu
    simp (disch := omega) only [wpX0_addExpanded_2, wpX0_addExpanded_2b, not_true_eq_false, not_false_eq_true, forall_const, true_implies, false_implies, implies_true, and_true, true_and, and_self, Nat.not_lt_zero, ne_eq, if_true, if_false, reduceIte, Nat.reduceAdd, Nat.reduceMul, Nat.reduceSub, Nat.reduceLT, Nat.reduceLeDiff, Nat.reduceEqDiff, eq_self_iff_true, L_0, L_1, L_2, L_3, L_4, L_5, L_6, L_7, L_8, L_9, L_10, L_16, L_20, L_21, L_24, L_31, L_64, L_100, L_320, L_400, L_1000, L_256, nI_add, pk_mul, pk_sub, nI_clamp, vp_in_nI, nI_ge, nI_le, nI_lt, nI_nlt, qI_ne, qI_eq, qI_m1, q_all, qI_nm, qI_nm2]
    refine y_at hM hi ?_
    simp (disch := omega) only [y_k g1.1, y_A g1.1, y_B g1.1, y_C g1.1, nI_eq, not_true_eq_false, not_false_eq_true, forall_const, true_implies, false_implies, implies_true, and_true, true_and, and_self, Nat.not_lt_zero, ne_eq, if_true, if_false, reduceIte, Nat.reduceAdd, Nat.reduceMul, Nat.reduceSub, Nat.reduceLT, Nat.reduceLeDiff, Nat.reduceEqDiff, eq_self_iff_true, L_0, L_1, L_2, L_3, L_4, L_5, L_6, L_7, L_8, L_9, L_10, L_16, L_20, L_21, L_24, L_31, L_64, L_100, L_320, L_400, L_1000, L_256, nI_add, pk_mul, pk_sub, nI_clamp, vp_in_nI, nI_ge, nI_le, nI_lt, nI_nlt, qI_ne, qI_eq, qI_m1, q_all, qI_nm, qI_nm2]
    refine ⟨fun h9 => ?_, fun h9 => ?_⟩
    · have ei : expG (M.getD i 0) = partsG (aN (M.getD i 0)) (bN (M.getD i 0)) (cN (M.getD i 0)) := by unfold expG; rw [if_pos h9]
      rw [ei] at hk hcu
      exact y_addParts hI (by simpa [partsG, bkG] using hcu) a1 b1 c1 (fun c' f' h' => hk (c', f') h')
    · have ei : expG (M.getD i 0) = [M.getD i 0] := by unfold expG; rw [if_neg h9]
      rw [ei] at hk hcu
      exact y_add hI (by simp only [List.length_cons, List.length_nil] at hcu; omega) g1.1 (fun c' f' h' => hk (c', f') h')
