/-! A gate more; what a gate is. -/
theorem le_nlt {x y : Int32} : ¬ x < y ↔ y ≤ x := by
  rw [Int32.lt_iff_toInt_lt, Int32.le_iff_toInt_le]; omega
theorem nlt0 {x : Int32} {n : Nat} (hn : n < 2 ^ 31) (h : nI n ≤ x) : ¬ x < 0 := fun h9 => by
  rw [Int32.le_iff_toInt_le, nI_toInt hn] at h
  rw [Int32.lt_iff_toInt_lt] at h9
  have : (0 : Int32).toInt = 0 := by decide
  omega
theorem t64 : ∀ n, n < 65 → (nI n).toInt64 - 1 = (nI n - 1).toInt64 := by decide +kernel
theorem in_t {j n : Nat} (hj : j < n) (hn : n < 65) : zvX7_in (nI j).toInt64 0 ((nI n).toInt64 - 1) = 1 := by
  rw [t64 n hn]
  have e := mz_in (x := nI j) (lo := 0) (hi := nI n - 1)
  rw [show (0 : Int32).toInt64 = 0 from rfl] at e
  rw [e, if_pos]
  refine ⟨nI_pos' (by omega), ?_⟩
  rw [show (1 : Int32) = nI 1 from rfl, pk_sub (by omega)]
  exact nI_le (by omega) (by omega)
theorem in_f {x : Int32} {n : Nat} (hn : n < 65) (h : x < 0 ∨ nI n ≤ x) : zvX7_in x.toInt64 0 ((nI n).toInt64 - 1) = 0 := by
  rw [t64 n hn]
  have e := mz_in (x := x) (lo := 0) (hi := nI n - 1)
  rw [show (0 : Int32).toInt64 = 0 from rfl] at e
  rw [e, if_neg]
  intro h9
  rcases h with h | h
  · exact le_nlt.mpr h9.1 h
  · have h2 := h9.2
    rw [Int32.le_iff_toInt_le] at h h2
    have e2 : (nI n - 1).toInt = (n : Int) - 1 := by
      have := pk_sub_toInt (a := n) (b := 1) (by omega) (by omega)
      exact this
    rw [nI_toInt (by omega)] at h
    omega
theorem wi_t {j n : Nat} (hj : j < n) (hn : n < 5) : zvX7_isWire (nI j) (nI n) = 1 := by unfold zvX7_isWire; exact in_t hj (by omega)
theorem wi_f {x : Int32} {n : Nat} (hn : n < 5) (h : x < 0 ∨ nI n ≤ x) : zvX7_isWire x (nI n) = 0 := by unfold zvX7_isWire; exact in_f (by omega) h
theorem y_needs : ∀ k, k < 10 → zvX7_needs (nI k) = nI (wsN k) := by decide +kernel
theorem k19 {k : Int32} (h : 1 ≤ k ∧ k ≤ 9) : ∃ j, 1 ≤ j ∧ j < 10 ∧ k = nI j := by
  have h0 : ¬ k < 0 := fun h9 => by
    have h1 := h.1
    rw [Int32.le_iff_toInt_le] at h1
    rw [Int32.lt_iff_toInt_lt] at h9
    have : (0 : Int32).toInt = 0 := by decide
    have : (1 : Int32).toInt = 1 := by decide
    omega
  obtain ⟨j, hj, e⟩ := nI_of2 (M := 9) (n := 9) (by decide) h0 h.2
  refine ⟨j, ?_, by omega, e⟩
  rw [e] at h
  have h1 := (nI_leI (a := 1) (b := j) (by omega) (by omega)).mp h.1
  exact h1
def encG (k a b c : Nat) : Nat := if k < 6 then k + 10 * a else if k < 9 then k + 10 * a + 100 * b else k + 10 * a + 100 * b + 1000 * c
theorem encG_f {k a b c : Nat} (hk : k < 10) (ha : a < 4) (hb : b < 4) (hc : c < 4) : encG k a b c < 10000 ∧ kN (encG k a b c) = k ∧ aN (encG k a b c) = a ∧ (6 ≤ k → bN (encG k a b c) = b) ∧ (k = 9 → cN (encG k a b c) = c) := by
  unfold encG kN aN bN cN
  by_cases h6 : k < 6
  · rw [if_pos h6]; omega
  · rw [if_neg h6]
    by_cases h9 : k < 9
    · rw [if_pos h9]; omega
    · rw [if_neg h9]; omega
theorem encG_v {k a b c n : Nat} (h1 : 1 ≤ k) (hk : k < 10) (hn : n < 5) (ha : a < n) (hb : b < 4) (hc : c < 4) (h2 : 6 ≤ k → b < n ∧ b ≠ a) (h3 : k = 9 → c < n ∧ c ≠ a ∧ c ≠ b) : gv n (encG k a b c) = true := by
  obtain ⟨f0, f1, f2, f3, f4⟩ := encG_f (a := a) (c := c) hk (by omega) hb hc
  unfold gv
  rw [f1, f2]
  simp only [Bool.and_eq_true, decide_eq_true_eq]
  refine ⟨⟨⟨h1, by omega⟩, ha⟩, ?_⟩
  by_cases h6 : k < 6
  · rw [if_pos h6]; unfold encG; rw [if_pos h6]; simp
  · rw [if_neg h6, f3 (by omega)]
    have h2 := h2 (by omega)
    by_cases h9 : k < 9
    · rw [if_pos h9]; simp; refine ⟨h2, ?_⟩; unfold encG; rw [if_neg h6, if_pos h9]
    · rw [if_neg h9, f4 (by omega)]
      have h3 := h3 (by omega)
      simp; refine ⟨⟨⟨⟨h2, h3.1⟩, h3.2.1⟩, h3.2.2⟩, ?_⟩; unfold encG; rw [if_neg h6, if_neg h9]
theorem gate_ok (k a b c : Int32) {n : Nat} (h1 : 1 ≤ n) (hn : n < 5) : (zvX2_canStand k a b c (nI n) = 0 ∧ zvX7_isGate k a b c (nI n) = 0) ∨ (zvX2_canStand k a b c (nI n) = 1 ∧ zvX7_isGate k a b c (nI n) = 1 ∧ ∃ g, gv n g = true ∧ zvX2_of k a b c = nI g ∧ k = nI (kN g) ∧ a = nI (aN g) ∧ (6 ≤ kN g → b = nI (bN g)) ∧ (kN g = 9 → c = nI (cN g))) := by
  have i9 : zvX7_in k.toInt64 1 9 = if 1 ≤ k ∧ k ≤ 9 then 1 else 0 := mz_in (lo := 1) (hi := 9)
  by_cases hk : 1 ≤ k ∧ k ≤ 9
  · rw [if_pos hk] at i9
    have nk1 : ¬ k < 1 := le_nlt.mpr hk.1
    have nk9 : ¬ 9 < k := le_nlt.mpr hk.2
    obtain ⟨j, hj1, hj, rfl⟩ := k19 hk
    have ew := y_ws j hj
    have en := y_needs j hj
    unfold zvX2_canStand zvX7_isGate
    rw [i9, if_neg nk1, if_neg nk9, ew, en, if_neg (show ¬ (1 : Int32) = 0 by decide)]
    rcases pk_ix a (n := n) (by omega) with ha | ha | ⟨w, hw, rfl⟩
    · left
      rw [wi_f hn (Or.inl ha), if_pos ha, if_pos rfl]; exact ⟨rfl, rfl⟩
    · left
      rw [wi_f hn (Or.inr ha), if_neg (nlt0 (by omega) ha), if_neg (le_nlt.mpr ha), if_pos rfl]; exact ⟨rfl, rfl⟩
    · rw [wi_t hw hn, if_neg (nI_pos (by omega)), if_pos (nI_lt hw (by omega)), if_neg (show ¬ (1 : Int32) = 0 by decide)]
      by_cases h6 : j < 6
      · right
        have e1 : wsN j = 1 := by unfold wsN; rw [if_neg (by omega), if_pos h6]
        rw [e1]
        refine ⟨by rw [if_pos (by decide), if_pos (by decide)], by rw [if_pos (by decide), if_pos (by decide)], encG j w 0 0, encG_v hj1 hj hn hw (by omega) (by omega) (by omega) (by omega), ?_, ?_, ?_, ?_, ?_⟩
        · unfold encG; rw [if_pos h6]; exact y_of1 h6 (by omega) _ _
        · rw [(encG_f hj (by omega) (by omega) (by omega)).2.1]
        · rw [(encG_f hj (by omega) (by omega) (by omega)).2.2.1]
        · intro h; rw [(encG_f hj (by omega) (by omega) (by omega)).2.1] at h; omega
        · intro h; rw [(encG_f hj (by omega) (by omega) (by omega)).2.1] at h; omega
      · have e2 : ¬ nI (wsN j) < 2 ∧ ¬ nI (wsN j) ≤ 1 := by
          unfold wsN
          by_cases h9 : j = 9
          · rw [if_pos h9]; decide
          · rw [if_neg h9, if_neg h6]; decide
        rw [if_neg e2.1, if_neg e2.2]
        rcases pk_ix b (n := n) (by omega) with hb | hb | ⟨x, hx, rfl⟩
        · left
          rw [wi_f hn (Or.inl hb), if_pos hb, if_pos rfl]; exact ⟨rfl, rfl⟩
        · left
          rw [wi_f hn (Or.inr hb), if_neg (nlt0 (by omega) hb), if_pos hb, if_pos rfl]; exact ⟨rfl, rfl⟩
        · rw [wi_t hx hn, if_neg (nI_pos (by omega)), if_neg (nI_ge hx (by omega)), if_neg (show ¬ (1 : Int32) = 0 by decide)]
          by_cases hxw : x = w
          · left; subst hxw; rw [if_pos rfl, if_pos rfl]; exact ⟨rfl, rfl⟩
          · rw [if_neg (qI_ne (by omega) (by omega) hxw), if_neg (qI_ne (by omega) (by omega) hxw)]
            by_cases h9 : j = 9
            · subst h9
              have e3 : ¬ nI (wsN 9) < 3 := by decide
              rw [if_neg e3, if_neg e3]
              rcases pk_ix c (n := n) (by omega) with hc | hc | ⟨y, hy, rfl⟩
              · left
                rw [wi_f hn (Or.inl hc), if_pos hc, if_pos rfl]; exact ⟨rfl, rfl⟩
              · left
                rw [wi_f hn (Or.inr hc), if_neg (nlt0 (by omega) hc), if_pos hc, if_pos rfl]; exact ⟨rfl, rfl⟩
              · rw [wi_t hy hn, if_neg (nI_pos (by omega)), if_neg (nI_ge hy (by omega)), if_neg (show ¬ (1 : Int32) = 0 by decide)]
                by_cases hyw : y = w
                · left; subst hyw; rw [if_pos rfl]; exact ⟨rfl, rfl⟩
                · rw [if_neg (qI_ne (by omega) (by omega) hyw)]
                  by_cases hyx : y = x
                  · left; subst hyx; rw [if_pos rfl]; exact ⟨rfl, rfl⟩
                  · rw [if_neg (qI_ne (by omega) (by omega) hyx)]
                    right
                    obtain ⟨f0, f1, f2, f3, f4⟩ := encG_f (k := 9) (a := w) (b := x) (c := y) (by omega) (by omega) (by omega) (by omega)
                    refine ⟨rfl, rfl, encG 9 w x y, encG_v hj1 hj hn hw (by omega) (by omega) (fun _ => ⟨hx, hxw⟩) (fun _ => ⟨hy, hyw, hyx⟩), ?_, by rw [f1], by rw [f2], fun _ => by rw [f3 (by omega)], fun _ => by rw [f4 rfl]⟩
                    have ew : zvX2_wiresOf (nI 9) = nI 3 := y_ws 9 (by omega)
                    unfold zvX2_of encG
                    simp (disch := omega) only [ew, not_true_eq_false, not_false_eq_true, forall_const, true_implies, false_implies, implies_true, and_true, true_and, and_self, Nat.not_lt_zero, ne_eq, if_true, if_false, reduceIte, Nat.reduceAdd, Nat.reduceMul, Nat.reduceSub, Nat.reduceLT, Nat.reduceLeDiff, Nat.reduceEqDiff, Nat.add_sub_cancel, eq_self_iff_true, L_0, L_1, L_2, L_3, L_4, L_5, L_6, L_7, L_8, L_9, L_10, L_16, L_20, L_21, L_24, L_31, L_64, L_100, L_320, L_400, L_1000, L_256, nI_add, pk_mul, pk_sub, nI_clamp, vp_in_nI, nI_ge, nI_le, nI_lt, nI_nlt, qI_ne, qI_eq, qI_m1, q_all, qI_nm, qI_nm2]
            · have e3 : nI (wsN j) < 3 := by unfold wsN; rw [if_neg h9, if_neg h6]; decide
              rw [if_pos e3, if_pos e3]
              right
              obtain ⟨f0, f1, f2, f3, f4⟩ := encG_f (k := j) (a := w) (b := x) (c := 0) (by omega) (by omega) (by omega) (by omega)
              refine ⟨rfl, rfl, encG j w x 0, encG_v hj1 hj hn hw (by omega) (by omega) (fun _ => ⟨hx, hxw⟩) (fun h => absurd h h9), ?_, by rw [f1], by rw [f2], fun _ => by rw [f3 (by omega)], fun h => by rw [f1] at h; exact absurd h h9⟩
              have ew : zvX2_wiresOf (nI j) = nI 2 := by rw [y_ws j hj]; unfold wsN; rw [if_neg h9, if_neg h6]
              have n6 : ¬ j < 6 := h6
              have n9 : j < 9 := by omega
              unfold zvX2_of encG
              simp (disch := omega) only [ew, if_neg n6, if_pos n9, not_true_eq_false, not_false_eq_true, forall_const, true_implies, false_implies, implies_true, and_true, true_and, and_self, Nat.not_lt_zero, ne_eq, if_true, if_false, reduceIte, Nat.reduceAdd, Nat.reduceMul, Nat.reduceSub, Nat.reduceLT, Nat.reduceLeDiff, Nat.reduceEqDiff, Nat.add_sub_cancel, eq_self_iff_true, L_0, L_1, L_2, L_3, L_4, L_5, L_6, L_7, L_8, L_9, L_10, L_16, L_20, L_21, L_24, L_31, L_64, L_100, L_320, L_400, L_1000, L_256, nI_add, pk_mul, pk_sub, nI_clamp, vp_in_nI, nI_ge, nI_le, nI_lt, nI_nlt, qI_ne, qI_eq, qI_m1, q_all, qI_nm, qI_nm2]
  · left
    rw [if_neg hk] at i9
    unfold zvX2_canStand zvX7_isGate
    rw [i9, if_pos rfl]
    refine ⟨?_, rfl⟩
    by_cases h1 : k < 1
    · rw [if_pos h1]
    · rw [if_neg h1, if_pos]
      exact Decidable.byContradiction (fun h9 => hk ⟨le_nlt.mp h1, le_nlt.mp h9⟩)
