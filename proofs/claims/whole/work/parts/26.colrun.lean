/-! The program's columns: gates, running a circuit. -/
theorem b_or : ∀ n, n < 5 → ∀ a, a < n → ∀ i, i < 2 ^ n → i &&& 2 ^ a = 0 → i ||| 2 ^ a < 2 ^ n ∧ i ≠ i ||| 2 ^ a := by decide +kernel
theorem b_sw0 : ∀ n, n < 5 → ∀ a, a < n → ∀ b, b < n → ∀ i, i < 2 ^ n → ((i &&& 2 ^ a == 0) || (i &&& 2 ^ b != 0) || (decide (i ^^^ 2 ^ a ^^^ 2 ^ b < 2 ^ n) && i != i ^^^ 2 ^ a ^^^ 2 ^ b)) = true := by decide +kernel
theorem b_sw (n : Nat) (hn : n < 5) (a : Nat) (ha : a < n) (b : Nat) (hb : b < n) (i : Nat) (hi : i < 2 ^ n) (h1 : i &&& 2 ^ a ≠ 0) (h2 : i &&& 2 ^ b = 0) : i ^^^ 2 ^ a ^^^ 2 ^ b < 2 ^ n ∧ i ≠ i ^^^ 2 ^ a ^^^ 2 ^ b := by
  have h := b_sw0 n hn a ha b hb i hi
  simp only [Bool.or_eq_true, Bool.and_eq_true, decide_eq_true_eq, beq_iff_eq, bne_iff_ne] at h
  rcases h with (h | h) | h
  · exact absurd h h1
  · exact absurd h2 h
  · exact h
theorem q_andc {a b : Nat} (hb : b < 2 ^ 31) : (nI (a &&& b) = nI b) ↔ a &&& b = b :=
  nI_eq (Nat.lt_of_le_of_lt Nat.and_le_right hb) hb
theorem foN_c {α : Type} {s t : Nat → α → α} : ∀ {m : Nat} {V : α}, (∀ i V, i < m → s i V = t i V) → foN s m V = foN t m V := by
  intro m
  induction m with
  | zero => intro V _; rfl
  | succ m ih => intro V h; show s m (foN s m V) = t m (foN t m V); rw [ih (fun i V hi => h i V (by omega)), h m _ (by omega)]
theorem y_mix {Q : Int32 → (Nat → Int64) → Prop} {n e a : Nat} {f : Nat → Int64} (hn : n < 5) (ha : a < n) (h : Q (nI (e + 1)) (foN (fun i V => if i &&& 2 ^ a = 0 then prV mixF i (i ||| 2 ^ a) V else V) (2 ^ n) f)) : wpX1_mix Q (nI (2 ^ a)) (nI (2 ^ n)) (nI e) f := by
  unfold wpX1_mix
  have hb := p16 (n := n) (by omega)
  refine pk_loop (σ := Nat → Int64) (fun m i s => wpX1_mix_2 Q (nI (2 ^ n)) m (nI (2 ^ a)) (nI i) (nI e) s) (fun i s => s = foN (fun i V => if i &&& 2 ^ a = 0 then prV mixF i (i ||| 2 ^ a) V else V) i f) (2 ^ n) 0 f (Nat.zero_le _) rfl ?_ ?_
  · intro m s hI
    simp (disch := omega) only [wpX1_mix_2, wpX1_mix_2b, not_true_eq_false, not_false_eq_true, forall_const, true_implies, false_implies, implies_true, and_true, true_and, and_self, Nat.not_lt_zero, ne_eq, if_true, if_false, reduceIte, Nat.reduceAdd, Nat.reduceMul, Nat.reduceSub, Nat.reduceLT, Nat.reduceLeDiff, Nat.reduceEqDiff, eq_self_iff_true, L_0, L_1, L_2, L_3, L_4, L_5, L_6, L_7, L_8, L_9, L_10, L_16, L_20, L_21, L_24, L_31, L_64, L_100, L_320, L_400, L_1000, L_256, nI_add, pk_mul, pk_sub, nI_clamp, vp_in_nI, nI_ge, nI_le, nI_lt, nI_nlt, qI_ne, qI_eq, qI_m1, q_all, qI_nm, qI_nm2]
    rw [hI]; exact h
  · intro m i s hi hI hk
    simp (disch := omega) only [wpX1_mix_2, wpX1_mix_2b, q_and, q_or, q_andz, not_true_eq_false, not_false_eq_true, forall_const, true_implies, false_implies, implies_true, and_true, true_and, and_self, Nat.not_lt_zero, ne_eq, if_true, if_false, reduceIte, Nat.reduceAdd, Nat.reduceMul, Nat.reduceSub, Nat.reduceLT, Nat.reduceLeDiff, Nat.reduceEqDiff, eq_self_iff_true, L_0, L_1, L_2, L_3, L_4, L_5, L_6, L_7, L_8, L_9, L_10, L_16, L_20, L_21, L_24, L_31, L_64, L_100, L_320, L_400, L_1000, L_256, nI_add, pk_mul, pk_sub, nI_clamp, vp_in_nI, nI_ge, nI_le, nI_lt, nI_nlt, qI_ne, qI_eq, qI_m1, q_all, qI_nm, qI_nm2]
    refine ⟨fun h9 => ?_, fun h9 => hk _ ?_⟩
    · obtain ⟨b1, b2⟩ := b_or n hn a ha i hi h9
      refine y_mixPair (by omega) (by omega) b2 (hk _ ?_)
      rw [hI]; show _ = if i &&& 2 ^ a = 0 then _ else _
      rw [if_pos h9]
    · rw [hI]; show _ = if i &&& 2 ^ a = 0 then _ else _
      rw [if_neg h9]
theorem y_trade {Q : (Nat → Int64) → Prop} {n a b : Nat} {f : Nat → Int64} (hn : n < 5) (ha : a < n) (hb9 : b < n) (h : Q (foN (fun i V => if i &&& 2 ^ a ≠ 0 ∧ i &&& 2 ^ b = 0 then prV exF i (i ^^^ 2 ^ a ^^^ 2 ^ b) V else V) (2 ^ n) f)) : wpX1_trade Q (nI (2 ^ a)) (nI (2 ^ b)) (nI (2 ^ n)) f := by
  unfold wpX1_trade
  have hb := p16 (n := n) (by omega)
  refine pk_loop (σ := Nat → Int64) (fun m i s => wpX1_trade_2 Q (nI (2 ^ n)) m (nI (2 ^ a)) (nI (2 ^ b)) (nI i) s) (fun i s => s = foN (fun i V => if i &&& 2 ^ a ≠ 0 ∧ i &&& 2 ^ b = 0 then prV exF i (i ^^^ 2 ^ a ^^^ 2 ^ b) V else V) i f) (2 ^ n) 0 f (Nat.zero_le _) rfl ?_ ?_
  · intro m s hI
    simp (disch := omega) only [wpX1_trade_2, wpX1_trade_2b, not_true_eq_false, not_false_eq_true, forall_const, true_implies, false_implies, implies_true, and_true, true_and, and_self, Nat.not_lt_zero, ne_eq, if_true, if_false, reduceIte, Nat.reduceAdd, Nat.reduceMul, Nat.reduceSub, Nat.reduceLT, Nat.reduceLeDiff, Nat.reduceEqDiff, eq_self_iff_true, L_0, L_1, L_2, L_3, L_4, L_5, L_6, L_7, L_8, L_9, L_10, L_16, L_20, L_21, L_24, L_31, L_64, L_100, L_320, L_400, L_1000, L_256, nI_add, pk_mul, pk_sub, nI_clamp, vp_in_nI, nI_ge, nI_le, nI_lt, nI_nlt, qI_ne, qI_eq, qI_m1, q_all, qI_nm, qI_nm2]
    rw [hI]; exact h
  · intro m i s hi hI hk
    simp (disch := omega) only [wpX1_trade_2, wpX1_trade_2b, q_and, q_xor, q_andz, not_true_eq_false, not_false_eq_true, forall_const, true_implies, false_implies, implies_true, and_true, true_and, and_self, Nat.not_lt_zero, ne_eq, if_true, if_false, reduceIte, Nat.reduceAdd, Nat.reduceMul, Nat.reduceSub, Nat.reduceLT, Nat.reduceLeDiff, Nat.reduceEqDiff, eq_self_iff_true, L_0, L_1, L_2, L_3, L_4, L_5, L_6, L_7, L_8, L_9, L_10, L_16, L_20, L_21, L_24, L_31, L_64, L_100, L_320, L_400, L_1000, L_256, nI_add, pk_mul, pk_sub, nI_clamp, vp_in_nI, nI_ge, nI_le, nI_lt, nI_nlt, qI_ne, qI_eq, qI_m1, q_all, qI_nm, qI_nm2]
    have hk : ∀ s', s' = (if i &&& 2 ^ a ≠ 0 ∧ i &&& 2 ^ b = 0 then prV exF i (i ^^^ 2 ^ a ^^^ 2 ^ b) s else s) → wpX1_trade_2 Q (nI (2 ^ n)) m (nI (2 ^ a)) (nI (2 ^ b)) (nI (i + 1)) s' := fun s' e => hk s' (by rw [e, hI]; rfl)
    refine ⟨fun h9 => hk _ ?_, fun h9 => ⟨fun h8 => ?_, fun h8 => hk _ ?_⟩⟩
    · rw [if_neg (fun h => h.1 h9)]
    · obtain ⟨b1, b2⟩ := b_sw n hn a ha b hb9 i hi h9 h8
      refine y_exchange (by omega) (by omega) b2 (hk _ ?_)
      rw [if_pos ⟨h9, h8⟩]
    · rw [if_neg (fun h => h8 h.2)]
theorem y_flip {Q : (Nat → Int64) → Prop} {n a c : Nat} {f : Nat → Int64} (hn : n < 5) (ha : a < n) (hc : c < 1024) (h : Q (foN (fun i V => if i &&& c = c ∧ i &&& 2 ^ a = 0 then prV exF i (i ||| 2 ^ a) V else V) (2 ^ n) f)) : wpX1_flip Q (nI c) (nI (2 ^ a)) (nI (2 ^ n)) f := by
  unfold wpX1_flip
  have hb := p16 (n := n) (by omega)
  refine pk_loop (σ := Nat → Int64) (fun m i s => wpX1_flip_2 Q (nI (2 ^ n)) m (nI c) (nI (2 ^ a)) (nI i) s) (fun i s => s = foN (fun i V => if i &&& c = c ∧ i &&& 2 ^ a = 0 then prV exF i (i ||| 2 ^ a) V else V) i f) (2 ^ n) 0 f (Nat.zero_le _) rfl ?_ ?_
  · intro m s hI
    simp (disch := omega) only [wpX1_flip_2, wpX1_flip_2b, not_true_eq_false, not_false_eq_true, forall_const, true_implies, false_implies, implies_true, and_true, true_and, and_self, Nat.not_lt_zero, ne_eq, if_true, if_false, reduceIte, Nat.reduceAdd, Nat.reduceMul, Nat.reduceSub, Nat.reduceLT, Nat.reduceLeDiff, Nat.reduceEqDiff, eq_self_iff_true, L_0, L_1, L_2, L_3, L_4, L_5, L_6, L_7, L_8, L_9, L_10, L_16, L_20, L_21, L_24, L_31, L_64, L_100, L_320, L_400, L_1000, L_256, nI_add, pk_mul, pk_sub, nI_clamp, vp_in_nI, nI_ge, nI_le, nI_lt, nI_nlt, qI_ne, qI_eq, qI_m1, q_all, qI_nm, qI_nm2]
    rw [hI]; exact h
  · intro m i s hi hI hk
    simp (disch := omega) only [wpX1_flip_2, wpX1_flip_2b, q_and, q_or, q_andz, q_andc, not_true_eq_false, not_false_eq_true, forall_const, true_implies, false_implies, implies_true, and_true, true_and, and_self, Nat.not_lt_zero, ne_eq, if_true, if_false, reduceIte, Nat.reduceAdd, Nat.reduceMul, Nat.reduceSub, Nat.reduceLT, Nat.reduceLeDiff, Nat.reduceEqDiff, eq_self_iff_true, L_0, L_1, L_2, L_3, L_4, L_5, L_6, L_7, L_8, L_9, L_10, L_16, L_20, L_21, L_24, L_31, L_64, L_100, L_320, L_400, L_1000, L_256, nI_add, pk_mul, pk_sub, nI_clamp, vp_in_nI, nI_ge, nI_le, nI_lt, nI_nlt, qI_ne, qI_eq, qI_m1, q_all, qI_nm, qI_nm2]
    have hk : ∀ s', s' = (if i &&& c = c ∧ i &&& 2 ^ a = 0 then prV exF i (i ||| 2 ^ a) s else s) → wpX1_flip_2 Q (nI (2 ^ n)) m (nI c) (nI (2 ^ a)) (nI (i + 1)) s' := fun s' e => hk s' (by rw [e, hI]; rfl)
    refine ⟨fun h9 => ⟨fun h8 => ?_, fun h8 => hk _ ?_⟩, fun h9 => hk _ ?_⟩
    · obtain ⟨b1, b2⟩ := b_or n hn a ha i hi h8
      refine y_exchange (by omega) (by omega) b2 (hk _ ?_)
      rw [if_pos ⟨h9, h8⟩]
    · rw [if_neg (fun h => h8 h.2)]
    · rw [if_neg (fun h => h9 h.1)]
theorem y_turn {Q : (Nat → Int64) → Prop} {n c t : Nat} {f : Nat → Int64} (hn : n < 5) (hc : c < 1024) (ht : t < 8) (h : Q (foN (fun i V => if i &&& c = c then tuV t i V else V) (2 ^ n) f)) : wpX1_turn Q (nI c) (nI t) (nI (2 ^ n)) f := by
  unfold wpX1_turn
  have hb := p16 (n := n) (by omega)
  refine pk_loop (σ := Nat → Int64) (fun m i s => wpX1_turn_2 Q (nI (2 ^ n)) m (nI c) (nI t) (nI i) s) (fun i s => s = foN (fun i V => if i &&& c = c then tuV t i V else V) i f) (2 ^ n) 0 f (Nat.zero_le _) rfl ?_ ?_
  · intro m s hI
    simp (disch := omega) only [wpX1_turn_2, wpX1_turn_2b, not_true_eq_false, not_false_eq_true, forall_const, true_implies, false_implies, implies_true, and_true, true_and, and_self, Nat.not_lt_zero, ne_eq, if_true, if_false, reduceIte, Nat.reduceAdd, Nat.reduceMul, Nat.reduceSub, Nat.reduceLT, Nat.reduceLeDiff, Nat.reduceEqDiff, eq_self_iff_true, L_0, L_1, L_2, L_3, L_4, L_5, L_6, L_7, L_8, L_9, L_10, L_16, L_20, L_21, L_24, L_31, L_64, L_100, L_320, L_400, L_1000, L_256, nI_add, pk_mul, pk_sub, nI_clamp, vp_in_nI, nI_ge, nI_le, nI_lt, nI_nlt, qI_ne, qI_eq, qI_m1, q_all, qI_nm, qI_nm2]
    rw [hI]; exact h
  · intro m i s hi hI hk
    simp (disch := omega) only [wpX1_turn_2, wpX1_turn_2b, q_and, q_andc, not_true_eq_false, not_false_eq_true, forall_const, true_implies, false_implies, implies_true, and_true, true_and, and_self, Nat.not_lt_zero, ne_eq, if_true, if_false, reduceIte, Nat.reduceAdd, Nat.reduceMul, Nat.reduceSub, Nat.reduceLT, Nat.reduceLeDiff, Nat.reduceEqDiff, eq_self_iff_true, L_0, L_1, L_2, L_3, L_4, L_5, L_6, L_7, L_8, L_9, L_10, L_16, L_20, L_21, L_24, L_31, L_64, L_100, L_320, L_400, L_1000, L_256, nI_add, pk_mul, pk_sub, nI_clamp, vp_in_nI, nI_ge, nI_le, nI_lt, nI_nlt, qI_ne, qI_eq, qI_m1, q_all, qI_nm, qI_nm2]
    have hk : ∀ s', s' = (if i &&& c = c then tuV t i s else s) → wpX1_turn_2 Q (nI (2 ^ n)) m (nI c) (nI t) (nI (i + 1)) s' := fun s' e => hk s' (by rw [e, hI]; rfl)
    refine ⟨fun h9 => ?_, fun h9 => hk _ ?_⟩
    · refine y_turnOne (by omega) ht (hk _ ?_)
      rw [if_pos h9]
    · rw [if_neg h9]
theorem gv_k {n g : Nat} (h : gv n g = true) : 1 ≤ kN g ∧ kN g ≤ 9 ∧ aN g < n := by
  unfold gv at h; simp at h; exact ⟨h.1.1.1, h.1.1.2, h.1.2⟩
theorem gv_2 {n g : Nat} (h : gv n g = true) (hk : 6 ≤ kN g) : bN g < n ∧ bN g ≠ aN g := by
  unfold gv at h
  simp only [Bool.and_eq_true] at h
  have h2 := h.2
  rw [if_neg (by omega)] at h2
  split at h2 <;> simp at h2
  · exact h2.1
  · exact ⟨h2.1.1.1.1.1, h2.1.1.1.1.2⟩
theorem gv_3 {n g : Nat} (h : gv n g = true) (hk : kN g = 9) : cN g < n ∧ cN g ≠ aN g ∧ cN g ≠ bN g := by
  unfold gv at h
  simp only [Bool.and_eq_true] at h
  have h2 := h.2
  rw [if_neg (by omega), if_neg (by omega)] at h2
  simp at h2
  exact ⟨h2.1.1.1.2, h2.1.1.2, h2.1.2⟩
theorem gv_e {n g : Nat} (h : gv n g = true) : g = (if kN g < 6 then kN g + 10 * aN g else if kN g < 9 then kN g + 10 * aN g + 100 * bN g else kN g + 10 * aN g + 100 * bN g + 1000 * cN g) := by
  unfold gv at h
  simp only [Bool.and_eq_true] at h
  have h2 := h.2
  split at h2
  · rename_i e; rw [if_pos e]; simpa using h2
  · rename_i e; rw [if_neg e]
    split at h2
    · rename_i e; rw [if_pos e]; simp at h2; exact h2.2
    · rename_i e; rw [if_neg e]; simp at h2; exact h2.2
theorem gv_lt {n g : Nat} (h : gv n g = true) : g < 10000 := by
  have h1 := gv_k h; have e := gv_e h; have a := aN_lt g; have b := bN_lt g; have c := cN_lt g
  split at e
  · omega
  · split at e <;> omega
theorem gv_up {n m g : Nat} (hm : n ≤ m) (h : gv n g = true) : gv m g = true := by
  unfold gv at h ⊢
  simp only [Bool.and_eq_true, decide_eq_true_eq] at h ⊢
  obtain ⟨h1, h2⟩ := h
  refine ⟨⟨h1.1, by omega⟩, ?_⟩
  split
  · rename_i e; rw [if_pos e] at h2; exact h2
  · rename_i e; rw [if_neg e] at h2
    split
    · rename_i e2; rw [if_pos e2] at h2; simp at h2 ⊢; omega
    · rename_i e2; rw [if_neg e2] at h2; simp at h2 ⊢; omega
theorem y_apply {Q : Int32 → (Nat → Int64) → Prop} {n e g : Nat} {f : Nat → Int64} (hn : n < 5) (hg : gv n g = true) (h : Q (nI (if kN g = 1 then e + 1 else e)) (actV n g f)) : wpX1_apply Q (nI g) (nI (2 ^ n)) (nI e) f := by
  have hl := gv_lt hg
  obtain ⟨k1, k9, ha⟩ := gv_k hg
  unfold wpX1_apply
  rw [y_k hl, y_A hl, y_B hl, y_wb hl, y_tb hl, y_cb hl, y_tu hl, y_fl hl]
  have hb := bN_lt g
  simp (disch := omega) only [nI_eq, q_shl1, not_true_eq_false, not_false_eq_true, forall_const, true_implies, false_implies, implies_true, and_true, true_and, and_self, Nat.not_lt_zero, ne_eq, if_true, if_false, reduceIte, Nat.reduceAdd, Nat.reduceMul, Nat.reduceSub, Nat.reduceLT, Nat.reduceLeDiff, Nat.reduceEqDiff, eq_self_iff_true, L_0, L_1, L_2, L_3, L_4, L_5, L_6, L_7, L_8, L_9, L_10, L_16, L_20, L_21, L_24, L_31, L_64, L_100, L_320, L_400, L_1000, L_256, nI_add, pk_mul, pk_sub, nI_clamp, vp_in_nI, nI_ge, nI_le, nI_lt, nI_nlt, qI_ne, qI_eq, qI_m1, q_all, qI_nm, qI_nm2]
  refine ⟨fun e1 => ?_, fun e1 => ⟨fun e8 => ?_, fun e8 => ⟨fun e4 => ⟨fun e7 => ?_, fun e7 => ?_⟩, fun e4 => ?_⟩⟩⟩
  · rw [if_pos e1] at h
    refine y_mix hn ha ?_
    have : actV n g f = foN (fun i V => if i &&& 2 ^ aN g = 0 then prV mixF i (i ||| 2 ^ aN g) V else V) (2 ^ n) f := foN_c (fun i V _ => by unfold stG; rw [if_pos e1])
    rw [← this]; exact h
  · rw [if_neg e1] at h
    refine y_trade hn ha (gv_2 hg (by omega)).1 ?_
    have : actV n g f = foN (fun i V => if i &&& 2 ^ aN g ≠ 0 ∧ i &&& 2 ^ bN g = 0 then prV exF i (i ^^^ 2 ^ aN g ^^^ 2 ^ bN g) V else V) (2 ^ n) f := foN_c (fun i V _ => by unfold stG; rw [if_neg e1, if_pos e8])
    rw [← this]; exact h
  · rw [if_neg e1] at h
    refine y_turn (t := 4) hn (wbN_lt g) (by omega) ?_
    have : actV n g f = foN (fun i V => if i &&& wbN g = wbN g then tuV 4 i V else V) (2 ^ n) f := foN_c (fun i V _ => by unfold stG; rw [if_neg e1, if_neg e8, if_neg (by omega), if_pos e7])
    rw [← this]; exact h
  · have e4' : ¬ (kN g = 4 ∨ kN g = 6 ∨ kN g = 9) := fun h9 => by rw [if_pos h9] at e4; exact absurd e4 (by decide)
    rw [if_neg e1] at h
    have ht := tuN_lt g
    refine y_turn (t := tuN g) hn (wbN_lt g) (by omega) ?_
    have : actV n g f = foN (fun i V => if i &&& wbN g = wbN g then tuV (tuN g) i V else V) (2 ^ n) f := foN_c (fun i V _ => by unfold stG; rw [if_neg e1, if_neg e8, if_neg e4', if_neg e7])
    rw [← this]; exact h
  · have e4' : kN g = 4 ∨ kN g = 6 ∨ kN g = 9 := Decidable.byContradiction (fun h9 => by rw [if_neg h9] at e4; exact e4 rfl)
    rw [if_neg e1] at h
    have htb : ∃ t, t < n ∧ tbN g = 2 ^ t := by
      unfold tbN
      by_cases e9 : kN g = 9
      · exact ⟨cN g, (gv_3 hg e9).1, by rw [if_pos e9]⟩
      · by_cases e6 : kN g = 6
        · exact ⟨bN g, (gv_2 hg (by omega)).1, by rw [if_neg e9, if_pos e6]⟩
        · exact ⟨aN g, ha, by rw [if_neg e9, if_neg e6]⟩
    obtain ⟨t, ht, et⟩ := htb
    rw [et]
    refine y_flip hn ht (cbN_lt g) ?_
    have : actV n g f = foN (fun i V => if i &&& cbN g = cbN g ∧ i &&& 2 ^ t = 0 then prV exF i (i ||| 2 ^ t) V else V) (2 ^ n) f := foN_c (fun i V _ => by unfold stG; rw [if_neg e1, if_neg e8, if_pos e4', et])
    rw [← this]; exact h
/-- n wires, d times the root of two, then the gates -/
def rtV (n : Nat) : Nat → (Nat → Int64) → Nat → Int64
  | 0, V => V
  | d + 1, V => rtV n d (foN grV (2 ^ n) V)
def acts (n : Nat) (L : List Nat) (V : Nat → Int64) : Nat → Int64 := L.foldl (fun W g => actV n g W) V
def iniV (f : Nat → Int64) (b : Nat) : Nat → Int64 := fun k => if k = 4 * b then 1 else if k < 64 then 0 else f k
def hN (L : List Nat) : Nat := L.countP (fun g => g % 10 = 1)
theorem y_fill {Q : (Nat → Int64) → Prop} {f : Nat → Int64} (h : Q (fun k => if k < 64 then 0 else f k)) : wpJ7_fill_d0a16 Q 0 f := by
  unfold wpJ7_fill_d0a16
  refine pk_loop (σ := Nat → Int64) (fun m i s => wpJ7_fill_d0a16_6 Q m 0 (nI i) (nI 64) s) (fun i s => ∀ k, s k = if k < i then 0 else f k) 64 0 f (Nat.zero_le _) (fun k => by rw [if_neg (by omega)]) ?_ ?_
  · intro m s hI
    simp (disch := omega) only [wpJ7_fill_d0a16_6, wpJ7_fill_d0a16_6b, not_true_eq_false, not_false_eq_true, forall_const, true_implies, false_implies, implies_true, and_true, true_and, and_self, Nat.not_lt_zero, ne_eq, if_true, if_false, reduceIte, Nat.reduceAdd, Nat.reduceMul, Nat.reduceSub, Nat.reduceLT, Nat.reduceLeDiff, Nat.reduceEqDiff, eq_self_iff_true, L_0, L_1, L_2, L_3, L_4, L_5, L_6, L_7, L_8, L_9, L_10, L_16, L_20, L_21, L_24, L_31, L_64, L_100, L_320, L_400, L_1000, L_256, nI_add, pk_mul, pk_sub, nI_clamp, vp_in_nI, nI_ge, nI_le, nI_lt, nI_nlt, qI_ne, qI_eq, qI_m1, q_all, qI_nm, qI_nm2]
    rw [show s = _ from funext hI]; exact h
  · intro m i s hi hI hk
    simp (disch := omega) only [wpJ7_fill_d0a16_6, wpJ7_fill_d0a16_6b, not_true_eq_false, not_false_eq_true, forall_const, true_implies, false_implies, implies_true, and_true, true_and, and_self, Nat.not_lt_zero, ne_eq, if_true, if_false, reduceIte, Nat.reduceAdd, Nat.reduceMul, Nat.reduceSub, Nat.reduceLT, Nat.reduceLeDiff, Nat.reduceEqDiff, eq_self_iff_true, L_0, L_1, L_2, L_3, L_4, L_5, L_6, L_7, L_8, L_9, L_10, L_16, L_20, L_21, L_24, L_31, L_64, L_100, L_320, L_400, L_1000, L_256, nI_add, pk_mul, pk_sub, nI_clamp, vp_in_nI, nI_ge, nI_le, nI_lt, nI_nlt, qI_ne, qI_eq, qI_m1, q_all, qI_nm, qI_nm2]
    refine hk _ (fun k => ?_)
    by_cases e : k = i
    · rw [e, pk_uLs, if_pos (by omega)]
    · rw [pk_uLn e, hI k]
      by_cases e2 : k < i
      · rw [if_pos e2, if_pos (by omega)]
      · rw [if_neg e2, if_neg (by omega)]
theorem y_run66 {Q : Int32 → Int32 → (Nat → Int64) → Prop} {n e : Nat} {c : Int32} {g : Nat → Int32} {L : List Nat} {f : Nat → Int64} (hn : n < 5) (hC : CR c g L) (hv : ∀ x ∈ L, gv n x = true) (h : Q (nI (2 ^ n)) (nI (e + hN L)) (acts n L f)) : wpX1_run_66 Q c g (nI (2 ^ n)) (nI e) f := by
  unfold wpX1_run_66
  have hc := hC.1
  rw [hc] at hC ⊢
  have hl := hC.2.1
  refine pk_loop (σ := Nat → Int64) (fun m i s => wpX1_run_69 Q (nI L.length) g m (nI i) (nI (2 ^ n)) (nI (e + hN (L.take i))) s) (fun i s => s = acts n (L.take i) f) L.length 0 f (Nat.zero_le _) rfl ?_ ?_
  · intro m s hI
    rw [List.take_length] at hI ⊢
    simp (disch := omega) only [wpX1_run_69, wpX1_run_69b, zvX0_count, not_true_eq_false, not_false_eq_true, forall_const, true_implies, false_implies, implies_true, and_true, true_and, and_self, Nat.not_lt_zero, ne_eq, if_true, if_false, reduceIte, Nat.reduceAdd, Nat.reduceMul, Nat.reduceSub, Nat.reduceLT, Nat.reduceLeDiff, Nat.reduceEqDiff, eq_self_iff_true, L_0, L_1, L_2, L_3, L_4, L_5, L_6, L_7, L_8, L_9, L_10, L_16, L_20, L_21, L_24, L_31, L_64, L_100, L_320, L_400, L_1000, L_256, nI_add, pk_mul, pk_sub, nI_clamp, vp_in_nI, nI_ge, nI_le, nI_lt, nI_nlt, qI_ne, qI_eq, qI_m1, q_all, qI_nm, qI_nm2]
    rw [hI]; exact h
  · intro m i s hi hI hk
    have e1 := g_take (d := 0) hi
    simp (disch := omega) only [wpX1_run_69, wpX1_run_69b, zvX0_count, not_true_eq_false, not_false_eq_true, forall_const, true_implies, false_implies, implies_true, and_true, true_and, and_self, Nat.not_lt_zero, ne_eq, if_true, if_false, reduceIte, Nat.reduceAdd, Nat.reduceMul, Nat.reduceSub, Nat.reduceLT, Nat.reduceLeDiff, Nat.reduceEqDiff, eq_self_iff_true, L_0, L_1, L_2, L_3, L_4, L_5, L_6, L_7, L_8, L_9, L_10, L_16, L_20, L_21, L_24, L_31, L_64, L_100, L_320, L_400, L_1000, L_256, nI_add, pk_mul, pk_sub, nI_clamp, vp_in_nI, nI_ge, nI_le, nI_lt, nI_nlt, qI_ne, qI_eq, qI_m1, q_all, qI_nm, qI_nm2]
    refine y_at hC hi (y_apply hn (hv _ (g_mem hi)) ?_)
    have e2 : (if kN (L.getD i 0) = 1 then e + hN (L.take i) + 1 else e + hN (L.take i)) = e + hN (L.take (i + 1)) := by
      rw [e1]; unfold hN kN; rw [List.countP_append, List.countP_singleton]
      by_cases h1 : L.getD i 0 % 10 = 1
      · rw [if_pos h1, if_pos (by simpa using h1)]; omega
      · rw [if_neg h1, if_neg (by simpa using h1)]; omega
    rw [e2]
    refine hk _ ?_
    rw [e1, hI]; unfold acts; rw [List.foldl_append]; rfl
theorem y_run41 {Q : Int32 → Int32 → (Nat → Int64) → Prop} {n due : Nat} {c : Int32} {g : Nat → Int32} {L : List Nat} {f : Nat → Int64} (hn : n < 5) (hC : CR c g L) (hv : ∀ x ∈ L, gv n x = true) (hd : hN L ≤ due) (hd2 : due < 2 ^ 31) (h : Q (nI (2 ^ n)) (nI due) (acts n L (rtV n (due - hN L) f))) : wpX1_run_41 Q c g (nI due) (nI (2 ^ n)) 0 f := by
  unfold wpX1_run_41
  refine y_countKind (k := 1) (by omega) hC ?_
  show ∃ m, wpX1_run_51 Q c g m (nI due - nI (hN L)) (nI (2 ^ n)) (nI 0) f
  rw [pk_sub hd]
  refine ⟨due - hN L + 1, ?_⟩
  refine pk_loopD (σ := Nat × (Nat → Int64)) (fun m d s => wpX1_run_51 Q c g m (nI d) (nI (2 ^ n)) (nI s.1) s.2) (fun d s => d + s.1 = due - hN L ∧ rtV n d s.2 = rtV n (due - hN L) f) ?_ ?_ (due - hN L) (0, f) ⟨rfl, rfl⟩
  · intro m s hI
    simp (disch := omega) only [wpX1_run_51, wpX1_run_51b, not_true_eq_false, not_false_eq_true, forall_const, true_implies, false_implies, implies_true, and_true, true_and, and_self, Nat.not_lt_zero, ne_eq, if_true, if_false, reduceIte, Nat.reduceAdd, Nat.reduceMul, Nat.reduceSub, Nat.reduceLT, Nat.reduceLeDiff, Nat.reduceEqDiff, eq_self_iff_true, L_0, L_1, L_2, L_3, L_4, L_5, L_6, L_7, L_8, L_9, L_10, L_16, L_20, L_21, L_24, L_31, L_64, L_100, L_320, L_400, L_1000, L_256, nI_add, pk_mul, pk_sub, nI_clamp, vp_in_nI, nI_ge, nI_le, nI_lt, nI_nlt, qI_ne, qI_eq, qI_m1, q_all, qI_nm, qI_nm2]
    refine y_run66 hn hC hv ?_
    rw [show s.1 + hN L = due by omega, show s.2 = _ from hI.2]; exact h
  · intro m d s hI hk
    simp (disch := omega) only [wpX1_run_51, wpX1_run_51b, not_true_eq_false, not_false_eq_true, forall_const, true_implies, false_implies, implies_true, and_true, true_and, and_self, Nat.not_lt_zero, ne_eq, if_true, if_false, reduceIte, Nat.reduceAdd, Nat.reduceMul, Nat.reduceSub, Nat.reduceLT, Nat.reduceLeDiff, Nat.reduceEqDiff, eq_self_iff_true, L_0, L_1, L_2, L_3, L_4, L_5, L_6, L_7, L_8, L_9, L_10, L_16, L_20, L_21, L_24, L_31, L_64, L_100, L_320, L_400, L_1000, L_256, nI_add, pk_mul, pk_sub, nI_clamp, vp_in_nI, nI_ge, nI_le, nI_lt, nI_nlt, qI_ne, qI_eq, qI_m1, q_all, qI_nm, qI_nm2]
    refine y_raise (by omega) ?_
    rw [show d + 1 - 1 = d from rfl]
    exact hk (s.1 + 1, _) ⟨by show d + (s.1 + 1) = _; omega, hI.2⟩
theorem y_run {Q : Int32 → Int32 → (Nat → Int64) → Prop} {n b due : Nat} {c : Int32} {g : Nat → Int32} {L : List Nat} {s e : Int32} {f : Nat → Int64} (hn : n < 5) (hb : b < 2 ^ n) (hC : CR c g L) (hv : ∀ x ∈ L, gv n x = true) (hd : hN L ≤ due) (hd2 : due < 2 ^ 31) (h : Q (nI (2 ^ n)) (nI due) (acts n L (rtV n (due - hN L) (iniV f b)))) : wpX1_run Q (nI b) (nI n) (nI due) c g s e f := by
  unfold wpX1_run
  have h16 := p16 (n := n) (by omega)
  refine y_fill ?_
  simp (disch := omega) only [q_shl1, not_true_eq_false, not_false_eq_true, forall_const, true_implies, false_implies, implies_true, and_true, true_and, and_self, Nat.not_lt_zero, ne_eq, if_true, if_false, reduceIte, Nat.reduceAdd, Nat.reduceMul, Nat.reduceSub, Nat.reduceLT, Nat.reduceLeDiff, Nat.reduceEqDiff, eq_self_iff_true, L_0, L_1, L_2, L_3, L_4, L_5, L_6, L_7, L_8, L_9, L_10, L_16, L_20, L_21, L_24, L_31, L_64, L_100, L_320, L_400, L_1000, L_256, nI_add, pk_mul, pk_sub, nI_clamp, vp_in_nI, nI_ge, nI_le, nI_lt, nI_nlt, qI_ne, qI_eq, qI_m1, q_all, qI_nm, qI_nm2]
  exact y_run41 hn hC hv hd hd2 h
