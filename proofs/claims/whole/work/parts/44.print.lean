/-! Printing, both sides. -/
def leN (k : Nat) : Nat := if k = 1 then 104 else if k = 2 then 115 else if k = 3 then 116 else if k = 4 then 120 else if k = 5 then 122 else if k = 6 then 99 else if k = 7 then 100 else if k = 8 then 119 else 111
theorem le_m : ∀ k, k < 10 → zvX7_letterOf (nI k) = nI (leN k) := by decide +kernel
theorem le_c : ∀ k, k < 9 → zvS_charAt (nI k) = nI (leN (k + 1)) := by decide +kernel
theorem leN_lt (k : Nat) : leN k < 127 := by
  unfold leN
  repeat' split
  all_goals omega
def prG (g : Nat) : List Nat := [leN (kN g), 48 + aN g] ++ (if 6 ≤ kN g then [48 + bN g] else []) ++ (if kN g = 9 then [48 + cN g] else [])
def prT (L : List Nat) : Nat → List Nat
  | 0 => []
  | i + 1 => prT L i ++ (if 0 < i then [32] else []) ++ prG (L.getD i 0)
theorem prG_len (g : Nat) : (prG g).length ≤ 4 := by
  unfold prG
  by_cases h6 : 6 ≤ kN g
  · by_cases h9 : kN g = 9
    · simp [h9]
    · simp [h6, h9]
  · simp [h6, show ¬ kN g = 9 by omega]
theorem prT_len (L : List Nat) : ∀ i, (prT L i).length ≤ 5 * i := by
  intro i
  induction i with
  | zero => exact Nat.le_refl _
  | succ i ih =>
    show (prT L i ++ _ ++ prG _).length ≤ _
    have h1 := prG_len (L.getD i 0)
    rw [List.length_append, List.length_append]
    by_cases h : 0 < i
    · rw [if_pos h]; simp only [List.length_cons, List.length_nil]; omega
    · rw [if_neg h]; simp only [List.length_nil]; omega
theorem y_wrG {Q : Int32 → (Nat → Int32) → Prop} {c : Int32} {f : Nat → Int32} {T : List Nat} {g : Nat} (hT : TX c f T) (hl : T.length + 4 ≤ 320) (hg : g < 10000) (h1 : 1 ≤ kN g) (h : ∀ c' f', TX c' f' (T ++ prG g) → Q c' f') : wpX5_writeGate Q (nI g) c f := by
  have k9 := kN_lt g; have a9 := aN_lt g; have b9 := bN_lt g; have c9 := cN_lt g; have l9 := leN_lt (kN g)
  have dq : ∀ d, d < 10 → 48 + d < 65536 := fun d hd => by omega
  have e10 : nI g / 10 = nI (g / 10) := pk_div (d := 10) (by omega) (by omega) (by omega)
  have e100 : nI (g / 10) / 10 = nI (g / 100) := by
    have e : nI (g / 10) / 10 = nI (g / 10 / 10) := pk_div (d := 10) (by omega) (by omega) (by omega)
    rw [e, Nat.div_div_eq_div_mul]
  have e1000 : nI (g / 100) / 10 = nI (g / 1000) := by
    have e : nI (g / 100) / 10 = nI (g / 100 / 10) := pk_div (d := 10) (by omega) (by omega) (by omega)
    rw [e, Nat.div_div_eq_div_mul]
  have r1 : nI (g / 10) - nI (g / 100) * 10 = nI (aN g) := by
    have e : nI (g / 10) - nI (g / 10) / 10 * 10 = nI (g / 10 % 10) := pk_rem (d := 10) (by omega) (by omega) (by omega)
    rw [e100] at e; exact e
  have r2 : nI (g / 100) - nI (g / 1000) * 10 = nI (bN g) := by
    have e : nI (g / 100) - nI (g / 100) / 10 * 10 = nI (g / 100 % 10) := pk_rem (d := 10) (by omega) (by omega) (by omega)
    rw [e1000] at e; exact e
  have r3 : nI (g / 1000) - nI (g / 1000) / 10 * 10 = nI (cN g) := pk_rem (d := 10) (by omega) (by omega) (by omega)
  have p48 : ∀ d, d < 10 → (((48 : Int32) + nI d).toUInt32 % 65536).toInt32 = nI (48 + d) := fun d hd => by
    rw [show (48 : Int32) = nI 48 from rfl, nI_add]; exact ch_c (by omega)
  unfold wpX5_writeGate
  rw [y_k hg, e10]
  simp (disch := omega) only [le_c (kN g - 1) (by omega), not_true_eq_false, not_false_eq_true, forall_const, true_implies, false_implies, implies_true, and_true, true_and, and_self, Nat.not_lt_zero, ne_eq, if_true, if_false, reduceIte, Nat.reduceAdd, Nat.reduceMul, Nat.reduceSub, Nat.reduceLT, Nat.reduceLeDiff, Nat.reduceEqDiff, Nat.add_sub_cancel, eq_self_iff_true, L_0, L_1, L_2, L_3, L_4, L_5, L_6, L_7, L_8, L_9, L_10, L_16, L_20, L_21, L_24, L_31, L_64, L_100, L_320, L_400, L_1000, L_256, nI_add, pk_mul, pk_sub, nI_clamp, vp_in_nI, nI_ge, nI_le, nI_lt, nI_nlt, qI_ne, qI_eq, qI_m1, q_all, qI_nm, qI_nm2]
  rw [show kN g - 1 + 1 = kN g by omega]
  refine t_put hT (by omega) l9 (fun c1 f1 hA => ?_)
  refine ⟨4, ?_⟩
  have ew := y_ws (kN g) k9
  rcases wsN_3 (kN g) with e | e | e
  · rw [e] at ew
    have hk : ¬ 6 ≤ kN g ∧ ¬ kN g = 9 := by unfold wsN at e; split at e <;> (try split at e) <;> omega
    simp only [wpX5_writeGate_40, wpX5_writeGate_40b, ew]
    refine ⟨fun h9 => absurd h9 (by decide), fun _ => ?_⟩
    rw [e100, r1, p48 _ a9]
    refine t_put hA (by simp; omega) (by omega) (fun c2 f2 hB => ?_)
    intro x _
    refine ⟨fun _ => h _ _ ?_, fun h9 => absurd (by decide) h9⟩
    unfold prG; rw [if_neg hk.1, if_neg hk.2]; simpa using hB
  · rw [e] at ew
    have hk : 6 ≤ kN g ∧ ¬ kN g = 9 := by unfold wsN at e; split at e <;> (try split at e) <;> omega
    simp only [wpX5_writeGate_40, wpX5_writeGate_40b, ew]
    refine ⟨fun h9 => absurd h9 (by decide), fun _ => ?_⟩
    rw [e100, r1, p48 _ a9]
    refine t_put hA (by simp; omega) (by omega) (fun c2 f2 hB => ?_)
    rw [q_all]
    refine ⟨fun h9 => absurd h9 (by decide), fun _ => ?_⟩
    rw [e1000, r2, p48 _ b9]
    refine t_put hB (by simp; omega) (by omega) (fun c3 f3 hC => ?_)
    intro x _
    refine ⟨fun _ => h _ _ ?_, fun h9 => absurd (by decide) h9⟩
    unfold prG; rw [if_pos hk.1, if_neg hk.2]; simpa using hC
  · rw [e] at ew
    have hk : 6 ≤ kN g ∧ kN g = 9 := by unfold wsN at e; split at e <;> (try split at e) <;> omega
    simp only [wpX5_writeGate_40, wpX5_writeGate_40b, ew]
    refine ⟨fun h9 => absurd h9 (by decide), fun _ => ?_⟩
    rw [e100, r1, p48 _ a9]
    refine t_put hA (by simp; omega) (by omega) (fun c2 f2 hB => ?_)
    rw [q_all]
    refine ⟨fun h9 => absurd h9 (by decide), fun _ => ?_⟩
    rw [e1000, r2, p48 _ b9]
    refine t_put hB (by simp; omega) (by omega) (fun c3 f3 hC => ?_)
    rw [q_all]
    refine ⟨fun h9 => absurd h9 (by decide), fun _ => ?_⟩
    rw [r3, p48 _ c9]
    refine t_put hC (by simp; omega) (by omega) (fun c4 f4 hD => ?_)
    intro x _
    refine ⟨fun _ => h _ _ ?_, fun h9 => absurd (by decide) h9⟩
    unfold prG; rw [if_pos hk.1, if_pos hk.2]; simpa using hD
theorem y_write {Q : Int32 → (Nat → Int32) → Prop} {c c2 : Int32} {f f2 : Nat → Int32} {L : List Nat} (hC : CR c2 f2 L) (hk1 : ∀ x ∈ L, 1 ≤ kN x) (h : ∀ c' f', TX c' f' (prT L L.length) → Q c' f') : wpX5_write Q c2 f2 c f := by
  unfold wpX5_write wpX5_removeAll
  have hc := hC.1
  rw [hc] at hC ⊢
  have hl := hC.2.1
  refine pk_loop (σ := Int32 × (Nat → Int32)) (fun m i s => wpX5_write_6 Q (nI L.length) f2 m (nI i) s.1 s.2) (fun i s => TX s.1 s.2 (prT L i)) L.length 0 (0, f) (Nat.zero_le _) (TX_0 f) ?_ ?_
  · intro m s hI
    simp (disch := omega) only [wpX5_write_6, wpX5_write_6b, zvX0_count, not_true_eq_false, not_false_eq_true, forall_const, true_implies, false_implies, implies_true, and_true, true_and, and_self, Nat.not_lt_zero, ne_eq, if_true, if_false, reduceIte, Nat.reduceAdd, Nat.reduceMul, Nat.reduceSub, Nat.reduceLT, Nat.reduceLeDiff, Nat.reduceEqDiff, Nat.add_sub_cancel, eq_self_iff_true, L_0, L_1, L_2, L_3, L_4, L_5, L_6, L_7, L_8, L_9, L_10, L_16, L_20, L_21, L_24, L_31, L_64, L_100, L_320, L_400, L_1000, L_256, nI_add, pk_mul, pk_sub, nI_clamp, vp_in_nI, nI_ge, nI_le, nI_lt, nI_nlt, qI_ne, qI_eq, qI_m1, q_all, qI_nm, qI_nm2]
    exact h _ _ hI
  · intro m i s hi hI hk
    have hgl := (hC.2.2 i hi).1
    have hpl := prT_len L i
    have hgk := hk1 _ (g_mem (d := 0) hi)
    have fin : ∀ c1 f1, TX c1 f1 (prT L i ++ (if 0 < i then [32] else [])) → wpX5_write_24 Q (wpX5_write_6 Q (nI L.length) f2 m) (nI L.length) f2 (nI i) c1 f1 := fun c1 f1 h1 => by
      simp (disch := omega) only [wpX5_write_24, not_true_eq_false, not_false_eq_true, forall_const, true_implies, false_implies, implies_true, and_true, true_and, and_self, Nat.not_lt_zero, ne_eq, if_true, if_false, reduceIte, Nat.reduceAdd, Nat.reduceMul, Nat.reduceSub, Nat.reduceLT, Nat.reduceLeDiff, Nat.reduceEqDiff, Nat.add_sub_cancel, eq_self_iff_true, L_0, L_1, L_2, L_3, L_4, L_5, L_6, L_7, L_8, L_9, L_10, L_16, L_20, L_21, L_24, L_31, L_64, L_100, L_320, L_400, L_1000, L_256, nI_add, pk_mul, pk_sub, nI_clamp, vp_in_nI, nI_ge, nI_le, nI_lt, nI_nlt, qI_ne, qI_eq, qI_m1, q_all, qI_nm, qI_nm2]
      refine y_at hC hi (y_wrG h1 ?_ hgl hgk (fun c' f' h' => hk (c', f') h'))
      rw [List.length_append]
      by_cases h0 : 0 < i
      · rw [if_pos h0]; simp only [List.length_cons, List.length_nil]; omega
      · rw [if_neg h0]; simp only [List.length_nil]; omega
    simp (disch := omega) only [wpX5_write_6, wpX5_write_6b, zvX0_count, not_true_eq_false, not_false_eq_true, forall_const, true_implies, false_implies, implies_true, and_true, true_and, and_self, Nat.not_lt_zero, ne_eq, if_true, if_false, reduceIte, Nat.reduceAdd, Nat.reduceMul, Nat.reduceSub, Nat.reduceLT, Nat.reduceLeDiff, Nat.reduceEqDiff, Nat.add_sub_cancel, eq_self_iff_true, L_0, L_1, L_2, L_3, L_4, L_5, L_6, L_7, L_8, L_9, L_10, L_16, L_20, L_21, L_24, L_31, L_64, L_100, L_320, L_400, L_1000, L_256, nI_add, pk_mul, pk_sub, nI_clamp, vp_in_nI, nI_ge, nI_le, nI_lt, nI_nlt, qI_ne, qI_eq, qI_m1, q_all, qI_nm, qI_nm2]
    by_cases h0 : 0 < i
    · refine ⟨fun h9 => absurd h9 (nI_nle h0 (by omega)), fun _ => ?_⟩
      refine t_put (x := 32) hI (by omega) (by omega) (fun c1 f1 h1 => fin _ _ ?_)
      rw [if_pos h0]; exact h1
    · refine ⟨fun _ => fin _ _ ?_, fun h9 => absurd (nI_le (b := 0) (by omega) (by omega)) h9⟩
      rw [if_neg h0, List.append_nil]; exact hI
theorem m_say {Q : Int32 → (Nat → Int32) → Prop} {c : Int32} {f : Nat → Int32} {T : List Nat} {x : Nat} {y : Int32} (hT : TX c f T) (hl : T.length < 320) (hx : x < 127) (hy : y = nI x) (h : ∀ c' f', TX c' f' (T ++ [x]) → Q c' f') : wpX7_say Q y c f := by
  obtain ⟨rfl, hT⟩ := hT
  subst hy
  simp (disch := omega) only [wpX7_say, not_true_eq_false, not_false_eq_true, forall_const, true_implies, false_implies, implies_true, and_true, true_and, and_self, Nat.not_lt_zero, ne_eq, if_true, if_false, reduceIte, Nat.reduceAdd, Nat.reduceMul, Nat.reduceSub, Nat.reduceLT, Nat.reduceLeDiff, Nat.reduceEqDiff, Nat.add_sub_cancel, eq_self_iff_true, L_0, L_1, L_2, L_3, L_4, L_5, L_6, L_7, L_8, L_9, L_10, L_16, L_20, L_21, L_24, L_31, L_64, L_100, L_320, L_400, L_1000, L_256, nI_add, pk_mul, pk_sub, nI_clamp, vp_in_nI, nI_ge, nI_le, nI_lt, nI_nlt, qI_ne, qI_eq, qI_m1, q_all, qI_nm, qI_nm2]
  exact h _ _ (TX_add ⟨rfl, hT⟩ hl hx)
section
variable {z k a b c : Nat → Int32} {Ls : Nat → List Nat}
theorem m_print13 {Q : Int32 → Int32 → Int32 → (Nat → Int32) → Prop} {s : Nat} {ft ln : Int32} {f : Nat → Int32} (hM : MM z k a b c Ls) (hs : s < 3) (hk1 : ∀ x ∈ Ls s, 1 ≤ kN x)
    (h : ∀ c' f', TX c' f' (prT (Ls s) (Ls s).length) → Q c' 0 c' f') : wpX7_print_13 Q z k a b c (nI s) 0 ft ln f := by
  obtain ⟨es, hl, hgs⟩ := hM s (by omega)
  simp (disch := omega) only [wpX7_print_13, not_true_eq_false, not_false_eq_true, forall_const, true_implies, false_implies, implies_true, and_true, true_and, and_self, Nat.not_lt_zero, ne_eq, if_true, if_false, reduceIte, Nat.reduceAdd, Nat.reduceMul, Nat.reduceSub, Nat.reduceLT, Nat.reduceLeDiff, Nat.reduceEqDiff, Nat.add_sub_cancel, eq_self_iff_true, L_0, L_1, L_2, L_3, L_4, L_5, L_6, L_7, L_8, L_9, L_10, L_16, L_20, L_21, L_24, L_31, L_64, L_100, L_320, L_400, L_1000, L_256, nI_add, pk_mul, pk_sub, nI_clamp, vp_in_nI, nI_ge, nI_le, nI_lt, nI_nlt, qI_ne, qI_eq, qI_m1, q_all, qI_nm, qI_nm2]
  refine pk_loop (σ := Int32 × (Nat → Int32)) (fun m i v => wpX7_print_32 Q z k a b c m (nI s) (nI i) (nI 0) v.1 v.2) (fun i v => TX v.1 v.2 (prT (Ls s) i)) (Ls s).length 0 (0, f) (Nat.zero_le _) (TX_0 f) ?_ ?_
  · intro m v hI
    simp (disch := omega) only [wpX7_print_32, wpX7_print_32b, es, not_true_eq_false, not_false_eq_true, forall_const, true_implies, false_implies, implies_true, and_true, true_and, and_self, Nat.not_lt_zero, ne_eq, if_true, if_false, reduceIte, Nat.reduceAdd, Nat.reduceMul, Nat.reduceSub, Nat.reduceLT, Nat.reduceLeDiff, Nat.reduceEqDiff, Nat.add_sub_cancel, eq_self_iff_true, L_0, L_1, L_2, L_3, L_4, L_5, L_6, L_7, L_8, L_9, L_10, L_16, L_20, L_21, L_24, L_31, L_64, L_100, L_320, L_400, L_1000, L_256, nI_add, pk_mul, pk_sub, nI_clamp, vp_in_nI, nI_ge, nI_le, nI_lt, nI_nlt, qI_ne, qI_eq, qI_m1, q_all, qI_nm, qI_nm2]
    exact h _ _ hI
  · intro m i v hi hI hk
    obtain ⟨hgl, f1, f2, f3, f4⟩ := hgs i hi
    have hpl := prT_len (Ls s) i
    have hgk := hk1 _ (g_mem (d := 0) hi)
    have k9 := kN_lt ((Ls s).getD i 0); have a9 := aN_lt ((Ls s).getD i 0); have b9 := bN_lt ((Ls s).getD i 0); have c9 := cN_lt ((Ls s).getD i 0)
    have p48 : ∀ d, (48 : Int32) + nI d = nI (48 + d) := fun d => nI_add 48 d
    have fin : ∀ c1 f1, TX c1 f1 (prT (Ls s) i ++ (if 0 < i then [32] else [])) → wpX7_print_59 Q (wpX7_print_32 Q z k a b c m) z k a b c (nI s) (nI i) (nI (64 * s + i)) (nI 0) c1 f1 := fun c1 g1 h1 => by
      have hl1 : (prT (Ls s) i ++ (if 0 < i then [32] else [])).length + 4 ≤ 320 := by
        rw [List.length_append]
        by_cases h0 : 0 < i
        · rw [if_pos h0]; simp only [List.length_cons, List.length_nil]; omega
        · rw [if_neg h0]; simp only [List.length_nil]; omega
      simp (disch := omega) only [wpX7_print_59, f1, f2, f3, not_true_eq_false, not_false_eq_true, forall_const, true_implies, false_implies, implies_true, and_true, true_and, and_self, Nat.not_lt_zero, ne_eq, if_true, if_false, reduceIte, Nat.reduceAdd, Nat.reduceMul, Nat.reduceSub, Nat.reduceLT, Nat.reduceLeDiff, Nat.reduceEqDiff, Nat.add_sub_cancel, eq_self_iff_true, L_0, L_1, L_2, L_3, L_4, L_5, L_6, L_7, L_8, L_9, L_10, L_16, L_20, L_21, L_24, L_31, L_64, L_100, L_320, L_400, L_1000, L_256, nI_add, pk_mul, pk_sub, nI_clamp, vp_in_nI, nI_ge, nI_le, nI_lt, nI_nlt, qI_ne, qI_eq, qI_m1, q_all, qI_nm, qI_nm2]
      refine m_say h1 (by omega) (leN_lt (kN ((Ls s).getD i 0))) (le_m _ k9) (fun c2 g2 h2 => ?_)
      refine m_say h2 (by rw [List.length_append]; simp only [List.length_cons, List.length_nil]; omega) (x := 48 + aN ((Ls s).getD i 0)) (by omega) (p48 _) (fun c3 g3 h3 => ?_)
      have e107 : ∀ c4 g4, TX c4 g4 (prT (Ls s) i ++ (if 0 < i then [32] else []) ++ [leN (kN ((Ls s).getD i 0))] ++ [48 + aN ((Ls s).getD i 0)] ++ (if 6 ≤ kN ((Ls s).getD i 0) then [48 + bN ((Ls s).getD i 0)] else [])) → wpX7_print_107 Q (wpX7_print_32 Q z k a b c m) z k a b c (nI s) (nI i) (nI (64 * s + i)) (nI 0) c4 g4 := fun c4 g4 h4 => by
        simp (disch := omega) only [wpX7_print_107, f4, not_true_eq_false, not_false_eq_true, forall_const, true_implies, false_implies, implies_true, and_true, true_and, and_self, Nat.not_lt_zero, ne_eq, if_true, if_false, reduceIte, Nat.reduceAdd, Nat.reduceMul, Nat.reduceSub, Nat.reduceLT, Nat.reduceLeDiff, Nat.reduceEqDiff, Nat.add_sub_cancel, eq_self_iff_true, L_0, L_1, L_2, L_3, L_4, L_5, L_6, L_7, L_8, L_9, L_10, L_16, L_20, L_21, L_24, L_31, L_64, L_100, L_320, L_400, L_1000, L_256, nI_add, pk_mul, pk_sub, nI_clamp, vp_in_nI, nI_ge, nI_le, nI_lt, nI_nlt, qI_ne, qI_eq, qI_m1, q_all, qI_nm, qI_nm2]
        rw [m3_n]
        refine ⟨fun h9 => hk (c4, g4) ?_, fun h9 => ?_⟩
        · show TX c4 g4 (prT (Ls s) i ++ _ ++ prG _)
          unfold prG; rw [if_neg h9]; simpa using h4
        · have e9 : kN ((Ls s).getD i 0) = 9 := Decidable.not_not.mp h9
          rw [m3_p e9]
          refine m_say h4 ?_ (x := 48 + cN ((Ls s).getD i 0)) (by omega) (p48 _) (fun c5 g5 h5 => hk (c5, g5) ?_)
          · have e6 : 6 ≤ kN ((Ls s).getD i 0) := by omega
            rw [if_pos e6]; simp only [List.length_append, List.length_cons, List.length_nil] at hl1 ⊢; omega
          · show TX c5 g5 (prT (Ls s) i ++ _ ++ prG _)
            unfold prG; rw [if_pos e9]; simpa using h5
      rw [m2_n]
      refine ⟨fun h9 => e107 _ _ (by rw [if_neg h9, List.append_nil]; exact h3), fun h9 => ?_⟩
      have e6 : 6 ≤ kN ((Ls s).getD i 0) := Decidable.not_not.mp h9
      rw [m2_p e6]
      refine m_say h3 (by simp only [List.length_append, List.length_cons, List.length_nil] at hl1 ⊢; omega) (x := 48 + bN ((Ls s).getD i 0)) (by omega) (p48 _) (fun c4 g4 h4 => e107 _ _ ?_)
      rw [if_pos e6]; exact h4
    simp (disch := omega) only [wpX7_print_32, wpX7_print_32b, es, q_all, not_true_eq_false, not_false_eq_true, forall_const, true_implies, false_implies, implies_true, and_true, true_and, and_self, Nat.not_lt_zero, ne_eq, if_true, if_false, reduceIte, Nat.reduceAdd, Nat.reduceMul, Nat.reduceSub, Nat.reduceLT, Nat.reduceLeDiff, Nat.reduceEqDiff, Nat.add_sub_cancel, eq_self_iff_true, L_0, L_1, L_2, L_3, L_4, L_5, L_6, L_7, L_8, L_9, L_10, L_16, L_20, L_21, L_24, L_31, L_64, L_100, L_320, L_400, L_1000, L_256, nI_add, pk_mul, pk_sub, nI_clamp, vp_in_nI, nI_ge, nI_le, nI_lt, nI_nlt, qI_ne, qI_eq, qI_m1, q_all, qI_nm, qI_nm2]
    by_cases h0 : 0 < i
    · refine ⟨fun h9 => absurd h9 (nI_nle h0 (by omega)), fun _ => ?_⟩
      refine m_say hI (by omega) (x := 32) (by omega) rfl (fun c1 g1 h1 => fin _ _ ?_)
      rw [if_pos h0]; exact h1
    · refine ⟨fun _ => fin _ _ ?_, fun h9 => absurd (nI_le (b := 0) (by omega) (by omega)) h9⟩
      rw [if_neg h0, List.append_nil]; exact hI
end
