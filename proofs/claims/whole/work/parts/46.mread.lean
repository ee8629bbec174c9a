/-! Reading, the reference's side. -/
theorem ki_le : ∀ k, k < 10 → 1 ≤ k → kiN (leN k) = k := by decide +kernel
theorem ki_in (c : Nat) (h : kiN c ≠ 0) : 1 ≤ kiN c ∧ kiN c < 10 ∧ leN (kiN c) = c := by
  have hk := kiN_lt c
  refine ⟨by omega, hk, ?_⟩
  unfold kiN at h ⊢
  repeat' split
  all_goals first | (simp_all; done) | (rename_i e; rw [e]; rfl) | (rename_i e; exact e ▸ rfl)
theorem ng1 (i : Nat) : (-2 : Int32) - nI i = -1 - nI (i + 1) := by rw [nI_succ]; grind
theorem ng2 (i : Nat) : (-3 : Int32) - nI i = -1 - nI (i + 2) := by rw [show i + 2 = i + 1 + 1 from rfl, nI_succ, nI_succ]; grind
theorem ng3 (i : Nat) : (-4 : Int32) - nI i = -1 - nI (i + 3) := by rw [show i + 3 = i + 1 + 1 + 1 from rfl, nI_succ, nI_succ, nI_succ]; grind
theorem ng0 (p : Nat) : (-1 : Int32) - (-1 - nI p) = nI p := by grind
theorem ng_lt {p : Nat} (hp : p < 1000) : (-1 : Int32) - nI p < 0 := by
  have e : (-1 : Int32) - nI p = nI 0 - nI (p + 1) := by rw [nI_succ, nI_0]; grind
  rw [e]; exact pk_sneg (by omega) (by omega)
theorem pg_b (n : Nat) (T : List Nat) (i : Nat) : (pgN n T i).1 ≤ i + 4 := by
  unfold pgN pg1 pg2 pg3
  repeat' split
  all_goals simp
section
variable {ln : Int32} {f : Nat → Int32} {T : List Nat} {n : Nat}
theorem m_kindAt {Q : Int32 → Prop} {i : Nat} (hT : TX ln f T) (hi : i ≤ 330) (h : Q (nI (if i < T.length then kiN (T.getD i 0) else 0))) : wpX7_kindAt Q (nI i) ln f := by
  have hc := hT.1
  have hl := hT.2.1
  rw [hc] at hT ⊢
  unfold wpX7_kindAt
  refine pk_loop (σ := Unit) (fun m k _ => wpX7_kindAt_2 Q (nI T.length) f m (nI i) (nI k)) (fun k _ => 1 ≤ k ∧ (i < T.length → ∀ j, 1 ≤ j → j < k → leN j ≠ T.getD i 0)) 10 1 () (by omega) ⟨by omega, fun _ j h1 h2 => by omega⟩ ?_ ?_
  · intro m s hI
    simp (disch := omega) only [wpX7_kindAt_2, wpX7_kindAt_2b, not_true_eq_false, not_false_eq_true, forall_const, true_implies, false_implies, implies_true, and_true, true_and, and_self, Nat.not_lt_zero, ne_eq, if_true, if_false, reduceIte, Nat.reduceAdd, Nat.reduceMul, Nat.reduceSub, Nat.reduceLT, Nat.reduceLeDiff, Nat.reduceEqDiff, Nat.add_sub_cancel, eq_self_iff_true, L_0, L_1, L_2, L_3, L_4, L_5, L_6, L_7, L_8, L_9, L_10, L_16, L_20, L_21, L_24, L_31, L_64, L_100, L_320, L_400, L_1000, L_256, nI_add, pk_mul, pk_sub, nI_clamp, vp_in_nI, nI_ge, nI_le, nI_lt, nI_nlt, qI_ne, qI_eq, qI_m1, q_all, qI_nm, qI_nm2]
    by_cases hil : i < T.length
    · rw [if_pos hil] at h
      have : kiN (T.getD i 0) = 0 := Decidable.byContradiction (fun h9 => by
        obtain ⟨a1, a2, a3⟩ := ki_in _ h9
        exact hI.2 hil _ a1 a2 a3)
      rw [this] at h; exact h
    · rw [if_neg hil] at h; exact h
  · intro m k s hk hI hk9
    have el := le_m k hk
    have ell := leN_lt k
    simp (disch := omega) only [wpX7_kindAt_2, wpX7_kindAt_2b, not_true_eq_false, not_false_eq_true, forall_const, true_implies, false_implies, implies_true, and_true, true_and, and_self, Nat.not_lt_zero, ne_eq, if_true, if_false, reduceIte, Nat.reduceAdd, Nat.reduceMul, Nat.reduceSub, Nat.reduceLT, Nat.reduceLeDiff, Nat.reduceEqDiff, Nat.add_sub_cancel, eq_self_iff_true, L_0, L_1, L_2, L_3, L_4, L_5, L_6, L_7, L_8, L_9, L_10, L_16, L_20, L_21, L_24, L_31, L_64, L_100, L_320, L_400, L_1000, L_256, nI_add, pk_mul, pk_sub, nI_clamp, vp_in_nI, nI_ge, nI_le, nI_lt, nI_nlt, qI_ne, qI_eq, qI_m1, q_all, qI_nm, qI_nm2]
    by_cases hil : i < T.length
    · have ht := hT.2.2 i hil
      simp (disch := omega) only [ht.2, el, not_true_eq_false, not_false_eq_true, forall_const, true_implies, false_implies, implies_true, and_true, true_and, and_self, Nat.not_lt_zero, ne_eq, if_true, if_false, reduceIte, Nat.reduceAdd, Nat.reduceMul, Nat.reduceSub, Nat.reduceLT, Nat.reduceLeDiff, Nat.reduceEqDiff, Nat.add_sub_cancel, eq_self_iff_true, L_0, L_1, L_2, L_3, L_4, L_5, L_6, L_7, L_8, L_9, L_10, L_16, L_20, L_21, L_24, L_31, L_64, L_100, L_320, L_400, L_1000, L_256, nI_add, pk_mul, pk_sub, nI_clamp, vp_in_nI, nI_ge, nI_le, nI_lt, nI_nlt, qI_ne, qI_eq, qI_m1, q_all, qI_nm, qI_nm2]
      rw [nI_eq (by omega) (by omega)]
      refine ⟨fun h9 => ?_, fun h9 => hk9 () ⟨by omega, fun _ j h1 h2 => ?_⟩⟩
      · rw [if_pos hil, h9, ki_le k hk hI.1] at h; exact h
      · by_cases e : j = k
        · rw [e]; exact fun h8 => h9 h8.symm
        · exact hI.2 hil j h1 (by omega)
    · simp (disch := omega) only [not_true_eq_false, not_false_eq_true, forall_const, true_implies, false_implies, implies_true, and_true, true_and, and_self, Nat.not_lt_zero, ne_eq, if_true, if_false, reduceIte, Nat.reduceAdd, Nat.reduceMul, Nat.reduceSub, Nat.reduceLT, Nat.reduceLeDiff, Nat.reduceEqDiff, Nat.add_sub_cancel, eq_self_iff_true, L_0, L_1, L_2, L_3, L_4, L_5, L_6, L_7, L_8, L_9, L_10, L_16, L_20, L_21, L_24, L_31, L_64, L_100, L_320, L_400, L_1000, L_256, nI_add, pk_mul, pk_sub, nI_clamp, vp_in_nI, nI_ge, nI_le, nI_lt, nI_nlt, qI_ne, qI_eq, qI_m1, q_all, qI_nm, qI_nm2]
      exact hk9 () ⟨by omega, fun h9 => absurd h9 hil⟩
theorem m_wireAt {Q : Int32 → Prop} {r : Nat} (hT : TX ln f T) (hn : n < 5) (h1n : 1 ≤ n) (hr : r ≤ 330) (h : Q (ogI (wiN n T r))) : wpX7_wireAt Q (nI r) (nI n) ln f := by
  have hc := hT.1
  have hl := hT.2.1
  rw [hc] at hT ⊢
  have bad : ∀ y : Int32, (y < 0 ∨ nI n ≤ y) → wiN n T r = none → wpX7_wireAt_21 Q (nI n) (nI T.length) f y := fun y hy e => by
    unfold wpX7_wireAt_21
    rw [wi_f hn hy]
    rw [e] at h
    exact ⟨fun _ => h, fun h9 => absurd rfl h9⟩
  unfold wpX7_wireAt
  by_cases hil : r < T.length
  · have ht := hT.2.2 r hil
    refine ⟨fun h9 => absurd h9 (nI_ge hil (by omega)), fun _ => ⟨vp_in_nI (by omega) (by omega), ?_⟩⟩
    rw [nI_clamp (by omega), ht.2, show (48 : Int32) = nI 48 from rfl]
    by_cases h48 : 48 ≤ T.getD r 0
    · rw [pk_sub h48]
      by_cases hlt : T.getD r 0 - 48 < n
      · unfold wpX7_wireAt_21
        rw [wi_t hlt hn]
        unfold wiN at h
        rw [if_pos ⟨hil, h48, hlt⟩] at h
        exact ⟨fun h9 => absurd h9 (by decide), fun _ => h⟩
      · exact bad _ (Or.inr (nI_le (by omega) (by omega))) (by unfold wiN; rw [if_neg (by omega)])
    · exact bad _ (Or.inl (pk_sneg (by omega) (by omega))) (by unfold wiN; rw [if_neg (by omega)])
  · exact ⟨fun _ => bad _ (Or.inl (by decide)) (by unfold wiN; rw [if_neg (by omega)]), fun h9 => absurd (nI_le (by omega) (by omega)) h9⟩
end
section
variable {z k a b c : Nat → Int32} {Ls : Nat → List Nat} {ln : Int32} {f : Nat → Int32} {T : List Nat} {n : Nat}
theorem enc_m {x y v w : Nat} (hx : x < 10) (hy : y < 4) (hv : v < 4) (hw : w < 4) : kN (encG x y v w) = x ∧ aN (encG x y v w) = y ∧ m2 (encG x y v w) = (if 6 ≤ x then nI v else -1) ∧ m3 (encG x y v w) = (if x = 9 then nI w else -1) := by
  obtain ⟨f0, f1, f2, f3, f4⟩ := encG_f (k := x) hx hy hv hw
  refine ⟨f1, f2, ?_, ?_⟩
  · unfold m2; rw [f1]
    by_cases h6 : 6 ≤ x
    · rw [if_pos h6, if_pos h6, f3 h6]
    · rw [if_neg h6, if_neg h6]
  · unfold m3; rw [f1]
    by_cases h9 : x = 9
    · rw [if_pos h9, if_pos h9, f4 h9]
    · rw [if_neg h9, if_neg h9]
theorem m_rd143 {Q : Int32 → (Nat → Int32) → (Nat → Int32) → (Nat → Int32) → (Nat → Int32) → (Nat → Int32) → Prop} {i x y v w : Nat} {u3 u4 : Int32} (hM : MM z k a b c Ls) (hl : (Ls 3).length < 64) (hx : x < 10) (hy : y < 4) (hv : v < 4) (hw : w < 4) (h3 : u3 = if 6 ≤ x then nI v else -1) (h4 : u4 = if x = 9 then nI w else -1)
    (h : ∀ z k a b c, MM z k a b c (upS Ls 3 (Ls 3 ++ [encG x y v w])) → Q (nI (i + 1 + wsN x)) z k a b c) : wpX7_readGate_143 Q (nI n) ln f (nI i) (nI x) (nI y) u3 u4 z k a b c := by
  obtain ⟨e1, e2, e3, e4⟩ := enc_m hx hy hv hw
  unfold wpX7_readGate_143
  refine m_put (s := 3) (g := encG x y v w) hM (by omega) hl (encG_f hx hy hv hw).1 (by rw [e1]) (by rw [e2]) (by rw [e3, h3]) (by rw [e4, h4]) (fun z k a b c h' => ?_)
  rw [y_needs x hx, nI_1, nI_add]
  exact h _ _ _ _ _ h'
theorem m_readGate {Q : Int32 → (Nat → Int32) → (Nat → Int32) → (Nat → Int32) → (Nat → Int32) → (Nat → Int32) → Prop} {i : Nat} (hM : MM z k a b c Ls) (hT : TX ln f T) (hn : n < 5) (h1n : 1 ≤ n) (hi : i ≤ T.length)
    (hF : (Ls 3).length = 64 → Q (-1 - nI i) z k a b c)
    (hB : (Ls 3).length < 64 → ∀ p, pgN n T i = (p, none) → Q (-1 - nI p) z k a b c)
    (hG : (Ls 3).length < 64 → ∀ p g, pgN n T i = (p, some g) → ∀ z k a b c, MM z k a b c (upS Ls 3 (Ls 3 ++ [g])) → Q (nI p) z k a b c) : wpX7_readGate Q (nI i) (nI n) ln f z k a b c := by
  have hl := hT.2.1
  obtain ⟨e3, hl3, -⟩ := hM 3 (by omega)
  unfold wpX7_readGate
  refine ⟨vp_in_nI (n := 3) (by omega) (by omega), ?_⟩
  rw [show ((3 : Int32).toNatClampNeg) = 3 from rfl, e3]
  by_cases h64 : (Ls 3).length = 64
  · refine ⟨fun _ => ?_, fun h9 => absurd (by rw [h64]; rfl) h9⟩
    unfold wpX7_readGate_20
    exact ⟨fun _ => hF h64, fun h9 => absurd rfl h9⟩
  · refine ⟨fun h9 => absurd ((nI_eq (b := 64) (by omega) (by omega)).mp h9) h64, fun _ => ?_⟩
    have hB := hB (by omega); have hG := hG (by omega)
    refine m_kindAt hT (by omega) ?_
    unfold pgN at hB hG
    by_cases hil : i < T.length
    case neg =>
      rw [if_neg hil] at hB ⊢
      unfold wpX7_readGate_20
      exact ⟨fun _ => hB i (by rw [if_pos rfl]), fun h9 => absurd rfl h9⟩
    rw [if_pos hil] at hB hG ⊢
    have hk := kiN_lt (T.getD i 0)
    generalize kiN (T.getD i 0) = x at hB hG hk
    by_cases h0 : x = 0
    · rw [if_pos h0] at hB
      subst h0
      unfold wpX7_readGate_20
      exact ⟨fun _ => hB i rfl, fun h9 => absurd rfl h9⟩
    rw [if_neg h0] at hB hG
    unfold wpX7_readGate_20
    refine ⟨fun h9 => absurd ((nI_eq (b := 0) (by omega) (by omega)).mp h9) h0, fun _ => ?_⟩
    rw [nI_1]
    refine m_wireAt hT hn h1n (by omega) ?_
    unfold pg1 at hB hG
    cases ea : wiN n T (i + 1) with
    | none =>
      rw [ea] at hB
      refine ⟨fun h9 => absurd h9 (by decide), fun _ => ?_⟩
      rw [ng1]; exact hB _ rfl
    | some y =>
      rw [ea] at hB hG
      simp only at hB hG
      have hy := (wiN_lt ea).1
      refine ⟨fun _ => ?_, fun h9 => absurd (nI_pos' (by omega)) h9⟩
      have en := y_needs x hk
      rw [en]
      by_cases h6 : x < 6
      · have ew : wsN x = 1 := by unfold wsN; rw [if_neg (by omega), if_pos h6]
        rw [if_pos h6] at hG
        rw [ew] at en
        refine ⟨fun _ => ?_, fun h9 => absurd (by rw [ew]; decide) h9⟩
        show wpX7_readGate_65 Q (nI n) ln f (nI i) (nI x) (nI y) (-1) z k a b c
        unfold wpX7_readGate_65 wpX7_readGate_91 wpX7_readGate_110
        rw [en]
        refine ⟨fun _ => ⟨fun _ => ⟨fun _ => ?_, fun h9 => absurd (by decide) h9⟩, fun h9 => absurd (by decide) h9⟩, fun h9 => absurd (by decide) h9⟩
        refine m_rd143 (v := 0) (w := 0) hM (by omega) hk (by omega) (by omega) (by omega) (by rw [if_neg (by omega)]) (by rw [if_neg (by omega)]) (fun z k a b c h' => ?_)
        rw [ew]; exact hG _ _ rfl _ _ _ _ _ h'
      · rw [if_neg h6] at hB hG
        have n1 : ¬ nI (wsN x) ≤ 1 := by
          unfold wsN
          by_cases h9 : x = 9
          · rw [if_pos h9]; decide
          · rw [if_neg h9, if_neg h6]; decide
        refine ⟨fun h9 => absurd h9 n1, fun _ => ?_⟩
        rw [show nI i + 2 = nI (i + 2) from nI_add i 2]
        refine m_wireAt hT hn h1n (by omega) ?_
        unfold wpX7_readGate_65
        rw [en]
        refine ⟨fun h9 => absurd h9 n1, fun _ => ?_⟩
        unfold pg2 at hB hG
        cases eb : wiN n T (i + 2) with
        | none =>
          rw [eb] at hB
          refine ⟨fun _ => by rw [ng2]; exact hB _ rfl, fun h9 => absurd (by decide) h9⟩
        | some v =>
          rw [eb] at hB hG
          simp only at hB hG
          have hv := (wiN_lt eb).1
          refine ⟨fun h9 => absurd h9 (nI_pos (by omega)), fun _ => ?_⟩
          rw [show (ogI (some v) = ogI (some y)) ↔ v = y from nI_eq (by omega) (by omega)]
          refine ⟨fun h9 => by rw [ng2]; exact hB _ (by rw [if_pos h9]), fun h9 => ?_⟩
          rw [if_neg h9] at hB hG
          unfold wpX7_readGate_91
          rw [en]
          by_cases k9 : x < 9
          · have ew : wsN x = 2 := by unfold wsN; rw [if_neg (by omega), if_neg h6]
            rw [if_pos k9] at hG
            rw [ew] at en ⊢
            refine ⟨fun _ => ?_, fun h8 => absurd (by decide) h8⟩
            unfold wpX7_readGate_110
            rw [en]
            refine ⟨fun _ => ?_, fun h8 => absurd (by decide) h8⟩
            refine m_rd143 (v := v) (w := 0) hM (by omega) hk (by omega) (by omega) (by omega) (by rw [if_pos (by omega)]; rfl) (by rw [if_neg (by omega)]) (fun z k a b c h' => ?_)
            rw [ew]; exact hG _ _ rfl _ _ _ _ _ h'
          · have ew : wsN x = 3 := by unfold wsN; rw [if_pos (by omega)]
            rw [if_neg k9] at hB hG
            rw [ew] at en ⊢
            refine ⟨fun h8 => absurd h8 (by decide), fun _ => ?_⟩
            rw [show nI i + 3 = nI (i + 3) from nI_add i 3]
            refine m_wireAt hT hn h1n (by omega) ?_
            unfold wpX7_readGate_110
            rw [en]
            refine ⟨fun h8 => absurd h8 (by decide), fun _ => ?_⟩
            unfold pg3 at hB hG
            cases ec : wiN n T (i + 3) with
            | none =>
              rw [ec] at hB
              refine ⟨fun _ => by rw [ng3]; exact hB _ rfl, fun h9 => absurd (by decide) h9⟩
            | some w =>
              rw [ec] at hB hG
              simp only at hB hG
              have hw := (wiN_lt ec).1
              refine ⟨fun h8 => absurd h8 (nI_pos (by omega)), fun _ => ?_⟩
              rw [show (ogI (some w) = ogI (some y)) ↔ w = y from nI_eq (by omega) (by omega), show (ogI (some w) = ogI (some v)) ↔ w = v from nI_eq (by omega) (by omega)]
              refine ⟨fun h8 => by rw [ng3]; exact hB _ (by rw [if_pos (Or.inl h8)]), fun h8 => ⟨fun h7 => by rw [ng3]; exact hB _ (by rw [if_pos (Or.inr h7)]), fun h7 => ?_⟩⟩
              rw [if_neg (fun h5 => h5.elim h8 h7)] at hG
              refine m_rd143 (v := v) (w := w) hM (by omega) hk (by omega) (by omega) (by omega) (by rw [if_pos (by omega)]; rfl) (by rw [if_pos (by omega)]; rfl) (fun z k a b c h' => ?_)
              rw [ew]; exact hG _ _ rfl _ _ _ _ _ h'
theorem m_read13 {Q : Int32 → Int32 → Int32 → Int32 → (Nat → Int32) → (Nat → Int32) → (Nat → Int32) → (Nat → Int32) → (Nat → Int32) → Prop} {s : Nat} {f9 pl : Int32} (hM : MM z k a b c Ls) (hT : TX ln f T) (hn : n < 5) (h1n : 1 ≤ n) (hs : s < 3)
    (h0 : T = [] → ∀ z k a b c, MM z k a b c (upS (upS Ls 3 []) s []) → Q 0 0 0 pl z k a b c)
    (hb : T ≠ [] → ∀ p L, paT n T 64 0 [] = (some p, L) → ∀ L3 z k a b c, MM z k a b c (upS Ls 3 L3) → Q 0 1 ln (nI p) z k a b c)
    (hg : T ≠ [] → ∀ L, paT n T 64 0 [] = (none, L) → ∀ z k a b c, MM z k a b c (upS (upS Ls 3 L) s L) → Q (nI L.length) 0 0 pl z k a b c) : wpX7_read_13 Q (nI n) f (nI s) 0 f9 ln pl z k a b c := by
  have hc := hT.1
  have hl := hT.2.1
  rw [hc] at hT hb ⊢
  have hM0 := MM_z hM (s := 3) (by omega)
  have done : ∀ m L z k a b c x2, MM z k a b c (upS Ls 3 L) → 0 ≤ x2 → (∀ z k a b c, MM z k a b c (upS (upS Ls 3 L) s L) → Q (nI L.length) 0 0 pl z k a b c) → wpX7_read_47 Q (nI n) f (m + 1) (nI s) x2 0 0 (nI T.length) pl z k a b c := fun m L z k a b c x2 hL hx2 hq => by
    show wpX7_read_47b Q (wpX7_read_47 Q (nI n) f m) (nI n) f (nI s) x2 0 0 (nI T.length) pl z k a b c
    unfold wpX7_read_47b wpX7_read_111
    refine ⟨fun _ => ⟨fun _ => ?_, fun h9 => absurd hx2 h9⟩, fun h9 => absurd rfl h9⟩
    refine m_copy hL (s := 3) (t := s) (by omega) (by omega) (by omega) (fun z k a b c h' => ?_)
    rw [upS_s] at h'
    have e := (h' s (by omega)).1
    rw [upS_s] at e
    simp (disch := omega) only [e, not_true_eq_false, not_false_eq_true, forall_const, true_implies, false_implies, implies_true, and_true, true_and, and_self, Nat.not_lt_zero, ne_eq, if_true, if_false, reduceIte, Nat.reduceAdd, Nat.reduceMul, Nat.reduceSub, Nat.reduceLT, Nat.reduceLeDiff, Nat.reduceEqDiff, Nat.add_sub_cancel, eq_self_iff_true, L_0, L_1, L_2, L_3, L_4, L_5, L_6, L_7, L_8, L_9, L_10, L_16, L_20, L_21, L_24, L_31, L_64, L_100, L_320, L_400, L_1000, L_256, nI_add, pk_mul, pk_sub, nI_clamp, vp_in_nI, nI_ge, nI_le, nI_lt, nI_nlt, qI_ne, qI_eq, qI_m1, q_all, qI_nm, qI_nm2]
    exact hq _ _ _ _ _ h'
  simp (disch := omega) only [wpX7_read_13, wpX7_read_46, not_true_eq_false, not_false_eq_true, forall_const, true_implies, false_implies, implies_true, and_true, true_and, and_self, Nat.not_lt_zero, ne_eq, if_true, if_false, reduceIte, Nat.reduceAdd, Nat.reduceMul, Nat.reduceSub, Nat.reduceLT, Nat.reduceLeDiff, Nat.reduceEqDiff, Nat.add_sub_cancel, eq_self_iff_true, L_0, L_1, L_2, L_3, L_4, L_5, L_6, L_7, L_8, L_9, L_10, L_16, L_20, L_21, L_24, L_31, L_64, L_100, L_320, L_400, L_1000, L_256, nI_add, pk_mul, pk_sub, nI_clamp, vp_in_nI, nI_ge, nI_le, nI_lt, nI_nlt, qI_ne, qI_eq, qI_m1, q_all, qI_nm, qI_nm2]
  by_cases hE : T = []
  · have h0 := h0 hE
    have e0 : T.length = 0 := by rw [hE]; rfl
    refine ⟨fun _ => ⟨1, ?_⟩, fun h9 => absurd (by rw [e0]; decide) h9⟩
    exact done 0 [] _ _ _ _ _ 0 hM0 (by decide) (fun z k a b c h' => h0 _ _ _ _ _ h')
  · have hlen : 0 < T.length := Nat.pos_of_ne_zero (fun h => hE (List.eq_nil_of_length_eq_zero h))
    have hb := hb hE; have hg := hg hE
    refine ⟨fun h9 => absurd h9 (nI_nle hlen (by omega)), fun _ => ?_⟩
    refine loop_m (σ := Int32 × Int32 × M5) (fun m v => wpX7_read_47 Q (nI n) f m (nI s) v.1 v.2.1 0 (nI T.length) pl v.2.2.1 v.2.2.2.1 v.2.2.2.2.1 v.2.2.2.2.2.1 v.2.2.2.2.2.2)
      (fun v => (v.2.1 = 1 ∧ ∃ i L, v.1 = nI i ∧ i ≤ T.length ∧ L.length ≤ 64 ∧ MM v.2.2.1 v.2.2.2.1 v.2.2.2.2.1 v.2.2.2.2.2.1 v.2.2.2.2.2.2 (upS Ls 3 L) ∧ paT n T (64 - L.length) i L = paT n T 64 0 [])
        ∨ (v.2.1 = 0 ∧ ((∃ p M L, v.1 = -1 - nI p ∧ p < 1000 ∧ MM v.2.2.1 v.2.2.2.1 v.2.2.2.2.1 v.2.2.2.2.2.1 v.2.2.2.2.2.2 (upS Ls 3 L) ∧ paT n T 64 0 [] = (some p, M)) ∨ (∃ L, 0 ≤ v.1 ∧ MM v.2.2.1 v.2.2.2.1 v.2.2.2.2.1 v.2.2.2.2.2.1 v.2.2.2.2.2.2 (upS Ls 3 L) ∧ paT n T 64 0 [] = (none, L)))))
      (fun v => if v.2.1 = 1 then 100 - (v.2.2.1 3).toNatClampNeg else 0) ?_ (0, 1, upd z 3 0, k, a, b, c) (Or.inl ⟨rfl, 0, [], rfl, by omega, by decide, hM0, rfl⟩)
    intro m v hv hk
    obtain ⟨x2, x3, z1, k1, a1, b1, c1⟩ := v
    simp only at hv hk ⊢
    rcases hv with ⟨e1, i, L, e2, hi, hL64, hMM, hpa⟩ | ⟨e1, hv⟩
    · subst e1; subst e2
      have ez := (hMM 3 (by omega)).1
      rw [upS_s] at ez
      show wpX7_read_47b Q (wpX7_read_47 Q (nI n) f m) (nI n) f (nI s) (nI i) 1 0 (nI T.length) pl z1 k1 a1 b1 c1
      unfold wpX7_read_47b
      refine ⟨fun h9 => absurd h9 (by decide), fun _ => ?_⟩
      have fail96 : ∀ p z k a b c L3, p < 1000 → MM z k a b c (upS Ls 3 L3) → (∃ M, paT n T 64 0 [] = (some p, M)) → wpX7_read_96 Q (wpX7_read_47 Q (nI n) f m) (nI n) f (nI s) (-1 - nI p) 0 0 (nI T.length) pl z k a b c := fun p z k a b c L3 hp hM3 hM => by
        unfold wpX7_read_96
        refine ⟨fun _ => ?_, fun h9 => absurd rfl h9⟩
        obtain ⟨M, hM⟩ := hM
        refine hk (-1 - nI p, 0, z, k, a, b, c) (Or.inr ⟨rfl, Or.inl ⟨p, M, L3, rfl, hp, hM3, hM⟩⟩) ?_
        show 0 < if (1 : Int32) = 1 then 100 - (z1 3).toNatClampNeg else 0
        rw [if_pos rfl, ez, nI_clamp (by omega)]; omega
      have fail : ∀ p z k a b c L3, p < 1000 → MM z k a b c (upS Ls 3 L3) → (∃ M, paT n T 64 0 [] = (some p, M)) → wpX7_read_73 Q (wpX7_read_47 Q (nI n) f m) (nI n) f (nI s) (-1 - nI p) 0 (nI T.length) pl z k a b c := fun p z k a b c L3 hp hM3 hM => by
        unfold wpX7_read_73 wpX7_read_74
        exact ⟨fun _ => fail96 p z k a b c L3 hp hM3 hM, fun h9 => absurd rfl h9⟩
      have pg_lt : ∀ j o, pgN n T i = (j, o) → j < 1000 := fun j o e => by
        have h9 := pg_b n T i
        rw [e] at h9
        have h9 : j ≤ i + 4 := h9
        omega
      refine m_readGate hMM hT hn h1n hi (fun h64 => ?_) (fun h64 p e => ?_) (fun h64 j g e z2 k2 a2 b2 c2 hB => ?_)
      · rw [upS_s] at h64
        rw [h64] at hpa
        exact ⟨fun _ => fail i _ _ _ _ _ _ (by omega) hMM ⟨L, hpa.symm⟩, fun h9 => absurd (ng_lt (by omega)) h9⟩
      · rw [upS_s] at h64
        have hp9 := pg_lt p none e
        rw [show 64 - L.length = (64 - (L.length + 1)) + 1 by omega] at hpa
        have hpa2 : paT n T 64 0 [] = (some p, L) := by
          rw [← hpa]
          show (match pgN n T i with | (j, none) => (some j, L) | (j, some g) => _) = _
          rw [e]
        exact ⟨fun _ => fail p _ _ _ _ _ _ hp9 hMM ⟨L, hpa2⟩, fun h9 => absurd (ng_lt hp9) h9⟩
      · rw [upS_s, upS_u] at hB
        rw [upS_s] at h64
        obtain ⟨g1, g2, g3⟩ := pg_g hn e
        rw [show 64 - L.length = (64 - (L.length + 1)) + 1 by omega] at hpa
        have hpa2 : paT n T 64 0 [] = if j = T.length then (none, L ++ [g]) else if T.getD j 0 = 32 then paT n T (64 - (L.length + 1)) (j + 1) (L ++ [g]) else (some j, L ++ [g]) := by
          rw [← hpa]
          show (match pgN n T i with | (j, none) => (some j, L) | (j, some g) => if j = T.length then (none, L ++ [g]) else if T.getD j 0 = 32 then paT n T (64 - (L.length + 1)) (j + 1) (L ++ [g]) else (some j, L ++ [g])) = _
          rw [e]
        refine ⟨fun h9 => absurd h9 (nI_pos (by omega)), fun _ => ?_⟩
        rw [nI_leI (by omega) (by omega)]
        refine ⟨fun h9 => ?_, fun h9 => ?_⟩
        · rw [if_pos (by omega)] at hpa2
          unfold wpX7_read_73 wpX7_read_74 wpX7_read_96
          refine ⟨fun _ => ⟨fun _ => ?_, fun h9 => absurd rfl h9⟩, fun h9 => absurd rfl h9⟩
          refine hk (nI j, 0, z2, k2, a2, b2, c2) (Or.inr ⟨rfl, Or.inr ⟨L ++ [g], nI_pos' (by omega), hB, hpa2⟩⟩) ?_
          show 0 < if (1 : Int32) = 1 then 100 - (z1 3).toNatClampNeg else 0
          rw [if_pos rfl, ez, nI_clamp (by omega)]; omega
        · rw [if_neg (by omega)] at hpa2
          have ht := hT.2.2 j (by omega)
          unfold wpX7_read_74
          refine ⟨fun h8 => absurd h8 (by decide), fun _ => ⟨vp_in_nI (by omega) (by omega), ?_⟩⟩
          rw [nI_clamp (by omega), ht.2, show (nI (T.getD j 0) = 32) ↔ T.getD j 0 = 32 from nI_eq (b := 32) (by omega) (by omega)]
          refine ⟨fun h8 => ?_, fun h8 => ?_⟩
          · rw [if_pos h8] at hpa2
            unfold wpX7_read_96
            refine ⟨fun h7 => absurd h7 (by decide), fun _ => ?_⟩
            rw [nI_1]
            refine hk (nI (j + 1), 1, z2, k2, a2, b2, c2) (Or.inl ⟨rfl, j + 1, L ++ [g], rfl, by omega, by simp; omega, hB, by rw [hpa2]; simp⟩) ?_
            have ez2 := (hB 3 (by omega)).1
            rw [upS_s] at ez2
            show (if (1 : Int32) = 1 then 100 - (z2 3).toNatClampNeg else 0) < if (1 : Int32) = 1 then 100 - (z1 3).toNatClampNeg else 0
            have ll : (L ++ [g]).length = L.length + 1 := by simp
            rw [if_pos rfl, if_pos rfl, ez, ez2, nI_clamp (n := L.length) (by omega), nI_clamp (n := (L ++ [g]).length) (by omega)]; omega
          · rw [if_neg h8] at hpa2
            exact fail96 j _ _ _ _ _ _ (by omega) hB ⟨_, hpa2⟩
    · subst e1
      rcases hv with ⟨p, M, L, e2, hp, hMM, hpa⟩ | ⟨L, h9, hMM, hpa⟩
      · subst e2
        show wpX7_read_47b Q (wpX7_read_47 Q (nI n) f m) (nI n) f (nI s) (-1 - nI p) 0 0 (nI T.length) pl z1 k1 a1 b1 c1
        unfold wpX7_read_47b wpX7_read_111
        refine ⟨fun _ => ⟨fun h9 => absurd (ng_lt hp) (le_nlt.mpr h9), fun _ => ?_⟩, fun h9 => absurd rfl h9⟩
        rw [ng0]
        exact hb _ _ hpa _ _ _ _ _ _ hMM
      · exact done m L _ _ _ _ _ _ hMM h9 (fun z k a b c h' => hg _ hpa _ _ _ _ _ h')
end
