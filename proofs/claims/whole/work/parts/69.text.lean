/-! One row an operation: character, type, print, read, row. -/
def TT (tc : Int32) (tf : Nat → Int32) (ln : Int32) (tb : Nat → Int32) : Prop := ∃ T, TX tc tf T ∧ TX ln tb T
theorem tx_hi : ∀ l, l < 321 → (nI l).toInt64 - 1 = (nI l - nI 1).toInt64 := by decide +kernel
theorem o_character {x tc ln ft : Int32} {tf tb : Nat → Int32} (h : TT tc tf ln tb) : wpX6_character (fun r => wpX7_character (fun B F => r = B) x ln tb ft) x tc tf := by
  obtain ⟨T, h1, h2⟩ := h
  obtain ⟨l1, l2, l3⟩ := h2
  have bad : (x < 0 ∨ nI T.length ≤ x) → wpX7_character (fun B F => -1 = B) x ln tb ft := fun hb => by
    unfold wpX7_character
    rw [l1, tx_hi _ (by omega)]
    have e : zvX7_in x.toInt64 0 (nI T.length - nI 1).toInt64 = if 0 ≤ x ∧ x ≤ nI T.length - nI 1 then 1 else 0 := mz_in (lo := 0)
    rw [e, if_neg (fun h9 => ?_)]
    · exact ⟨fun _ => rfl, fun h => absurd rfl h⟩
    · have g1 := h9.1; have g2 := h9.2
      rcases hb with hb | hb
      · rw [Int32.le_iff_toInt_le] at g1
        rw [Int32.lt_iff_toInt_lt] at hb
        omega
      · have d : (nI T.length - nI 1).toInt = (T.length : Int) - 1 := by
          cases e : T.length with
          | zero => decide
          | succ l => rw [sub1, nI_toInt (by omega)]; omega
        rw [Int32.le_iff_toInt_le, d] at g2
        rw [Int32.le_iff_toInt_le, nI_toInt (by omega)] at hb
        omega
  by_cases hx : x < 0
  · exact t_atf h1 (Or.inl hx) (bad (Or.inl hx))
  · by_cases hx2 : nI T.length ≤ x
    · exact t_atf h1 (Or.inr hx2) (bad (Or.inr hx2))
    · obtain ⟨j, hj, rfl⟩ := nI_of hx
      have hjl : j < T.length := by
        by_cases h8 : j < T.length
        · exact h8
        · exact absurd (nI_le (by omega) hj) hx2
      refine t_at h1 hjl ?_
      unfold wpX7_character
      rw [l1, tx_hi _ (by omega)]
      have e : zvX7_in (nI j).toInt64 0 (nI T.length - nI 1).toInt64 = if 0 ≤ nI j ∧ nI j ≤ nI T.length - nI 1 then 1 else 0 := mz_in (lo := 0)
      rw [e, if_pos ⟨nI_pos' hj, by
        rw [show T.length = (T.length - 1) + 1 by omega, sub1]
        exact nI_le (by omega) (by omega)⟩]
      refine ⟨fun h => absurd h (by decide), fun _ => ⟨vp_in_nI (by omega) (by omega), ?_⟩⟩
      rw [nI_clamp hj]
      exact (l3 j hjl).2.symm
theorem o_type {x : Int64} {m tc ln ft : Int32} {tf tb : Nat → Int32} (h : TT tc tf ln tb) : wpX6_type (fun r tc' tf' => wpX7_type (fun B F ln' tb' => r = B ∧ TT tc' tf' ln' tb') x m ft ln tb) x m tc tf := by
  obtain ⟨T, h1, h2⟩ := h
  have e := mz_in (x := m) (lo := 1) (hi := 8)
  have e : zvX7_in m.toInt64 1 8 = if 1 ≤ m ∧ m ≤ 8 then 1 else 0 := e
  have bad : ¬ (1 ≤ m ∧ m ≤ 8) → wpX7_type (fun B F ln' tb' => -1 = B ∧ TT tc tf ln' tb') x m ft ln tb := fun hb => by
    unfold wpX7_type
    rw [e, if_neg hb]
    exact ⟨fun _ => ⟨rfl, T, h1, h2⟩, fun h => absurd rfl h⟩
  by_cases hm : 1 ≤ m ∧ m ≤ 8
  · have h0' : ¬ m < 0 := fun h => by
      have h1 := hm.1
      rw [Int32.le_iff_toInt_le, show (1 : Int32).toInt = 1 by decide] at h1
      rw [Int32.lt_iff_toInt_lt, show (0 : Int32).toInt = 0 by decide] at h
      omega
    obtain ⟨j, hj, rfl⟩ := nI_of2 (M := 8) (n := 8) (by decide) h0' hm.2
    have hj1 : 1 ≤ j := by
      by_cases e0 : j = 0
      · rw [e0] at hm; exact absurd hm.1 (by decide)
      · omega
    unfold wpX6_type
    refine y_addBytes h1 hj1 hj (fun hb => ?_) (fun hl hy c' f' hT => ?_)
    · refine ⟨fun _ => ?_, fun h => absurd rfl h⟩
      exact m_type h2 hj1 hj (fun _ => ⟨rfl, T, h1, h2⟩) (fun hl hy => absurd ⟨hl, hy⟩ hb)
    · refine ⟨fun h => absurd h (by decide), fun _ => ?_⟩
      exact m_type h2 hj1 hj (fun hb => absurd ⟨hl, hy⟩ hb) (fun _ _ c2 f2 hT2 => ⟨hT.1.trans hT2.1.symm, _, hT, hT2⟩)
  · have b := bad hm
    have fin : (0 : Int32) = 0 → wpX7_type (fun B F ln' tb' => -1 = B ∧ TT tc tf ln' tb') x m ft ln tb := fun _ => b
    refine ⟨fun _ => ⟨fin, fun h => absurd rfl h⟩, fun h9 => ⟨fun _ => ⟨fin, fun h => absurd rfl h⟩, fun h8 => absurd ⟨?_, ?_⟩ hm⟩⟩
    · rw [Int32.lt_iff_toInt_lt] at h9
      rw [Int32.le_iff_toInt_le]; omega
    · rw [Int32.lt_iff_toInt_lt] at h8
      rw [Int32.le_iff_toInt_le]; omega
section
variable {n : Nat} {c1 c2 c3 : Int32} {g1 g2 g3 z k a b c : Nat → Int32} {Ls Ls' : Nat → List Nat}
theorem o_print {x ft tc ln : Int32} {o : Nat → Int64} {tf tb : Nat → Int32} (h : C3 n c1 c2 c3 g1 g2 g3 z k a b c) (hT : TT tc tf ln tb) : wpL_print (fun K o tc' tf' => wpX7_print (fun B F ln' tb' => AN K o F B.toInt64 ∧ TT tc' tf' ln' tb') x z k a b c ft ln tb) x c1 c2 c3 g1 g2 g3 o tc tf := by
  obtain ⟨Ls, hM, hs⟩ := h
  rcases sl_c x with ⟨s, h3, rfl⟩ | hx
  · have hk1 : ∀ y ∈ Ls s, 1 ≤ kN y := fun y hy => (gv_k ((hs s h3).2 y hy)).1
    have key : ∀ c' f', TX c' f' (prT (Ls s) (Ls s).length) → vp_in 0 1 ∧ wpX7_print (fun B F ln' tb' => AN 0 (vp_updL o (0 : Int32).toNatClampNeg c'.toInt64) F B.toInt64 ∧ TT c' f' ln' tb') (nI s) z k a b c ft ln tb := fun c' f' hT' => by
      refine ⟨vp_in_nI (n := 0) (by omega) (by omega), ?_⟩
      unfold wpX7_print
      rw [slot_t h3]
      refine ⟨fun h => absurd h (by decide), fun _ => m_print13 hM h3 hk1 (fun c2 f2 hT2 => ⟨⟨rfl, fun _ => ?_⟩, _, hT', hT2⟩)⟩
      rw [hT2.1, ← hT'.1]; rfl
    rcases (show s = 0 ∨ s = 1 ∨ s = 2 by omega) with rfl | rfl | rfl
    · refine ⟨fun _ => ?_, fun h => absurd rfl h⟩
      exact y_write (hs 0 (by omega)).1 hk1 key
    · refine ⟨fun h => absurd h (by decide), fun _ => ⟨fun _ => ?_, fun h => absurd rfl h⟩⟩
      exact y_write (hs 1 (by omega)).1 hk1 key
    · refine ⟨fun h => absurd h (by decide), fun _ => ⟨fun h => absurd h (by decide), fun _ => ⟨fun _ => ?_, fun h => absurd rfl h⟩⟩⟩
      exact y_write (hs 2 (by omega)).1 hk1 key
  · have e := slot_f hx
    have h0 : ¬ x = 0 := fun h => hx (Or.inl h)
    have h1 : ¬ x = 1 := fun h => hx (Or.inr (Or.inl h))
    have h2 : ¬ x = 2 := fun h => hx (Or.inr (Or.inr h))
    refine ⟨fun h => absurd h h0, fun _ => ⟨fun h => absurd h h1, fun _ => ⟨fun h => absurd h h2, fun _ => ⟨rfl, ?_⟩⟩⟩⟩
    unfold wpX7_print
    rw [e]
    exact ⟨fun _ => ⟨fun h => absurd h (by decide), fun _ => ⟨an_1, hT⟩⟩, fun h => absurd rfl h⟩
theorem pg_n {T : List Nat} {i j : Nat} (h : pgN n T i = (j, none)) : j ≤ i + 3 := by
  unfold pgN at h
  by_cases c0 : (if i < T.length then kiN (T.getD i 0) else 0) = 0
  · rw [if_pos c0] at h; cases h; omega
  · rw [if_neg c0] at h
    generalize kiN (T.getD i 0) = k at h
    unfold pg1 at h
    cases ea : wiN n T (i + 1) with
    | none => rw [ea] at h; cases h; omega
    | some a =>
      rw [ea] at h
      simp only at h
      by_cases h6 : k < 6
      · rw [if_pos h6] at h; cases h
      · rw [if_neg h6] at h
        unfold pg2 at h
        cases eb : wiN n T (i + 2) with
        | none => rw [eb] at h; cases h; omega
        | some b =>
          rw [eb] at h
          simp only at h
          by_cases hb : b = a
          · rw [if_pos hb] at h; cases h; omega
          · rw [if_neg hb] at h
            by_cases h9 : k < 9
            · rw [if_pos h9] at h; cases h
            · rw [if_neg h9] at h
              unfold pg3 at h
              cases ec : wiN n T (i + 3) with
              | none => rw [ec] at h; cases h; omega
              | some d =>
                rw [ec] at h
                simp only at h
                by_cases hc : d = a ∨ d = b
                · rw [if_pos hc] at h; cases h; omega
                · rw [if_neg hc] at h; cases h
theorem pa_p {T : List Nat} (hn : n < 5) : ∀ (m i p : Nat) (L M : List Nat), i ≤ T.length + 1 → paT n T m i L = (some p, M) → p ≤ T.length + 4 := by
  intro m
  induction m with
  | zero => intro i p L M hi h; cases h; omega
  | succ m ih =>
    intro i p L M hi h
    unfold paT at h
    split at h
    · rename_i j e
      have := pg_n e
      cases h; omega
    · rename_i j g e
      have h2 := pg_g hn e
      split at h
      · cases h
      · split at h
        · exact ih _ _ _ _ (by omega) h
        · cases h; omega
theorem pa_m {T L : List Nat} {p : Nat} (hn : n < 5) (hl : T.length ≤ 320) (h : paT n T 64 0 [] = (some p, L)) : ¬ nI p = -1 := qI_nm (by have := pa_p hn 64 0 p [] L (by omega) h; omega)
theorem o_read {x ft tc ln pl sc re : Int32} {o : Nat → Int64} {tf tb sg : Nat → Int32} (h1n : 1 ≤ n) (hn : n < 5) (h : C3 n c1 c2 c3 g1 g2 g3 z k a b c) (hT : TT tc tf ln tb) : wpL_read (fun K pl' o c1 c2 c3 _ tc' _ g1 g2 g3 _ => wpX7_read (fun B F ln' mp z k a b c => AN K o F B.toInt64 ∧ pl' = mp ∧ TT tc' tf ln' tb ∧ C3 n c1 c2 c3 g1 g2 g3 z k a b c) x (nI n) tb ft ln pl z k a b c) x (nI n) tf pl o c1 c2 c3 sc tc re g1 g2 g3 sg := by
  obtain ⟨Ls, hM, hs⟩ := h
  have hT0 := hT
  obtain ⟨T, t1, t2⟩ := hT
  have tt0 : TT 0 tf 0 tb := ⟨[], ⟨rfl, by decide, fun i hi => absurd hi (Nat.not_lt_zero _)⟩, ⟨rfl, by decide, fun i hi => absurd hi (Nat.not_lt_zero _)⟩⟩
  have l2 := t1.2.1
  rcases sl_c x with ⟨s, h3, rfl⟩ | hx
  · rcases (show s = 0 ∨ s = 1 ∨ s = 2 by omega) with rfl | rfl | rfl
    · refine ⟨fun _ => ?_, fun h => absurd rfl h⟩
      refine y_parse t1 hn (fun e0 re c' f' hC => ?_) (fun e0 p L hp re c' f' => ?_) (fun e0 L hp re c' f' hC => ?_)
      · refine ⟨fun _ => ?_, fun h => absurd rfl h⟩
        refine y_become hC (fun c6 f6 h6 => ?_)
        refine ⟨vp_in_nI (n := 0) (by omega) (by omega), ?_⟩
        unfold wpX7_read
        rw [slot_t h3]
        refine ⟨fun h => absurd h (by decide), fun _ => ?_⟩
        refine m_read13 hM t2 hn h1n h3 (fun _ z k a b c hz => ⟨⟨rfl, fun _ => ?_⟩, rfl, tt0, c3_0 hs hz up_n3 upS_s h6 (fun x hx => by cases hx)⟩) (fun h => absurd e0 h) (fun h => absurd e0 h)
        show c6.toInt64 = _
        rw [h6.1]; rfl
      · have hpm : ¬ nI p = -1 := pa_m hn l2 hp
        refine ⟨fun h => absurd h hpm, fun _ => ⟨rfl, ?_⟩⟩
        unfold wpX7_read
        rw [slot_t h3]
        refine ⟨fun h => absurd h (by decide), fun _ => ?_⟩
        refine m_read13 hM t2 hn h1n h3 (fun h => absurd h e0) (fun _ p2 L2 hp2 L3 z k a b c hz => ⟨an_1, ?_, hT0, _, hz, fun t ht => by rw [upS_n (by omega)]; exact hs t ht⟩) (fun _ L2 hp2 => by rw [hp] at hp2; cases hp2)
        rw [hp] at hp2; cases hp2; rfl
      · refine ⟨fun _ => ?_, fun h => absurd rfl h⟩
        have hv := (pa_v hn 64 0 [] L (fun x hx => by cases hx) hp).1
        refine y_become hC (fun c6 f6 h6 => ?_)
        refine ⟨vp_in_nI (n := 0) (by omega) (by omega), ?_⟩
        unfold wpX7_read
        rw [slot_t h3]
        refine ⟨fun h => absurd h (by decide), fun _ => ?_⟩
        refine m_read13 hM t2 hn h1n h3 (fun h => absurd h e0) (fun _ p2 L2 hp2 => by rw [hp] at hp2; cases hp2) (fun _ L2 hp2 z k a b c hz => ?_)
        rw [hp] at hp2; cases hp2
        refine ⟨⟨rfl, fun _ => ?_⟩, rfl, tt0, c3_0 hs hz up_n3 upS_s h6 hv⟩
        show c6.toInt64 = _
        rw [h6.1]
    · refine ⟨fun h => absurd h (by decide), fun _ => ⟨fun _ => ?_, fun h => absurd rfl h⟩⟩
      refine y_parse t1 hn (fun e0 re c' f' hC => ?_) (fun e0 p L hp re c' f' => ?_) (fun e0 L hp re c' f' hC => ?_)
      · refine ⟨fun _ => ?_, fun h => absurd rfl h⟩
        refine y_become hC (fun c6 f6 h6 => ?_)
        refine ⟨vp_in_nI (n := 0) (by omega) (by omega), ?_⟩
        unfold wpX7_read
        rw [slot_t h3]
        refine ⟨fun h => absurd h (by decide), fun _ => ?_⟩
        refine m_read13 hM t2 hn h1n h3 (fun _ z k a b c hz => ⟨⟨rfl, fun _ => ?_⟩, rfl, tt0, c3_1 hs hz up_n3 upS_s h6 (fun x hx => by cases hx)⟩) (fun h => absurd e0 h) (fun h => absurd e0 h)
        show c6.toInt64 = _
        rw [h6.1]; rfl
      · have hpm : ¬ nI p = -1 := pa_m hn l2 hp
        refine ⟨fun h => absurd h hpm, fun _ => ⟨rfl, ?_⟩⟩
        unfold wpX7_read
        rw [slot_t h3]
        refine ⟨fun h => absurd h (by decide), fun _ => ?_⟩
        refine m_read13 hM t2 hn h1n h3 (fun h => absurd h e0) (fun _ p2 L2 hp2 L3 z k a b c hz => ⟨an_1, ?_, hT0, _, hz, fun t ht => by rw [upS_n (by omega)]; exact hs t ht⟩) (fun _ L2 hp2 => by rw [hp] at hp2; cases hp2)
        rw [hp] at hp2; cases hp2; rfl
      · refine ⟨fun _ => ?_, fun h => absurd rfl h⟩
        have hv := (pa_v hn 64 0 [] L (fun x hx => by cases hx) hp).1
        refine y_become hC (fun c6 f6 h6 => ?_)
        refine ⟨vp_in_nI (n := 0) (by omega) (by omega), ?_⟩
        unfold wpX7_read
        rw [slot_t h3]
        refine ⟨fun h => absurd h (by decide), fun _ => ?_⟩
        refine m_read13 hM t2 hn h1n h3 (fun h => absurd h e0) (fun _ p2 L2 hp2 => by rw [hp] at hp2; cases hp2) (fun _ L2 hp2 z k a b c hz => ?_)
        rw [hp] at hp2; cases hp2
        refine ⟨⟨rfl, fun _ => ?_⟩, rfl, tt0, c3_1 hs hz up_n3 upS_s h6 hv⟩
        show c6.toInt64 = _
        rw [h6.1]
    · refine ⟨fun h => absurd h (by decide), fun _ => ⟨fun h => absurd h (by decide), fun _ => ⟨fun _ => ?_, fun h => absurd rfl h⟩⟩⟩
      refine y_parse t1 hn (fun e0 re c' f' hC => ?_) (fun e0 p L hp re c' f' => ?_) (fun e0 L hp re c' f' hC => ?_)
      · refine ⟨fun _ => ?_, fun h => absurd rfl h⟩
        refine y_become hC (fun c6 f6 h6 => ?_)
        refine ⟨vp_in_nI (n := 0) (by omega) (by omega), ?_⟩
        unfold wpX7_read
        rw [slot_t h3]
        refine ⟨fun h => absurd h (by decide), fun _ => ?_⟩
        refine m_read13 hM t2 hn h1n h3 (fun _ z k a b c hz => ⟨⟨rfl, fun _ => ?_⟩, rfl, tt0, c3_2 hs hz up_n3 upS_s h6 (fun x hx => by cases hx)⟩) (fun h => absurd e0 h) (fun h => absurd e0 h)
        show c6.toInt64 = _
        rw [h6.1]; rfl
      · have hpm : ¬ nI p = -1 := pa_m hn l2 hp
        refine ⟨fun h => absurd h hpm, fun _ => ⟨rfl, ?_⟩⟩
        unfold wpX7_read
        rw [slot_t h3]
        refine ⟨fun h => absurd h (by decide), fun _ => ?_⟩
        refine m_read13 hM t2 hn h1n h3 (fun h => absurd h e0) (fun _ p2 L2 hp2 L3 z k a b c hz => ⟨an_1, ?_, hT0, _, hz, fun t ht => by rw [upS_n (by omega)]; exact hs t ht⟩) (fun _ L2 hp2 => by rw [hp] at hp2; cases hp2)
        rw [hp] at hp2; cases hp2; rfl
      · refine ⟨fun _ => ?_, fun h => absurd rfl h⟩
        have hv := (pa_v hn 64 0 [] L (fun x hx => by cases hx) hp).1
        refine y_become hC (fun c6 f6 h6 => ?_)
        refine ⟨vp_in_nI (n := 0) (by omega) (by omega), ?_⟩
        unfold wpX7_read
        rw [slot_t h3]
        refine ⟨fun h => absurd h (by decide), fun _ => ?_⟩
        refine m_read13 hM t2 hn h1n h3 (fun h => absurd h e0) (fun _ p2 L2 hp2 => by rw [hp] at hp2; cases hp2) (fun _ L2 hp2 z k a b c hz => ?_)
        rw [hp] at hp2; cases hp2
        refine ⟨⟨rfl, fun _ => ?_⟩, rfl, tt0, c3_2 hs hz up_n3 upS_s h6 hv⟩
        show c6.toInt64 = _
        rw [h6.1]
  · have e := slot_f hx
    have h0 : ¬ x = 0 := fun h => hx (Or.inl h)
    have h1 : ¬ x = 1 := fun h => hx (Or.inr (Or.inl h))
    have h2 : ¬ x = 2 := fun h => hx (Or.inr (Or.inr h))
    refine ⟨fun h => absurd h h0, fun _ => ⟨fun h => absurd h h1, fun _ => ⟨fun h => absurd h h2, fun _ => ⟨rfl, ?_⟩⟩⟩⟩
    unfold wpX7_read
    rw [e]
    exact ⟨fun _ => ⟨fun h => absurd h (by decide), fun _ => ⟨an_1, rfl, hT0, Ls, hM, hs⟩⟩, fun h => absurd rfl h⟩
end
