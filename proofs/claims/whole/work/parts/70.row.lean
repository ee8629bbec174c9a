/-! One row an operation: row. -/
theorem cl_ck (L : List Nat) : clf L = true ↔ L.countP (fun g => g % 10 = 3) + L.countP (fun g => g % 10 = 9) = 0 := by
  unfold clf
  rw [List.all_eq_true]
  constructor
  · intro h
    have a : L.countP (fun g => g % 10 = 3) = 0 := List.countP_eq_zero.mpr (fun g hg => by
      have := h g hg; unfold kN at this; simp at this ⊢; exact this.1)
    have b : L.countP (fun g => g % 10 = 9) = 0 := List.countP_eq_zero.mpr (fun g hg => by
      have := h g hg; unfold kN at this; simp at this ⊢; exact this.2)
    omega
  · intro h g hg
    have a := List.countP_eq_zero.mp (show L.countP (fun g => g % 10 = 3) = 0 by omega) g hg
    have b := List.countP_eq_zero.mp (show L.countP (fun g => g % 10 = 9) = 0 by omega) g hg
    unfold kN; simp at a b ⊢; exact ⟨a, b⟩
section
variable {n : Nat} {c1 c2 c3 : Int32} {g1 g2 g3 z k a b c : Nat → Int32} {Ls Ls' : Nat → List Nat}
theorem o_row {x y ft sx sz sm : Int32} {o : Nat → Int64} (h1n : 1 ≤ n) (hn : n < 5) (h : C3 n c1 c2 c3 g1 g2 g3 z k a b c) : wpL_row (fun K o _ _ _ => wpX7_row (fun B F => AN K o F B.toInt64) x y (nI n) z k a b ft) x y (nI n) c1 c2 c3 g1 g2 g3 o sx sz sm := by
  obtain ⟨Ls, hM, hs⟩ := h
  have bad : (zvX7_isSlot x = 0 ∨ zvX7_isWire y (nI n) = 0) → wpX7_row (fun B F => AN 1 o F B.toInt64) x y (nI n) z k a b ft := fun h => by
    have f : wpX7_row_20 (fun B F => AN 1 o F B.toInt64) (nI n) z k a b x y ft := m_row21f an_1
    unfold wpX7_row
    by_cases e1 : zvX7_isSlot x = 0
    · exact ⟨fun _ => f, fun h => absurd e1 h⟩
    · exact ⟨fun h => absurd h e1, fun _ => ⟨fun _ => f, fun h9 => absurd (h.resolve_left e1) h9⟩⟩
  rcases sl_c x with ⟨s, h3, rfl⟩ | hx
  · rcases r_wire y h1n hn with ⟨w1, w2⟩ | ⟨w, hw, rfl, w1, w2⟩
    · have fin := bad (Or.inr w2)
      unfold wpL_row wpX6_row
      rw [w1]
      rcases (show s = 0 ∨ s = 1 ∨ s = 2 by omega) with rfl | rfl | rfl
      · exact ⟨fun _ => ⟨fun _ => Or.inl ⟨rfl, fin⟩, fun h => absurd rfl h⟩, fun h => absurd rfl h⟩
      · exact ⟨fun h => absurd h (by decide), fun _ => ⟨fun _ => ⟨fun _ => Or.inl ⟨rfl, fin⟩, fun h => absurd rfl h⟩, fun h => absurd rfl h⟩⟩
      · exact ⟨fun h => absurd h (by decide), fun _ => ⟨fun h => absurd h (by decide), fun _ => ⟨fun _ => ⟨fun _ => Or.inl ⟨rfl, fin⟩, fun h => absurd rfl h⟩, fun h => absurd rfl h⟩⟩⟩
    · have hv := (hs s h3).2
      have hl := (hs s h3).1.2.1
      have op : ∀ {Q : Int32 → Int32 → Prop}, wpX7_row_21 Q (nI n) z k a b (nI s) (nI w) 0 ft → wpX7_row Q (nI s) (nI w) (nI n) z k a b ft := fun h => by
        unfold wpX7_row
        rw [slot_t h3, w2]
        exact ⟨fun h => absurd h (by decide), fun _ => ⟨fun h => absurd h (by decide), fun _ => h⟩⟩
      let QF : Int32 → Int32 → Int32 → Int32 → Prop := fun r4 u1 u2 u3 => vp_in 0 1 ∧ wpX7_row (fun B F => AN 0 (vp_updL o (0 : Int32).toNatClampNeg r4.toInt64) F B.toInt64) (nI s) (nI w) (nI n) z k a b ft
      let QX : String → Int32 → Int32 → Int32 → Prop := fun E9 u1 u2 u3 => (E9 = "java/lang/IllegalArgumentException" ∧ wpX7_row (fun B F => AN 1 o F B.toInt64) (nI s) (nI w) (nI n) z k a b ft) ∨ (E9 = "java/lang/IllegalStateException" ∧ wpX7_row (fun B F => AN 2 o F B.toInt64) (nI s) (nI w) (nI n) z k a b ft)
      have kf : clf (Ls s) = false → wpX7_row (fun B F => AN 2 o F B.toInt64) (nI s) (nI w) (nI n) z k a b ft := fun hc => op (m_row21 h1n hn hM h3 hw hv (fun _ => an_2) (fun h => by rw [hc] at h; cases h))
      have kt : clf (Ls s) = true → ∀ u1 u2 u3, QF (nI (256 * (sgL (Ls s) w).2.2 + suN (sgL (Ls s) w) 4)) u1 u2 u3 := fun hc _ _ _ => ⟨vp_in_nI (n := 0) (by omega) (by omega), op (m_row21 h1n hn hM h3 hw hv (fun h => by rw [hc] at h; cases h) (fun _ => ⟨rfl, fun _ => rfl⟩))⟩
      have wp2 : 2 ^ w < 2 ^ n := Nat.pow_lt_pow_right (by omega) hw
      have cc := cl_ck (Ls s)
      have cl1 : (Ls s).countP (fun g => g % 10 = 3) ≤ (Ls s).length := List.countP_le_length
      have cl2 : (Ls s).countP (fun g => g % 10 = 9) ≤ (Ls s).length := List.countP_le_length
      have n39 : clf (Ls s) = true → ∀ i, i < (Ls s).length → kN ((Ls s).getD i 0) ≠ 3 ∧ kN ((Ls s).getD i 0) ≠ 9 := fun hc i hi => by
        have := List.all_eq_true.mp hc _ (g_mem (d := 0) hi)
        simpa using this
      unfold wpL_row wpX6_row
      rw [w1]
      rcases (show s = 0 ∨ s = 1 ∨ s = 2 by omega) with rfl | rfl | rfl
      · refine ⟨fun _ => ⟨fun h => absurd h (by decide), fun _ => ?_⟩, fun h => absurd rfl h⟩
        refine y_countKind (k := 3) (by omega) (hs 0 (by omega)).1 (y_countKind (k := 9) (by omega) (hs 0 (by omega)).1 ?_)
        rw [nI_add]
        by_cases hc : clf (Ls 0) = true
        · refine ⟨fun _ => ?_, fun h => absurd (by rw [cc.mp hc]; decide) h⟩
          have e1 : (1 : Int32) <<< (nI w &&& 31) = nI (2 ^ w) := q_shl1 (by omega)
          unfold wpX4_begin
          rw [e1]
          refine pk_loop (σ := Nat × Nat × Nat) (fun m i v => wpX6_row_64 QF QX (nI n) c1 c2 c3 g1 g2 g3 m (nI i) (nI v.1) (nI v.2.1) (nI v.2.2)) (fun i v => v = ((Ls 0).take i).foldl (fun s g => sgN g s) (0, 2 ^ w, 0) ∧ sgI n v) (Ls 0).length 0 (0, 2 ^ w, 0) (Nat.zero_le _) ⟨rfl, Nat.two_pow_pos n, wp2, by show 0 < 2; omega⟩ ?_ ?_
          · intro m v hI
            obtain ⟨h1, h2⟩ := hI
            rw [List.take_length] at h1
            have hcn : c1 = nI (Ls 0).length := (hs 0 (by omega)).1.1
            refine ⟨fun _ => ?_, fun h9 => absurd (by show c1 ≤ _; rw [hcn]; exact nI_le (Nat.le_refl _) (by omega)) h9⟩
            refine y_digits hn h2 ?_
            have := kt hc (nI v.1) (nI v.2.1) (nI v.2.2)
            rw [show sgL (Ls 0) w = v from h1.symm] at this
            exact this
          · intro m i v hi hI hk
            obtain ⟨h1, h2⟩ := hI
            have hcn : c1 = nI (Ls 0).length := (hs 0 (by omega)).1.1
            refine ⟨fun h9 => absurd h9 (by show ¬ c1 ≤ _; rw [hcn]; exact nI_ge hi (by omega)), fun _ => ?_⟩
            refine y_at (hs 0 (by omega)).1 hi ?_
            have hg := hv _ (g_mem (d := 0) hi)
            obtain ⟨m3, m9⟩ := n39 hc i hi
            refine y_pass hn hg m3 m9 h2 ?_
            rw [nI_1]
            refine hk (sgN ((Ls 0).getD i 0) v) ⟨?_, sg_I hg h2⟩
            rw [g_take (d := 0) hi, List.foldl_append, ← h1]; rfl
        · have hc2 : clf (Ls 0) = false := by simpa using hc
          refine ⟨fun h => absurd h (nI_nle (Nat.pos_of_ne_zero (fun h0 => hc (cc.mpr h0))) (by omega)), fun _ => Or.inr ⟨rfl, kf hc2⟩⟩
      · refine ⟨fun h => absurd h (by decide), fun _ => ⟨fun _ => ⟨fun h => absurd h (by decide), fun _ => ?_⟩, fun h => absurd rfl h⟩⟩
        refine y_countKind (k := 3) (by omega) (hs 1 (by omega)).1 (y_countKind (k := 9) (by omega) (hs 1 (by omega)).1 ?_)
        rw [nI_add]
        by_cases hc : clf (Ls 1) = true
        · refine ⟨fun _ => ?_, fun h => absurd (by rw [cc.mp hc]; decide) h⟩
          have e1 : (1 : Int32) <<< (nI w &&& 31) = nI (2 ^ w) := q_shl1 (by omega)
          unfold wpX4_begin
          rw [e1]
          refine pk_loop (σ := Nat × Nat × Nat) (fun m i v => wpX6_row_64v1 QF QX (nI n) c1 c2 c3 g1 g2 g3 m (nI i) (nI v.1) (nI v.2.1) (nI v.2.2)) (fun i v => v = ((Ls 1).take i).foldl (fun s g => sgN g s) (0, 2 ^ w, 0) ∧ sgI n v) (Ls 1).length 0 (0, 2 ^ w, 0) (Nat.zero_le _) ⟨rfl, Nat.two_pow_pos n, wp2, by show 0 < 2; omega⟩ ?_ ?_
          · intro m v hI
            obtain ⟨h1, h2⟩ := hI
            rw [List.take_length] at h1
            have hcn : c2 = nI (Ls 1).length := (hs 1 (by omega)).1.1
            refine ⟨fun _ => ?_, fun h9 => absurd (by show c2 ≤ _; rw [hcn]; exact nI_le (Nat.le_refl _) (by omega)) h9⟩
            refine y_digits hn h2 ?_
            have := kt hc (nI v.1) (nI v.2.1) (nI v.2.2)
            rw [show sgL (Ls 1) w = v from h1.symm] at this
            exact this
          · intro m i v hi hI hk
            obtain ⟨h1, h2⟩ := hI
            have hcn : c2 = nI (Ls 1).length := (hs 1 (by omega)).1.1
            refine ⟨fun h9 => absurd h9 (by show ¬ c2 ≤ _; rw [hcn]; exact nI_ge hi (by omega)), fun _ => ?_⟩
            refine y_at (hs 1 (by omega)).1 hi ?_
            have hg := hv _ (g_mem (d := 0) hi)
            obtain ⟨m3, m9⟩ := n39 hc i hi
            refine y_pass hn hg m3 m9 h2 ?_
            rw [nI_1]
            refine hk (sgN ((Ls 1).getD i 0) v) ⟨?_, sg_I hg h2⟩
            rw [g_take (d := 0) hi, List.foldl_append, ← h1]; rfl
        · have hc2 : clf (Ls 1) = false := by simpa using hc
          refine ⟨fun h => absurd h (nI_nle (Nat.pos_of_ne_zero (fun h0 => hc (cc.mpr h0))) (by omega)), fun _ => Or.inr ⟨rfl, kf hc2⟩⟩
      · refine ⟨fun h => absurd h (by decide), fun _ => ⟨fun h => absurd h (by decide), fun _ => ⟨fun _ => ⟨fun h => absurd h (by decide), fun _ => ?_⟩, fun h => absurd rfl h⟩⟩⟩
        refine y_countKind (k := 3) (by omega) (hs 2 (by omega)).1 (y_countKind (k := 9) (by omega) (hs 2 (by omega)).1 ?_)
        rw [nI_add]
        by_cases hc : clf (Ls 2) = true
        · refine ⟨fun _ => ?_, fun h => absurd (by rw [cc.mp hc]; decide) h⟩
          have e1 : (1 : Int32) <<< (nI w &&& 31) = nI (2 ^ w) := q_shl1 (by omega)
          unfold wpX4_begin
          rw [e1]
          refine pk_loop (σ := Nat × Nat × Nat) (fun m i v => wpX6_row_64v2 QF QX (nI n) c1 c2 c3 g1 g2 g3 m (nI i) (nI v.1) (nI v.2.1) (nI v.2.2)) (fun i v => v = ((Ls 2).take i).foldl (fun s g => sgN g s) (0, 2 ^ w, 0) ∧ sgI n v) (Ls 2).length 0 (0, 2 ^ w, 0) (Nat.zero_le _) ⟨rfl, Nat.two_pow_pos n, wp2, by show 0 < 2; omega⟩ ?_ ?_
          · intro m v hI
            obtain ⟨h1, h2⟩ := hI
            rw [List.take_length] at h1
            have hcn : c3 = nI (Ls 2).length := (hs 2 (by omega)).1.1
            refine ⟨fun _ => ?_, fun h9 => absurd (by show c3 ≤ _; rw [hcn]; exact nI_le (Nat.le_refl _) (by omega)) h9⟩
            refine y_digits hn h2 ?_
            have := kt hc (nI v.1) (nI v.2.1) (nI v.2.2)
            rw [show sgL (Ls 2) w = v from h1.symm] at this
            exact this
          · intro m i v hi hI hk
            obtain ⟨h1, h2⟩ := hI
            have hcn : c3 = nI (Ls 2).length := (hs 2 (by omega)).1.1
            refine ⟨fun h9 => absurd h9 (by show ¬ c3 ≤ _; rw [hcn]; exact nI_ge hi (by omega)), fun _ => ?_⟩
            refine y_at (hs 2 (by omega)).1 hi ?_
            have hg := hv _ (g_mem (d := 0) hi)
            obtain ⟨m3, m9⟩ := n39 hc i hi
            refine y_pass hn hg m3 m9 h2 ?_
            rw [nI_1]
            refine hk (sgN ((Ls 2).getD i 0) v) ⟨?_, sg_I hg h2⟩
            rw [g_take (d := 0) hi, List.foldl_append, ← h1]; rfl
        · have hc2 : clf (Ls 2) = false := by simpa using hc
          refine ⟨fun h => absurd h (nI_nle (Nat.pos_of_ne_zero (fun h0 => hc (cc.mpr h0))) (by omega)), fun _ => Or.inr ⟨rfl, kf hc2⟩⟩
  · have e := slot_f hx
    have h0 : ¬ x = 0 := fun h => hx (Or.inl h)
    have h1 : ¬ x = 1 := fun h => hx (Or.inr (Or.inl h))
    have h2 : ¬ x = 2 := fun h => hx (Or.inr (Or.inr h))
    have fin := bad (Or.inl e)
    exact ⟨fun h => absurd h h0, fun _ => ⟨fun h => absurd h h1, fun _ => ⟨fun h => absurd h h2, fun _ => Or.inl ⟨rfl, fin⟩⟩⟩⟩
end
