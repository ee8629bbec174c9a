/-! One row an operation: differ. -/
section
variable {n : Nat} {c1 c2 c3 : Int32} {g1 g2 g3 z k a b c : Nat → Int32} {Ls Ls' : Nat → List Nat}
theorem o_differ {x y ft ls le rs re fs os : Int32} {o A B A2 B2 : Nat → Int64} (hn : n < 5) (h : C3 n c1 c2 c3 g1 g2 g3 z k a b c) : wpL_differ (fun K o _ _ _ _ _ _ => wpX7_differ (fun B F _ _ _ _ => AN K o F B.toInt64) x y (nI n) z k a b c ft fs os A2 B2) x y (nI n) c1 c2 c3 g1 g2 g3 o ls le rs re A B := by
  have eb : zvX6_basisStates (nI n) = nI (2 ^ n) := z6_basis hn
  have hb16 := p16 (n := n) (by omega)
  obtain ⟨Ls, hM, hs⟩ := h
  rcases sl_c x with ⟨s, h3, rfl⟩ | hx
  · rcases sl_c y with ⟨t, k3, rfl⟩ | hy
    · have hv := (hs s h3).2
      have hw := (hs t k3).2
      have hl := (hs s h3).1.2.1
      have hl2 := (hs t k3).1.2.1
      have key : ∀ (ls le rs re : Int32) (A B : Nat → Int64), vp_in 0 1 ∧ wpX7_differ (fun B F _ _ _ _ => AN 0 (vp_updL o (0 : Int32).toNatClampNeg (opI (dfN n (Ls s) (Ls t))).toInt64) F B.toInt64) (nI s) (nI t) (nI n) z k a b c ft fs os A2 B2 := fun _ _ _ _ _ _ => ⟨vp_in_nI (n := 0) (by omega) (by omega), m_differ hn hM h3 k3 hv hw (fun _ _ _ _ => ⟨rfl, fun _ => rfl⟩)⟩
      let QF : Int32 → Int32 → Int32 → Int32 → Int32 → (Nat → Int64) → (Nat → Int64) → Prop := fun r7 u1 u2 u3 u4 u5 u6 => vp_in 0 1 ∧ wpX7_differ (fun B F _ _ _ _ => AN 0 (vp_updL o (0 : Int32).toNatClampNeg r7.toInt64) F B.toInt64) (nI s) (nI t) (nI n) z k a b c ft fs os A2 B2
      let QX : String → Int32 → Int32 → Int32 → Int32 → (Nat → Int64) → (Nat → Int64) → Prop := fun E9 u1 u2 u3 u4 u5 u6 => (E9 = "java/lang/IllegalArgumentException" ∧ wpX7_differ (fun B F _ _ _ _ => AN 1 o F B.toInt64) (nI s) (nI t) (nI n) z k a b c ft fs os A2 B2)
      rcases (show s = 0 ∨ s = 1 ∨ s = 2 by omega) with rfl | rfl | rfl
      · rcases (show t = 0 ∨ t = 1 ∨ t = 2 by omega) with rfl | rfl | rfl
        · refine ⟨fun _ => ⟨fun _ => ?_, fun h => absurd rfl h⟩, fun h => absurd rfl h⟩
          refine pk_loop (σ := Int32 × Int32 × Int32 × Int32 × (Nat → Int64) × (Nat → Int64)) (fun m i v => wpX6_differ_35 QF QX (nI n) c1 c2 c3 g1 g2 g3 m (nI i) v.1 v.2.1 v.2.2.1 v.2.2.2.1 v.2.2.2.2.1 v.2.2.2.2.2) (fun i _ => dfF n (Ls 0) (Ls 0) (2 ^ n - i) i = dfN n (Ls 0) (Ls 0)) (2 ^ n) 0 (ls, le, rs, re, A, B) (Nat.zero_le _) rfl ?_ ?_
          · intro m v hI
            rw [Nat.sub_self] at hI
            refine ⟨fun _ => ?_, fun h9 => absurd (by rw [eb]; exact nI_le (Nat.le_refl _) (by omega)) h9⟩
            have := key v.1 v.2.1 v.2.2.1 v.2.2.2.1 v.2.2.2.2.1 v.2.2.2.2.2
            rw [← hI] at this; exact this
          · intro m i v hi hI hk
            rw [show 2 ^ n - i = (2 ^ n - (i + 1)) + 1 by omega] at hI
            unfold dfF at hI
            refine ⟨fun h9 => absurd h9 (by rw [eb]; exact nI_ge hi (by omega)), fun _ => ?_⟩
            refine y_both_a2a1 (b := i) (hs 0 (by omega)).1 hv hn hi (fun ls le rs re A B els hA hB => ?_)
            subst els
            refine y_fd hn ?_
            rw [← ag_fd hA hB] at hI
            have key := key (nI (2 ^ n)) le rs re A B
            cases e : fdV n A B with
            | none =>
              simp only [e] at hI
              refine ⟨fun _ => ?_, fun h9 => absurd rfl h9⟩
              rw [nI_1]
              exact hk (nI (2 ^ n), le, rs, re, A, B) hI
            | some r =>
              simp only [e] at hI
              have hr : r < 0 + 2 ^ n := fdF_lt e
              refine ⟨fun h9 => absurd h9 (qI_nm (by omega)), fun _ => ?_⟩
              rw [← hI] at key
              have e16 : (16 : Int32) * nI i + nI r = nI (16 * i + r) := by rw [L_16, pk_mul, nI_add]
              show vp_in 0 1 ∧ wpX7_differ (fun B F _ _ _ _ => AN 0 (vp_updL o (0 : Int32).toNatClampNeg ((16 : Int32) * nI i + nI r).toInt64) F B.toInt64) (nI 0) (nI 0) (nI n) z k a b c ft fs os A2 B2
              rw [e16]
              exact key
        · refine ⟨fun _ => ⟨fun h => absurd h (by decide), fun _ => ⟨fun _ => ?_, fun h => absurd rfl h⟩⟩, fun h => absurd rfl h⟩
          refine pk_loop (σ := Int32 × Int32 × Int32 × Int32 × (Nat → Int64) × (Nat → Int64)) (fun m i v => wpX6_differ_35v1 QF QX (nI n) c1 c2 c3 g1 g2 g3 m (nI i) v.1 v.2.1 v.2.2.1 v.2.2.2.1 v.2.2.2.2.1 v.2.2.2.2.2) (fun i _ => dfF n (Ls 0) (Ls 1) (2 ^ n - i) i = dfN n (Ls 0) (Ls 1)) (2 ^ n) 0 (ls, le, rs, re, A, B) (Nat.zero_le _) rfl ?_ ?_
          · intro m v hI
            rw [Nat.sub_self] at hI
            refine ⟨fun _ => ?_, fun h9 => absurd (by rw [eb]; exact nI_le (Nat.le_refl _) (by omega)) h9⟩
            have := key v.1 v.2.1 v.2.2.1 v.2.2.2.1 v.2.2.2.2.1 v.2.2.2.2.2
            rw [← hI] at this; exact this
          · intro m i v hi hI hk
            rw [show 2 ^ n - i = (2 ^ n - (i + 1)) + 1 by omega] at hI
            unfold dfF at hI
            refine ⟨fun h9 => absurd h9 (by rw [eb]; exact nI_ge hi (by omega)), fun _ => ?_⟩
            refine y_both (b := i) (hs 0 (by omega)).1 (hs 1 (by omega)).1 hv hw hn hi (fun ls le rs re A B els hA hB => ?_)
            subst els
            refine y_fd hn ?_
            rw [← ag_fd hA hB] at hI
            have key := key (nI (2 ^ n)) le rs re A B
            cases e : fdV n A B with
            | none =>
              simp only [e] at hI
              refine ⟨fun _ => ?_, fun h9 => absurd rfl h9⟩
              rw [nI_1]
              exact hk (nI (2 ^ n), le, rs, re, A, B) hI
            | some r =>
              simp only [e] at hI
              have hr : r < 0 + 2 ^ n := fdF_lt e
              refine ⟨fun h9 => absurd h9 (qI_nm (by omega)), fun _ => ?_⟩
              rw [← hI] at key
              have e16 : (16 : Int32) * nI i + nI r = nI (16 * i + r) := by rw [L_16, pk_mul, nI_add]
              show vp_in 0 1 ∧ wpX7_differ (fun B F _ _ _ _ => AN 0 (vp_updL o (0 : Int32).toNatClampNeg ((16 : Int32) * nI i + nI r).toInt64) F B.toInt64) (nI 0) (nI 1) (nI n) z k a b c ft fs os A2 B2
              rw [e16]
              exact key
        · refine ⟨fun _ => ⟨fun h => absurd h (by decide), fun _ => ⟨fun h => absurd h (by decide), fun _ => ⟨fun _ => ?_, fun h => absurd rfl h⟩⟩⟩, fun h => absurd rfl h⟩
          refine pk_loop (σ := Int32 × Int32 × Int32 × Int32 × (Nat → Int64) × (Nat → Int64)) (fun m i v => wpX6_differ_35v2 QF QX (nI n) c1 c2 c3 g1 g2 g3 m (nI i) v.1 v.2.1 v.2.2.1 v.2.2.2.1 v.2.2.2.2.1 v.2.2.2.2.2) (fun i _ => dfF n (Ls 0) (Ls 2) (2 ^ n - i) i = dfN n (Ls 0) (Ls 2)) (2 ^ n) 0 (ls, le, rs, re, A, B) (Nat.zero_le _) rfl ?_ ?_
          · intro m v hI
            rw [Nat.sub_self] at hI
            refine ⟨fun _ => ?_, fun h9 => absurd (by rw [eb]; exact nI_le (Nat.le_refl _) (by omega)) h9⟩
            have := key v.1 v.2.1 v.2.2.1 v.2.2.2.1 v.2.2.2.2.1 v.2.2.2.2.2
            rw [← hI] at this; exact this
          · intro m i v hi hI hk
            rw [show 2 ^ n - i = (2 ^ n - (i + 1)) + 1 by omega] at hI
            unfold dfF at hI
            refine ⟨fun h9 => absurd h9 (by rw [eb]; exact nI_ge hi (by omega)), fun _ => ?_⟩
            refine y_both (b := i) (hs 0 (by omega)).1 (hs 2 (by omega)).1 hv hw hn hi (fun ls le rs re A B els hA hB => ?_)
            subst els
            refine y_fd hn ?_
            rw [← ag_fd hA hB] at hI
            have key := key (nI (2 ^ n)) le rs re A B
            cases e : fdV n A B with
            | none =>
              simp only [e] at hI
              refine ⟨fun _ => ?_, fun h9 => absurd rfl h9⟩
              rw [nI_1]
              exact hk (nI (2 ^ n), le, rs, re, A, B) hI
            | some r =>
              simp only [e] at hI
              have hr : r < 0 + 2 ^ n := fdF_lt e
              refine ⟨fun h9 => absurd h9 (qI_nm (by omega)), fun _ => ?_⟩
              rw [← hI] at key
              have e16 : (16 : Int32) * nI i + nI r = nI (16 * i + r) := by rw [L_16, pk_mul, nI_add]
              show vp_in 0 1 ∧ wpX7_differ (fun B F _ _ _ _ => AN 0 (vp_updL o (0 : Int32).toNatClampNeg ((16 : Int32) * nI i + nI r).toInt64) F B.toInt64) (nI 0) (nI 2) (nI n) z k a b c ft fs os A2 B2
              rw [e16]
              exact key
      · rcases (show t = 0 ∨ t = 1 ∨ t = 2 by omega) with rfl | rfl | rfl
        · refine ⟨fun h => absurd h (by decide), fun _ => ⟨fun _ => ⟨fun _ => ?_, fun h => absurd rfl h⟩, fun h => absurd rfl h⟩⟩
          refine pk_loop (σ := Int32 × Int32 × Int32 × Int32 × (Nat → Int64) × (Nat → Int64)) (fun m i v => wpX6_differ_35v3 QF QX (nI n) c1 c2 c3 g1 g2 g3 m (nI i) v.1 v.2.1 v.2.2.1 v.2.2.2.1 v.2.2.2.2.1 v.2.2.2.2.2) (fun i _ => dfF n (Ls 1) (Ls 0) (2 ^ n - i) i = dfN n (Ls 1) (Ls 0)) (2 ^ n) 0 (ls, le, rs, re, A, B) (Nat.zero_le _) rfl ?_ ?_
          · intro m v hI
            rw [Nat.sub_self] at hI
            refine ⟨fun _ => ?_, fun h9 => absurd (by rw [eb]; exact nI_le (Nat.le_refl _) (by omega)) h9⟩
            have := key v.1 v.2.1 v.2.2.1 v.2.2.2.1 v.2.2.2.2.1 v.2.2.2.2.2
            rw [← hI] at this; exact this
          · intro m i v hi hI hk
            rw [show 2 ^ n - i = (2 ^ n - (i + 1)) + 1 by omega] at hI
            unfold dfF at hI
            refine ⟨fun h9 => absurd h9 (by rw [eb]; exact nI_ge hi (by omega)), fun _ => ?_⟩
            refine y_both (b := i) (hs 1 (by omega)).1 (hs 0 (by omega)).1 hv hw hn hi (fun ls le rs re A B els hA hB => ?_)
            subst els
            refine y_fd hn ?_
            rw [← ag_fd hA hB] at hI
            have key := key (nI (2 ^ n)) le rs re A B
            cases e : fdV n A B with
            | none =>
              simp only [e] at hI
              refine ⟨fun _ => ?_, fun h9 => absurd rfl h9⟩
              rw [nI_1]
              exact hk (nI (2 ^ n), le, rs, re, A, B) hI
            | some r =>
              simp only [e] at hI
              have hr : r < 0 + 2 ^ n := fdF_lt e
              refine ⟨fun h9 => absurd h9 (qI_nm (by omega)), fun _ => ?_⟩
              rw [← hI] at key
              have e16 : (16 : Int32) * nI i + nI r = nI (16 * i + r) := by rw [L_16, pk_mul, nI_add]
              show vp_in 0 1 ∧ wpX7_differ (fun B F _ _ _ _ => AN 0 (vp_updL o (0 : Int32).toNatClampNeg ((16 : Int32) * nI i + nI r).toInt64) F B.toInt64) (nI 1) (nI 0) (nI n) z k a b c ft fs os A2 B2
              rw [e16]
              exact key
        · refine ⟨fun h => absurd h (by decide), fun _ => ⟨fun _ => ⟨fun h => absurd h (by decide), fun _ => ⟨fun _ => ?_, fun h => absurd rfl h⟩⟩, fun h => absurd rfl h⟩⟩
          refine pk_loop (σ := Int32 × Int32 × Int32 × Int32 × (Nat → Int64) × (Nat → Int64)) (fun m i v => wpX6_differ_35v4 QF QX (nI n) c1 c2 c3 g1 g2 g3 m (nI i) v.1 v.2.1 v.2.2.1 v.2.2.2.1 v.2.2.2.2.1 v.2.2.2.2.2) (fun i _ => dfF n (Ls 1) (Ls 1) (2 ^ n - i) i = dfN n (Ls 1) (Ls 1)) (2 ^ n) 0 (ls, le, rs, re, A, B) (Nat.zero_le _) rfl ?_ ?_
          · intro m v hI
            rw [Nat.sub_self] at hI
            refine ⟨fun _ => ?_, fun h9 => absurd (by rw [eb]; exact nI_le (Nat.le_refl _) (by omega)) h9⟩
            have := key v.1 v.2.1 v.2.2.1 v.2.2.2.1 v.2.2.2.2.1 v.2.2.2.2.2
            rw [← hI] at this; exact this
          · intro m i v hi hI hk
            rw [show 2 ^ n - i = (2 ^ n - (i + 1)) + 1 by omega] at hI
            unfold dfF at hI
            refine ⟨fun h9 => absurd h9 (by rw [eb]; exact nI_ge hi (by omega)), fun _ => ?_⟩
            refine y_both_a2a1 (b := i) (hs 1 (by omega)).1 hv hn hi (fun ls le rs re A B els hA hB => ?_)
            subst els
            refine y_fd hn ?_
            rw [← ag_fd hA hB] at hI
            have key := key (nI (2 ^ n)) le rs re A B
            cases e : fdV n A B with
            | none =>
              simp only [e] at hI
              refine ⟨fun _ => ?_, fun h9 => absurd rfl h9⟩
              rw [nI_1]
              exact hk (nI (2 ^ n), le, rs, re, A, B) hI
            | some r =>
              simp only [e] at hI
              have hr : r < 0 + 2 ^ n := fdF_lt e
              refine ⟨fun h9 => absurd h9 (qI_nm (by omega)), fun _ => ?_⟩
              rw [← hI] at key
              have e16 : (16 : Int32) * nI i + nI r = nI (16 * i + r) := by rw [L_16, pk_mul, nI_add]
              show vp_in 0 1 ∧ wpX7_differ (fun B F _ _ _ _ => AN 0 (vp_updL o (0 : Int32).toNatClampNeg ((16 : Int32) * nI i + nI r).toInt64) F B.toInt64) (nI 1) (nI 1) (nI n) z k a b c ft fs os A2 B2
              rw [e16]
              exact key
        · refine ⟨fun h => absurd h (by decide), fun _ => ⟨fun _ => ⟨fun h => absurd h (by decide), fun _ => ⟨fun h => absurd h (by decide), fun _ => ⟨fun _ => ?_, fun h => absurd rfl h⟩⟩⟩, fun h => absurd rfl h⟩⟩
          refine pk_loop (σ := Int32 × Int32 × Int32 × Int32 × (Nat → Int64) × (Nat → Int64)) (fun m i v => wpX6_differ_35v5 QF QX (nI n) c1 c2 c3 g1 g2 g3 m (nI i) v.1 v.2.1 v.2.2.1 v.2.2.2.1 v.2.2.2.2.1 v.2.2.2.2.2) (fun i _ => dfF n (Ls 1) (Ls 2) (2 ^ n - i) i = dfN n (Ls 1) (Ls 2)) (2 ^ n) 0 (ls, le, rs, re, A, B) (Nat.zero_le _) rfl ?_ ?_
          · intro m v hI
            rw [Nat.sub_self] at hI
            refine ⟨fun _ => ?_, fun h9 => absurd (by rw [eb]; exact nI_le (Nat.le_refl _) (by omega)) h9⟩
            have := key v.1 v.2.1 v.2.2.1 v.2.2.2.1 v.2.2.2.2.1 v.2.2.2.2.2
            rw [← hI] at this; exact this
          · intro m i v hi hI hk
            rw [show 2 ^ n - i = (2 ^ n - (i + 1)) + 1 by omega] at hI
            unfold dfF at hI
            refine ⟨fun h9 => absurd h9 (by rw [eb]; exact nI_ge hi (by omega)), fun _ => ?_⟩
            refine y_both (b := i) (hs 1 (by omega)).1 (hs 2 (by omega)).1 hv hw hn hi (fun ls le rs re A B els hA hB => ?_)
            subst els
            refine y_fd hn ?_
            rw [← ag_fd hA hB] at hI
            have key := key (nI (2 ^ n)) le rs re A B
            cases e : fdV n A B with
            | none =>
              simp only [e] at hI
              refine ⟨fun _ => ?_, fun h9 => absurd rfl h9⟩
              rw [nI_1]
              exact hk (nI (2 ^ n), le, rs, re, A, B) hI
            | some r =>
              simp only [e] at hI
              have hr : r < 0 + 2 ^ n := fdF_lt e
              refine ⟨fun h9 => absurd h9 (qI_nm (by omega)), fun _ => ?_⟩
              rw [← hI] at key
              have e16 : (16 : Int32) * nI i + nI r = nI (16 * i + r) := by rw [L_16, pk_mul, nI_add]
              show vp_in 0 1 ∧ wpX7_differ (fun B F _ _ _ _ => AN 0 (vp_updL o (0 : Int32).toNatClampNeg ((16 : Int32) * nI i + nI r).toInt64) F B.toInt64) (nI 1) (nI 2) (nI n) z k a b c ft fs os A2 B2
              rw [e16]
              exact key
      · rcases (show t = 0 ∨ t = 1 ∨ t = 2 by omega) with rfl | rfl | rfl
        · refine ⟨fun h => absurd h (by decide), fun _ => ⟨fun h => absurd h (by decide), fun _ => ⟨fun _ => ⟨fun _ => ?_, fun h => absurd rfl h⟩, fun h => absurd rfl h⟩⟩⟩
          refine pk_loop (σ := Int32 × Int32 × Int32 × Int32 × (Nat → Int64) × (Nat → Int64)) (fun m i v => wpX6_differ_35v6 QF QX (nI n) c1 c2 c3 g1 g2 g3 m (nI i) v.1 v.2.1 v.2.2.1 v.2.2.2.1 v.2.2.2.2.1 v.2.2.2.2.2) (fun i _ => dfF n (Ls 2) (Ls 0) (2 ^ n - i) i = dfN n (Ls 2) (Ls 0)) (2 ^ n) 0 (ls, le, rs, re, A, B) (Nat.zero_le _) rfl ?_ ?_
          · intro m v hI
            rw [Nat.sub_self] at hI
            refine ⟨fun _ => ?_, fun h9 => absurd (by rw [eb]; exact nI_le (Nat.le_refl _) (by omega)) h9⟩
            have := key v.1 v.2.1 v.2.2.1 v.2.2.2.1 v.2.2.2.2.1 v.2.2.2.2.2
            rw [← hI] at this; exact this
          · intro m i v hi hI hk
            rw [show 2 ^ n - i = (2 ^ n - (i + 1)) + 1 by omega] at hI
            unfold dfF at hI
            refine ⟨fun h9 => absurd h9 (by rw [eb]; exact nI_ge hi (by omega)), fun _ => ?_⟩
            refine y_both (b := i) (hs 2 (by omega)).1 (hs 0 (by omega)).1 hv hw hn hi (fun ls le rs re A B els hA hB => ?_)
            subst els
            refine y_fd hn ?_
            rw [← ag_fd hA hB] at hI
            have key := key (nI (2 ^ n)) le rs re A B
            cases e : fdV n A B with
            | none =>
              simp only [e] at hI
              refine ⟨fun _ => ?_, fun h9 => absurd rfl h9⟩
              rw [nI_1]
              exact hk (nI (2 ^ n), le, rs, re, A, B) hI
            | some r =>
              simp only [e] at hI
              have hr : r < 0 + 2 ^ n := fdF_lt e
              refine ⟨fun h9 => absurd h9 (qI_nm (by omega)), fun _ => ?_⟩
              rw [← hI] at key
              have e16 : (16 : Int32) * nI i + nI r = nI (16 * i + r) := by rw [L_16, pk_mul, nI_add]
              show vp_in 0 1 ∧ wpX7_differ (fun B F _ _ _ _ => AN 0 (vp_updL o (0 : Int32).toNatClampNeg ((16 : Int32) * nI i + nI r).toInt64) F B.toInt64) (nI 2) (nI 0) (nI n) z k a b c ft fs os A2 B2
              rw [e16]
              exact key
        · refine ⟨fun h => absurd h (by decide), fun _ => ⟨fun h => absurd h (by decide), fun _ => ⟨fun _ => ⟨fun h => absurd h (by decide), fun _ => ⟨fun _ => ?_, fun h => absurd rfl h⟩⟩, fun h => absurd rfl h⟩⟩⟩
          refine pk_loop (σ := Int32 × Int32 × Int32 × Int32 × (Nat → Int64) × (Nat → Int64)) (fun m i v => wpX6_differ_35v7 QF QX (nI n) c1 c2 c3 g1 g2 g3 m (nI i) v.1 v.2.1 v.2.2.1 v.2.2.2.1 v.2.2.2.2.1 v.2.2.2.2.2) (fun i _ => dfF n (Ls 2) (Ls 1) (2 ^ n - i) i = dfN n (Ls 2) (Ls 1)) (2 ^ n) 0 (ls, le, rs, re, A, B) (Nat.zero_le _) rfl ?_ ?_
          · intro m v hI
            rw [Nat.sub_self] at hI
            refine ⟨fun _ => ?_, fun h9 => absurd (by rw [eb]; exact nI_le (Nat.le_refl _) (by omega)) h9⟩
            have := key v.1 v.2.1 v.2.2.1 v.2.2.2.1 v.2.2.2.2.1 v.2.2.2.2.2
            rw [← hI] at this; exact this
          · intro m i v hi hI hk
            rw [show 2 ^ n - i = (2 ^ n - (i + 1)) + 1 by omega] at hI
            unfold dfF at hI
            refine ⟨fun h9 => absurd h9 (by rw [eb]; exact nI_ge hi (by omega)), fun _ => ?_⟩
            refine y_both (b := i) (hs 2 (by omega)).1 (hs 1 (by omega)).1 hv hw hn hi (fun ls le rs re A B els hA hB => ?_)
            subst els
            refine y_fd hn ?_
            rw [← ag_fd hA hB] at hI
            have key := key (nI (2 ^ n)) le rs re A B
            cases e : fdV n A B with
            | none =>
              simp only [e] at hI
              refine ⟨fun _ => ?_, fun h9 => absurd rfl h9⟩
              rw [nI_1]
              exact hk (nI (2 ^ n), le, rs, re, A, B) hI
            | some r =>
              simp only [e] at hI
              have hr : r < 0 + 2 ^ n := fdF_lt e
              refine ⟨fun h9 => absurd h9 (qI_nm (by omega)), fun _ => ?_⟩
              rw [← hI] at key
              have e16 : (16 : Int32) * nI i + nI r = nI (16 * i + r) := by rw [L_16, pk_mul, nI_add]
              show vp_in 0 1 ∧ wpX7_differ (fun B F _ _ _ _ => AN 0 (vp_updL o (0 : Int32).toNatClampNeg ((16 : Int32) * nI i + nI r).toInt64) F B.toInt64) (nI 2) (nI 1) (nI n) z k a b c ft fs os A2 B2
              rw [e16]
              exact key
        · refine ⟨fun h => absurd h (by decide), fun _ => ⟨fun h => absurd h (by decide), fun _ => ⟨fun _ => ⟨fun h => absurd h (by decide), fun _ => ⟨fun h => absurd h (by decide), fun _ => ⟨fun _ => ?_, fun h => absurd rfl h⟩⟩⟩, fun h => absurd rfl h⟩⟩⟩
          refine pk_loop (σ := Int32 × Int32 × Int32 × Int32 × (Nat → Int64) × (Nat → Int64)) (fun m i v => wpX6_differ_35v8 QF QX (nI n) c1 c2 c3 g1 g2 g3 m (nI i) v.1 v.2.1 v.2.2.1 v.2.2.2.1 v.2.2.2.2.1 v.2.2.2.2.2) (fun i _ => dfF n (Ls 2) (Ls 2) (2 ^ n - i) i = dfN n (Ls 2) (Ls 2)) (2 ^ n) 0 (ls, le, rs, re, A, B) (Nat.zero_le _) rfl ?_ ?_
          · intro m v hI
            rw [Nat.sub_self] at hI
            refine ⟨fun _ => ?_, fun h9 => absurd (by rw [eb]; exact nI_le (Nat.le_refl _) (by omega)) h9⟩
            have := key v.1 v.2.1 v.2.2.1 v.2.2.2.1 v.2.2.2.2.1 v.2.2.2.2.2
            rw [← hI] at this; exact this
          · intro m i v hi hI hk
            rw [show 2 ^ n - i = (2 ^ n - (i + 1)) + 1 by omega] at hI
            unfold dfF at hI
            refine ⟨fun h9 => absurd h9 (by rw [eb]; exact nI_ge hi (by omega)), fun _ => ?_⟩
            refine y_both_a2a1 (b := i) (hs 2 (by omega)).1 hv hn hi (fun ls le rs re A B els hA hB => ?_)
            subst els
            refine y_fd hn ?_
            rw [← ag_fd hA hB] at hI
            have key := key (nI (2 ^ n)) le rs re A B
            cases e : fdV n A B with
            | none =>
              simp only [e] at hI
              refine ⟨fun _ => ?_, fun h9 => absurd rfl h9⟩
              rw [nI_1]
              exact hk (nI (2 ^ n), le, rs, re, A, B) hI
            | some r =>
              simp only [e] at hI
              have hr : r < 0 + 2 ^ n := fdF_lt e
              refine ⟨fun h9 => absurd h9 (qI_nm (by omega)), fun _ => ?_⟩
              rw [← hI] at key
              have e16 : (16 : Int32) * nI i + nI r = nI (16 * i + r) := by rw [L_16, pk_mul, nI_add]
              show vp_in 0 1 ∧ wpX7_differ (fun B F _ _ _ _ => AN 0 (vp_updL o (0 : Int32).toNatClampNeg ((16 : Int32) * nI i + nI r).toInt64) F B.toInt64) (nI 2) (nI 2) (nI n) z k a b c ft fs os A2 B2
              rw [e16]
              exact key
    · have e := slot_f hy
      have h0 : ¬ y = 0 := fun h => hy (Or.inl h)
      have h1 : ¬ y = 1 := fun h => hy (Or.inr (Or.inl h))
      have h2 : ¬ y = 2 := fun h => hy (Or.inr (Or.inr h))
      have fin : wpX7_differ (fun B F _ _ _ _ => AN 1 o F B.toInt64) (nI s) y (nI n) z k a b c ft fs os A2 B2 := m_differF (Or.inr e) an_1
      have f3 : ∀ {P Q R : Prop} {S : Prop}, S → (y = 0 → P) ∧ (¬ y = 0 → (y = 1 → Q) ∧ (¬ y = 1 → (y = 2 → R) ∧ (¬ y = 2 → S))) := fun hS => ⟨fun h => absurd h h0, fun _ => ⟨fun h => absurd h h1, fun _ => ⟨fun h => absurd h h2, fun _ => hS⟩⟩⟩
      rcases (show s = 0 ∨ s = 1 ∨ s = 2 by omega) with rfl | rfl | rfl
      · exact ⟨fun _ => f3 ⟨rfl, fin⟩, fun h => absurd rfl h⟩
      · exact ⟨fun h => absurd h (by decide), fun _ => ⟨fun _ => f3 ⟨rfl, fin⟩, fun h => absurd rfl h⟩⟩
      · exact ⟨fun h => absurd h (by decide), fun _ => ⟨fun h => absurd h (by decide), fun _ => ⟨fun _ => f3 ⟨rfl, fin⟩, fun h => absurd rfl h⟩⟩⟩
  · have e := slot_f hx
    have h0 : ¬ x = 0 := fun h => hx (Or.inl h)
    have h1 : ¬ x = 1 := fun h => hx (Or.inr (Or.inl h))
    have h2 : ¬ x = 2 := fun h => hx (Or.inr (Or.inr h))
    have fin : wpX7_differ (fun B F _ _ _ _ => AN 1 o F B.toInt64) x y (nI n) z k a b c ft fs os A2 B2 := m_differF (Or.inl e) an_1
    exact ⟨fun h => absurd h h0, fun _ => ⟨fun h => absurd h h1, fun _ => ⟨fun h => absurd h h2, fun _ => ⟨fun _ => ⟨rfl, fin⟩, fun _ => ⟨fun _ => ⟨rfl, fin⟩, fun _ => ⟨fun _ => ⟨rfl, fin⟩, fun _ => ⟨rfl, fin⟩⟩⟩⟩⟩⟩⟩
end
