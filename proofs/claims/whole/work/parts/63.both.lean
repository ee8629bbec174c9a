/-! The class compares two circuits. -/
theorem z6_basis : ∀ {n : Nat}, n < 5 → zvX6_basisStates (nI n) = nI (2 ^ n) := by
  intro n hn
  rcases (show n = 0 ∨ n = 1 ∨ n = 2 ∨ n = 3 ∨ n = 4 by omega) with rfl | rfl | rfl | rfl | rfl <;> decide
theorem y_both {Q : Int32 → Int32 → Int32 → Int32 → (Nat → Int64) → (Nat → Int64) → Prop} {n b : Nat} {ls le rs re : Int32} {A B : Nat → Int64} {c1 c2 : Int32} {g1 g2 : Nat → Int32} {L M : List Nat} (hC : CR c1 g1 L) (hD : CR c2 g2 M) (hv : ∀ x ∈ L, gv n x = true) (hw : ∀ x ∈ M, gv n x = true) (hn : n < 5) (hb : b < 2 ^ n) (h : ∀ ls le rs re A B, ls = nI (2 ^ n) → AG n A (CV n L b (mxH L M - hN L)) → AG n B (CV n M b (mxH L M - hN M)) → Q ls le rs re A B) : wpX6_runBoth Q (nI b) (nI n) c1 c2 g1 g2 ls le rs re A B := by
  have l1 := hN_le L; have l2 := hN_le M
  have m1 := mx_le L M
  have c1 := hC.2.1; have c2 := hD.2.1
  unfold wpX6_runBoth
  refine y_countKind (k := 1) (by omega) hC (y_countKind (k := 1) (by omega) hD ?_)
  have e : (if nI (List.countP (fun g => decide (g % 10 = 1)) L) < nI (List.countP (fun g => decide (g % 10 = 1)) M) then nI (List.countP (fun g => decide (g % 10 = 1)) M) else nI (List.countP (fun g => decide (g % 10 = 1)) L)) = nI (mxH L M) := by
    show (if nI (hN L) < nI (hN M) then nI (hN M) else nI (hN L)) = nI (mxH L M)
    unfold mxH
    by_cases hlt : hN L < hN M
    · rw [if_pos hlt, if_pos (nI_lt hlt (by omega))]
    · rw [if_neg hlt, if_neg (nI_nlt (by omega) (by omega))]
  rw [e]
  refine y_run hn hb hC hv m1.1 (by omega) (y_run hn hb hD hw m1.2.1 (by omega) ?_)
  exact h _ _ _ _ _ _ rfl (ag_C hn hv _ b _) (ag_C hn hw _ b _)
theorem y_first {Q : Int32 → Int32 → Int32 → Int32 → Int32 → (Nat → Int64) → (Nat → Int64) → Prop} {n : Nat} {ls le rs re : Int32} {A B : Nat → Int64} {c1 c2 : Int32} {g1 g2 : Nat → Int32} {L M : List Nat} (hC : CR c1 g1 L) (hD : CR c2 g2 M) (hv : ∀ x ∈ L, gv n x = true) (hw : ∀ x ∈ M, gv n x = true) (hn : n < 5) (h : ∀ ls le rs re A B, Q (opI (firK (c0B n L M) 8 0)) ls le rs re A B) : wpX6_firstTurn Q (nI n) c1 c2 g1 g2 ls le rs re A B := by
  unfold wpX6_firstTurn
  refine y_both (b := 0) hC hD hv hw hn (Nat.two_pow_pos n) (fun ls le rs re A B els hA hB => ?_)
  subst els
  have h := h (nI (2 ^ n)) le rs re A B
  have et : ∀ t, c0B n L M t = trB n t A B := fun t => (ag_tr hA hB).symm
  refine pk_loop (σ := Unit) (fun m t _ => wpX6_firstTurn_9 Q (nI n) c1 c2 g1 g2 m (nI t) (nI (2 ^ n)) le rs re A B) (fun t _ => firK (c0B n L M) (8 - t) t = firK (c0B n L M) 8 0) 8 0 () (by omega) rfl ?_ ?_
  · intro m _ hI
    rw [← hI] at h
    exact ⟨fun _ => h, fun h9 => absurd (by decide) h9⟩
  · intro m t _ ht hI hk
    rw [show 8 - t = (8 - (t + 1)) + 1 by omega] at hI
    unfold firK at hI
    refine ⟨fun h9 => absurd h9 (nI_ge (a := t) (b := 8) (by omega) (by omega)), fun _ => ?_⟩
    refine y_isT hn (k := t) (by omega) ?_
    rw [← et t]
    cases e : c0B n L M t with
    | false =>
      simp only [e] at hI
      refine ⟨fun _ => ?_, fun h9 => absurd rfl h9⟩
      rw [nI_1]
      exact hk () hI
    | true =>
      simp only [e] at hI
      refine ⟨fun h9 => absurd h9 (by decide), fun _ => ?_⟩
      have e8 : firK (c0B n L M) 8 0 = some t := hI.symm.trans (if_pos trivial)
      rw [e8] at h
      exact h
theorem y_isTd {Q : Int32 → Int32 → Int32 → Int32 → Int32 → (Nat → Int64) → (Nat → Int64) → Prop} {n t : Nat} {ls le rs re : Int32} {A B : Nat → Int64} {c1 c2 : Int32} {g1 g2 : Nat → Int32} {L M : List Nat} (hC : CR c1 g1 L) (hD : CR c2 g2 M) (hv : ∀ x ∈ L, gv n x = true) (hw : ∀ x ∈ M, gv n x = true) (hn : n < 5) (ht : t < 8) (h : ∀ ls le rs re A B, Q (if trA n t L M then 1 else 0) ls le rs re A B) : wpX6_isTurned Q (nI t) (nI n) c1 c2 g1 g2 ls le rs re A B := by
  have hb16 := p16 (n := n) (by omega)
  have eb : zvX6_basisStates (nI n) = nI (2 ^ n) := z6_basis hn
  unfold wpX6_isTurned
  let P : Nat → Bool := fun i => trB n t (CV n L i (mxH L M - hN L)) (CV n M i (mxH L M - hN M))
  refine pk_loop (σ := Int32 × Int32 × Int32 × Int32 × (Nat → Int64) × (Nat → Int64)) (fun m i v => wpX6_isTurned_3 Q (nI n) c1 c2 g1 g2 m (nI t) (nI i) v.1 v.2.1 v.2.2.1 v.2.2.2.1 v.2.2.2.2.1 v.2.2.2.2.2) (fun i _ => allN P i = true) (2 ^ n) 0 (ls, le, rs, re, A, B) (Nat.zero_le _) rfl ?_ ?_
  · intro m v hI
    have e : trA n t L M = true := hI
    rw [e] at h
    show wpX6_isTurned_3b _ _ _ c1 c2 g1 g2 _ _ _ _ _ _ _ _
    unfold wpX6_isTurned_3b
    rw [eb]
    exact ⟨fun _ => h _ _ _ _ _ _, fun h9 => absurd (nI_le (Nat.le_refl _) (by omega)) h9⟩
  · intro m i v hi hI hk
    show wpX6_isTurned_3b _ _ _ c1 c2 g1 g2 _ _ _ _ _ _ _ _
    unfold wpX6_isTurned_3b
    rw [eb]
    refine ⟨fun h9 => absurd h9 (nI_ge hi (by omega)), fun _ => ?_⟩
    refine y_both (b := i) hC hD hv hw hn hi (fun ls le rs re A B els hA hB => ?_)
    subst els
    refine y_isT hn ht ?_
    rw [ag_tr hA hB]
    cases e : P i with
    | false =>
      have e2 : trB n t (CV n L i (mxH L M - hN L)) (CV n M i (mxH L M - hN M)) = false := e
      have ef : trA n t L M = false := allN_f hi e
      rw [ef] at h
      rw [e2]
      exact ⟨fun _ => h _ _ _ _ _ _, fun h9 => absurd rfl h9⟩
    | true =>
      have e2 : trB n t (CV n L i (mxH L M - hN L)) (CV n M i (mxH L M - hN M)) = true := e
      rw [e2]
      refine ⟨fun h9 => absurd h9 (by decide), fun _ => ?_⟩
      rw [nI_1]
      refine hk (nI (2 ^ n), le, rs, re, A, B) ?_
      rw [allN_t]
      intro j hj
      by_cases ej : j = i
      · rw [ej]; exact e
      · exact (allN_t.mp hI) j (by omega)
theorem y_both_a2a1 {Q : Int32 → Int32 → Int32 → Int32 → (Nat → Int64) → (Nat → Int64) → Prop} {n b : Nat} {ls le rs re : Int32} {A B : Nat → Int64} {c1 : Int32} {g1 : Nat → Int32} {L : List Nat} (hC : CR c1 g1 L) (hv : ∀ x ∈ L, gv n x = true) (hn : n < 5) (hb : b < 2 ^ n) (h : ∀ ls le rs re A B, ls = nI (2 ^ n) → AG n A (CV n L b (mxH L L - hN L)) → AG n B (CV n L b (mxH L L - hN L)) → Q ls le rs re A B) : wpX6_runBoth_a2a1 Q (nI b) (nI n) c1 g1 ls le rs re A B := by
  have l1 := hN_le L; have l2 := hN_le L
  have m1 := mx_le L L
  have c1 := hC.2.1; have c2 := hC.2.1
  unfold wpX6_runBoth_a2a1
  refine y_countKind (k := 1) (by omega) hC (y_countKind (k := 1) (by omega) hC ?_)
  have e : (if nI (List.countP (fun g => decide (g % 10 = 1)) L) < nI (List.countP (fun g => decide (g % 10 = 1)) L) then nI (List.countP (fun g => decide (g % 10 = 1)) L) else nI (List.countP (fun g => decide (g % 10 = 1)) L)) = nI (mxH L L) := by
    show (if nI (hN L) < nI (hN L) then nI (hN L) else nI (hN L)) = nI (mxH L L)
    unfold mxH
    by_cases hlt : hN L < hN L
    · rw [if_pos hlt, if_pos (nI_lt hlt (by omega))]
    · rw [if_neg hlt, if_neg (nI_nlt (by omega) (by omega))]
  rw [e]
  refine y_run hn hb hC hv m1.1 (by omega) (y_run hn hb hC hv m1.2.1 (by omega) ?_)
  exact h _ _ _ _ _ _ rfl (ag_C hn hv _ b _) (ag_C hn hv _ b _)
theorem y_first_a2a1 {Q : Int32 → Int32 → Int32 → Int32 → Int32 → (Nat → Int64) → (Nat → Int64) → Prop} {n : Nat} {ls le rs re : Int32} {A B : Nat → Int64} {c1 : Int32} {g1 : Nat → Int32} {L : List Nat} (hC : CR c1 g1 L) (hv : ∀ x ∈ L, gv n x = true) (hn : n < 5) (h : ∀ ls le rs re A B, Q (opI (firK (c0B n L L) 8 0)) ls le rs re A B) : wpX6_firstTurn_a2a1 Q (nI n) c1 g1 ls le rs re A B := by
  unfold wpX6_firstTurn_a2a1
  refine y_both_a2a1 (b := 0) hC hv hn (Nat.two_pow_pos n) (fun ls le rs re A B els hA hB => ?_)
  subst els
  have h := h (nI (2 ^ n)) le rs re A B
  have et : ∀ t, c0B n L L t = trB n t A B := fun t => (ag_tr hA hB).symm
  refine pk_loop (σ := Unit) (fun m t _ => wpX6_firstTurn_a2a1_9 Q (nI n) c1 g1 m (nI t) (nI (2 ^ n)) le rs re A B) (fun t _ => firK (c0B n L L) (8 - t) t = firK (c0B n L L) 8 0) 8 0 () (by omega) rfl ?_ ?_
  · intro m _ hI
    rw [← hI] at h
    exact ⟨fun _ => h, fun h9 => absurd (by decide) h9⟩
  · intro m t _ ht hI hk
    rw [show 8 - t = (8 - (t + 1)) + 1 by omega] at hI
    unfold firK at hI
    refine ⟨fun h9 => absurd h9 (nI_ge (a := t) (b := 8) (by omega) (by omega)), fun _ => ?_⟩
    refine y_isT hn (k := t) (by omega) ?_
    rw [← et t]
    cases e : c0B n L L t with
    | false =>
      simp only [e] at hI
      refine ⟨fun _ => ?_, fun h9 => absurd rfl h9⟩
      rw [nI_1]
      exact hk () hI
    | true =>
      simp only [e] at hI
      refine ⟨fun h9 => absurd h9 (by decide), fun _ => ?_⟩
      have e8 : firK (c0B n L L) 8 0 = some t := hI.symm.trans (if_pos trivial)
      rw [e8] at h
      exact h
theorem y_isTd_a2a1 {Q : Int32 → Int32 → Int32 → Int32 → Int32 → (Nat → Int64) → (Nat → Int64) → Prop} {n t : Nat} {ls le rs re : Int32} {A B : Nat → Int64} {c1 : Int32} {g1 : Nat → Int32} {L : List Nat} (hC : CR c1 g1 L) (hv : ∀ x ∈ L, gv n x = true) (hn : n < 5) (ht : t < 8) (h : ∀ ls le rs re A B, Q (if trA n t L L then 1 else 0) ls le rs re A B) : wpX6_isTurned_a2a1 Q (nI t) (nI n) c1 g1 ls le rs re A B := by
  have hb16 := p16 (n := n) (by omega)
  have eb : zvX6_basisStates (nI n) = nI (2 ^ n) := z6_basis hn
  unfold wpX6_isTurned_a2a1
  let P : Nat → Bool := fun i => trB n t (CV n L i (mxH L L - hN L)) (CV n L i (mxH L L - hN L))
  refine pk_loop (σ := Int32 × Int32 × Int32 × Int32 × (Nat → Int64) × (Nat → Int64)) (fun m i v => wpX6_isTurned_a2a1_3 Q (nI n) c1 g1 m (nI t) (nI i) v.1 v.2.1 v.2.2.1 v.2.2.2.1 v.2.2.2.2.1 v.2.2.2.2.2) (fun i _ => allN P i = true) (2 ^ n) 0 (ls, le, rs, re, A, B) (Nat.zero_le _) rfl ?_ ?_
  · intro m v hI
    have e : trA n t L L = true := hI
    rw [e] at h
    show wpX6_isTurned_a2a1_3b _ _ _ c1 g1 _ _ _ _ _ _ _ _
    unfold wpX6_isTurned_a2a1_3b
    rw [eb]
    exact ⟨fun _ => h _ _ _ _ _ _, fun h9 => absurd (nI_le (Nat.le_refl _) (by omega)) h9⟩
  · intro m i v hi hI hk
    show wpX6_isTurned_a2a1_3b _ _ _ c1 g1 _ _ _ _ _ _ _ _
    unfold wpX6_isTurned_a2a1_3b
    rw [eb]
    refine ⟨fun h9 => absurd h9 (nI_ge hi (by omega)), fun _ => ?_⟩
    refine y_both_a2a1 (b := i) hC hv hn hi (fun ls le rs re A B els hA hB => ?_)
    subst els
    refine y_isT hn ht ?_
    rw [ag_tr hA hB]
    cases e : P i with
    | false =>
      have e2 : trB n t (CV n L i (mxH L L - hN L)) (CV n L i (mxH L L - hN L)) = false := e
      have ef : trA n t L L = false := allN_f hi e
      rw [ef] at h
      rw [e2]
      exact ⟨fun _ => h _ _ _ _ _ _, fun h9 => absurd rfl h9⟩
    | true =>
      have e2 : trB n t (CV n L i (mxH L L - hN L)) (CV n L i (mxH L L - hN L)) = true := e
      rw [e2]
      refine ⟨fun h9 => absurd h9 (by decide), fun _ => ?_⟩
      rw [nI_1]
      refine hk (nI (2 ^ n), le, rs, re, A, B) ?_
      rw [allN_t]
      intro j hj
      by_cases ej : j = i
      · rw [ej]; exact e
      · exact (allN_t.mp hI) j (by omega)
