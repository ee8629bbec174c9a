/-! One row an operation: equal, differ. -/
theorem fdF_lt {V W : Nat → Int64} {r : Nat} : ∀ {m i : Nat}, fdF V W m i = some r → r < i + m := by
  intro m
  induction m with
  | zero => intro i h; cases h
  | succ m ih =>
    intro i h
    unfold fdF at h
    split at h
    · have := ih h; omega
    · cases h; omega
theorem y_eq {Q : Int32 → Int32 → Int32 → Int32 → Int32 → Int32 → (Nat → Int64) → (Nat → Int64) → Prop} {n : Nat} {ph ls le rs re : Int32} {A B : Nat → Int64} {c1 c2 : Int32} {g1 g2 : Nat → Int32} {L M : List Nat} (hC : CR c1 g1 L) (hD : CR c2 g2 M) (hv : ∀ x ∈ L, gv n x = true) (hw : ∀ x ∈ M, gv n x = true) (hn : n < 5) (h : ∀ ls le rs re A B, match eqT n L M with | none => Q 0 ph ls le rs re A B | some r => Q (if r = 0 then 1 else 2) (nI r) ls le rs re A B) :
    wpX6_firstTurn (fun r9 u3 u4 u5 u6 u7 u8 => ((r9 = (-1) → Q 0 ph u3 u4 u5 u6 u7 u8) ∧ (¬ r9 = (-1) → wpX6_isTurned (fun r17 u11 u12 u13 u14 u15 u16 => ((r17 = 0 → Q 0 ph u11 u12 u13 u14 u15 u16) ∧ (¬ r17 = 0 → ((r9 = 0 → Q 1 r9 u11 u12 u13 u14 u15 u16) ∧ (¬ r9 = 0 → Q 2 r9 u11 u12 u13 u14 u15 u16))))) r9 (nI n) c1 c2 g1 g2 u3 u4 u5 u6 u7 u8))) (nI n) c1 c2 g1 g2 ls le rs re A B := by
  refine y_first hC hD hv hw hn (fun ls le rs re A B => ?_)
  unfold eqT at h
  rcases fk_c (p := c0B n L M) (m := 8) (k := 0) with ⟨t, f1, f2, f3, f4, f5⟩ | ⟨f1, f2⟩
  · rw [f1] at h ⊢
    have hnm : ¬ opI (some t) = -1 := qI_nm (by omega)
    refine ⟨fun h9 => absurd h9 hnm, fun _ => ?_⟩
    show wpX6_isTurned _ (nI t) (nI n) c1 c2 g1 g2 ls le rs re A B
    refine y_isTd hC hD hv hw hn (by omega) (fun ls le rs re A B => ?_)
    have h := h ls le rs re A B
    cases e : trA n t L M with
    | false =>
      have h : Q 0 ph ls le rs re A B := by simp only [e] at h; exact h
      exact ⟨fun _ => h, fun h9 => absurd rfl h9⟩
    | true =>
      have h : Q (if t = 0 then 1 else 2) (nI t) ls le rs re A B := by simp only [e] at h; exact h
      refine ⟨fun h9 => absurd h9 (by decide), fun _ => ?_⟩
      show (nI t = 0 → Q 1 (nI t) ls le rs re A B) ∧ (¬ nI t = 0 → Q 2 (nI t) ls le rs re A B)
      by_cases e0 : t = 0
      · rw [if_pos e0] at h; exact ⟨fun _ => h, fun h9 => absurd (by rw [e0]; rfl) h9⟩
      · rw [if_neg e0] at h; exact ⟨fun h9 => absurd h9 (nI_ne0 (by omega) (by omega)), fun _ => h⟩
  · rw [f1] at h ⊢
    have h := h ls le rs re A B
    exact ⟨fun _ => h, fun h9 => absurd rfl h9⟩
theorem y_eq_a2a1 {Q : Int32 → Int32 → Int32 → Int32 → Int32 → Int32 → (Nat → Int64) → (Nat → Int64) → Prop} {n : Nat} {ph ls le rs re : Int32} {A B : Nat → Int64} {c1 : Int32} {g1 : Nat → Int32} {L : List Nat} (hC : CR c1 g1 L) (hv : ∀ x ∈ L, gv n x = true) (hn : n < 5) (h : ∀ ls le rs re A B, match eqT n L L with | none => Q 0 ph ls le rs re A B | some r => Q (if r = 0 then 1 else 2) (nI r) ls le rs re A B) :
    wpX6_firstTurn_a2a1 (fun r9 u3 u4 u5 u6 u7 u8 => ((r9 = (-1) → Q 0 ph u3 u4 u5 u6 u7 u8) ∧ (¬ r9 = (-1) → wpX6_isTurned_a2a1 (fun r17 u11 u12 u13 u14 u15 u16 => ((r17 = 0 → Q 0 ph u11 u12 u13 u14 u15 u16) ∧ (¬ r17 = 0 → ((r9 = 0 → Q 1 r9 u11 u12 u13 u14 u15 u16) ∧ (¬ r9 = 0 → Q 2 r9 u11 u12 u13 u14 u15 u16))))) r9 (nI n) c1 g1 u3 u4 u5 u6 u7 u8))) (nI n) c1 g1 ls le rs re A B := by
  refine y_first_a2a1 hC hv hn (fun ls le rs re A B => ?_)
  unfold eqT at h
  rcases fk_c (p := c0B n L L) (m := 8) (k := 0) with ⟨t, f1, f2, f3, f4, f5⟩ | ⟨f1, f2⟩
  · rw [f1] at h ⊢
    have hnm : ¬ opI (some t) = -1 := qI_nm (by omega)
    refine ⟨fun h9 => absurd h9 hnm, fun _ => ?_⟩
    show wpX6_isTurned_a2a1 _ (nI t) (nI n) c1 g1 ls le rs re A B
    refine y_isTd_a2a1 hC hv hn (by omega) (fun ls le rs re A B => ?_)
    have h := h ls le rs re A B
    cases e : trA n t L L with
    | false =>
      have h : Q 0 ph ls le rs re A B := by simp only [e] at h; exact h
      exact ⟨fun _ => h, fun h9 => absurd rfl h9⟩
    | true =>
      have h : Q (if t = 0 then 1 else 2) (nI t) ls le rs re A B := by simp only [e] at h; exact h
      refine ⟨fun h9 => absurd h9 (by decide), fun _ => ?_⟩
      show (nI t = 0 → Q 1 (nI t) ls le rs re A B) ∧ (¬ nI t = 0 → Q 2 (nI t) ls le rs re A B)
      by_cases e0 : t = 0
      · rw [if_pos e0] at h; exact ⟨fun _ => h, fun h9 => absurd (by rw [e0]; rfl) h9⟩
      · rw [if_neg e0] at h; exact ⟨fun h9 => absurd h9 (nI_ne0 (by omega) (by omega)), fun _ => h⟩
  · rw [f1] at h ⊢
    have h := h ls le rs re A B
    exact ⟨fun _ => h, fun h9 => absurd rfl h9⟩
section
variable {n : Nat} {c1 c2 c3 : Int32} {g1 g2 g3 z k a b c : Nat → Int32} {Ls Ls' : Nat → List Nat}
theorem m_equalF {Q : Int32 → Int32 → Int32 → Int32 → Int32 → (Nat → Int64) → (Nat → Int64) → Prop} {x y wi ft ph fs os : Int32} {A B : Nat → Int64} (e : zvX7_isSlot x = 0 ∨ zvX7_isSlot y = 0) (h : Q 0 1 ph fs os A B) : wpX7_equal Q x y wi z k a b c ft ph fs os A B := by
  have f : wpX7_equal_19 Q wi z k a b c x y ft ph fs os A B := ⟨1, fun h9 => absurd h9 (by decide), fun _ => ⟨fun h9 => absurd h9 (by decide), fun _ => h⟩⟩
  unfold wpX7_equal
  by_cases e1 : zvX7_isSlot x = 0
  · exact ⟨fun _ => f, fun h => absurd e1 h⟩
  · exact ⟨fun h => absurd h e1, fun _ => ⟨fun _ => f, fun h => absurd (e.resolve_left e1) h⟩⟩
theorem m_differF {Q : Int32 → Int32 → Int32 → Int32 → (Nat → Int64) → (Nat → Int64) → Prop} {x y wi ft fs os : Int32} {A B : Nat → Int64} (e : zvX7_isSlot x = 0 ∨ zvX7_isSlot y = 0) (h : Q 0 1 fs os A B) : wpX7_differ Q x y wi z k a b c ft fs os A B := by
  have f : wpX7_differ_19 Q wi z k a b c x y ft fs os A B := ⟨fun h9 => absurd h9 (by decide), fun _ => h⟩
  unfold wpX7_differ
  by_cases e1 : zvX7_isSlot x = 0
  · exact ⟨fun _ => f, fun h => absurd e1 h⟩
  · exact ⟨fun h => absurd h e1, fun _ => ⟨fun _ => f, fun h => absurd (e.resolve_left e1) h⟩⟩
theorem o_equal {x y ft ph ls le rs re fs os : Int32} {o A B A2 B2 : Nat → Int64} (hn : n < 5) (h : C3 n c1 c2 c3 g1 g2 g3 z k a b c) : wpL_equal (fun K ph' o _ _ _ _ _ _ => wpX7_equal (fun B F mp _ _ _ _ => AN K o F B.toInt64 ∧ ph' = mp) x y (nI n) z k a b c ft ph fs os A2 B2) x y (nI n) c1 c2 c3 g1 g2 g3 ph o ls le rs re A B := by
  obtain ⟨Ls, hM, hs⟩ := h
  rcases sl_c x with ⟨s, h3, rfl⟩ | hx
  · rcases sl_c y with ⟨t, k3, rfl⟩ | hy
    · have hv := (hs s h3).2
      have hw := (hs t k3).2
      have hl := (hs s h3).1.2.1
      have hl2 := (hs t k3).1.2.1
      let QF : Int32 → Int32 → Int32 → Int32 → Int32 → Int32 → (Nat → Int64) → (Nat → Int64) → Prop := fun r8 u1 u2 u3 u4 u5 u6 u7 => vp_in 0 1 ∧ wpX7_equal (fun B F mp _ _ _ _ => AN 0 (vp_updL o (0 : Int32).toNatClampNeg r8.toInt64) F B.toInt64 ∧ u1 = mp) (nI s) (nI t) (nI n) z k a b c ft ph fs os A2 B2
      have key : ∀ (ls le rs re : Int32) (A B : Nat → Int64), match eqT n (Ls s) (Ls t) with | none => QF 0 ph ls le rs re A B | some r => QF (if r = 0 then 1 else 2) (nI r) ls le rs re A B := by
        intro ls le rs re A B
        have ev := eqT_v hn hv hl hl2 (M := Ls t)
        cases e : eqT n (Ls s) (Ls t) with
        | none =>
          refine ⟨vp_in_nI (n := 0) (by omega) (by omega), m_equal hn hM h3 k3 hv hw (fun fs os A B => ?_)⟩
          rw [ev, e]
          exact ⟨⟨rfl, fun _ => rfl⟩, rfl⟩
        | some r =>
          refine ⟨vp_in_nI (n := 0) (by omega) (by omega), m_equal hn hM h3 k3 hv hw (fun fs os A B => ?_)⟩
          rw [ev, e]
          exact ⟨⟨rfl, fun _ => rfl⟩, rfl⟩
      rcases (show s = 0 ∨ s = 1 ∨ s = 2 by omega) with rfl | rfl | rfl
      · rcases (show t = 0 ∨ t = 1 ∨ t = 2 by omega) with rfl | rfl | rfl
        · refine ⟨fun _ => ⟨fun _ => ?_, fun h => absurd rfl h⟩, fun h => absurd rfl h⟩
          exact y_eq_a2a1 (Q := QF) (hs 0 (by omega)).1 hv hn key
        · refine ⟨fun _ => ⟨fun h => absurd h (by decide), fun _ => ⟨fun _ => ?_, fun h => absurd rfl h⟩⟩, fun h => absurd rfl h⟩
          exact y_eq (Q := QF) (hs 0 (by omega)).1 (hs 1 (by omega)).1 hv hw hn key
        · refine ⟨fun _ => ⟨fun h => absurd h (by decide), fun _ => ⟨fun h => absurd h (by decide), fun _ => ⟨fun _ => ?_, fun h => absurd rfl h⟩⟩⟩, fun h => absurd rfl h⟩
          exact y_eq (Q := QF) (hs 0 (by omega)).1 (hs 2 (by omega)).1 hv hw hn key
      · rcases (show t = 0 ∨ t = 1 ∨ t = 2 by omega) with rfl | rfl | rfl
        · refine ⟨fun h => absurd h (by decide), fun _ => ⟨fun _ => ⟨fun _ => ?_, fun h => absurd rfl h⟩, fun h => absurd rfl h⟩⟩
          exact y_eq (Q := QF) (hs 1 (by omega)).1 (hs 0 (by omega)).1 hv hw hn key
        · refine ⟨fun h => absurd h (by decide), fun _ => ⟨fun _ => ⟨fun h => absurd h (by decide), fun _ => ⟨fun _ => ?_, fun h => absurd rfl h⟩⟩, fun h => absurd rfl h⟩⟩
          exact y_eq_a2a1 (Q := QF) (hs 1 (by omega)).1 hv hn key
        · refine ⟨fun h => absurd h (by decide), fun _ => ⟨fun _ => ⟨fun h => absurd h (by decide), fun _ => ⟨fun h => absurd h (by decide), fun _ => ⟨fun _ => ?_, fun h => absurd rfl h⟩⟩⟩, fun h => absurd rfl h⟩⟩
          exact y_eq (Q := QF) (hs 1 (by omega)).1 (hs 2 (by omega)).1 hv hw hn key
      · rcases (show t = 0 ∨ t = 1 ∨ t = 2 by omega) with rfl | rfl | rfl
        · refine ⟨fun h => absurd h (by decide), fun _ => ⟨fun h => absurd h (by decide), fun _ => ⟨fun _ => ⟨fun _ => ?_, fun h => absurd rfl h⟩, fun h => absurd rfl h⟩⟩⟩
          exact y_eq (Q := QF) (hs 2 (by omega)).1 (hs 0 (by omega)).1 hv hw hn key
        · refine ⟨fun h => absurd h (by decide), fun _ => ⟨fun h => absurd h (by decide), fun _ => ⟨fun _ => ⟨fun h => absurd h (by decide), fun _ => ⟨fun _ => ?_, fun h => absurd rfl h⟩⟩, fun h => absurd rfl h⟩⟩⟩
          exact y_eq (Q := QF) (hs 2 (by omega)).1 (hs 1 (by omega)).1 hv hw hn key
        · refine ⟨fun h => absurd h (by decide), fun _ => ⟨fun h => absurd h (by decide), fun _ => ⟨fun _ => ⟨fun h => absurd h (by decide), fun _ => ⟨fun h => absurd h (by decide), fun _ => ⟨fun _ => ?_, fun h => absurd rfl h⟩⟩⟩, fun h => absurd rfl h⟩⟩⟩
          exact y_eq_a2a1 (Q := QF) (hs 2 (by omega)).1 hv hn key
    · have e := slot_f hy
      have h0 : ¬ y = 0 := fun h => hy (Or.inl h)
      have h1 : ¬ y = 1 := fun h => hy (Or.inr (Or.inl h))
      have h2 : ¬ y = 2 := fun h => hy (Or.inr (Or.inr h))
      have fin : wpX7_equal (fun B F mp _ _ _ _ => AN 1 o F B.toInt64 ∧ ph = mp) (nI s) y (nI n) z k a b c ft ph fs os A2 B2 := m_equalF (Or.inr e) ⟨an_1, rfl⟩
      have f3 : ∀ {P Q R : Prop} {S : Prop}, S → (y = 0 → P) ∧ (¬ y = 0 → (y = 1 → Q) ∧ (¬ y = 1 → (y = 2 → R) ∧ (¬ y = 2 → S))) := fun hS => ⟨fun h => absurd h h0, fun _ => ⟨fun h => absurd h h1, fun _ => ⟨fun h => absurd h h2, fun _ => hS⟩⟩⟩
      rcases (show s = 0 ∨ s = 1 ∨ s = 2 by omega) with rfl | rfl | rfl
      · exact ⟨fun _ => f3 ⟨rfl, fin⟩, fun h => absurd rfl h⟩
      · exact ⟨fun h => absurd h (by decide), fun _ => ⟨fun _ => f3 ⟨rfl, fin⟩, fun h => absurd rfl h⟩⟩
      · exact ⟨fun h => absurd h (by decide), fun _ => ⟨fun h => absurd h (by decide), fun _ => ⟨fun _ => f3 ⟨rfl, fin⟩, fun h => absurd rfl h⟩⟩⟩
  · have e := slot_f hx
    have h0 : ¬ x = 0 := fun h => hx (Or.inl h)
    have h1 : ¬ x = 1 := fun h => hx (Or.inr (Or.inl h))
    have h2 : ¬ x = 2 := fun h => hx (Or.inr (Or.inr h))
    have fin : wpX7_equal (fun B F mp _ _ _ _ => AN 1 o F B.toInt64 ∧ ph = mp) x y (nI n) z k a b c ft ph fs os A2 B2 := m_equalF (Or.inl e) ⟨an_1, rfl⟩
    exact ⟨fun h => absurd h h0, fun _ => ⟨fun h => absurd h h1, fun _ => ⟨fun h => absurd h h2, fun _ => ⟨fun _ => ⟨rfl, fin⟩, fun _ => ⟨fun _ => ⟨rfl, fin⟩, fun _ => ⟨fun _ => ⟨rfl, fin⟩, fun _ => ⟨rfl, fin⟩⟩⟩⟩⟩⟩⟩
end
