/-! One row an operation: the class and the reference answer alike. -/
def sel3 {α : Type} (a b c : α) : Nat → α
  | 0 => a
  | 1 => b
  | _ => c
def C3 (n : Nat) (c1 c2 c3 : Int32) (g1 g2 g3 z k a b c : Nat → Int32) : Prop := ∃ Ls, MM z k a b c Ls ∧ ∀ s, s < 3 → CR (sel3 c1 c2 c3 s) (sel3 g1 g2 g3 s) (Ls s) ∧ ∀ x ∈ Ls s, gv n x = true
/-- the answers: fault, and where none, the value -/
def AN (K : Int32) (o : Nat → Int64) (F : Int32) (B : Int64) : Prop := F = K ∧ (K = 0 → o 0 = B)
theorem an_0 {o : Nat → Int64} {x B : Int64} {F : Int32} (hF : F = 0) (h : x = B) : vp_in 0 1 ∧ AN 0 (vp_updL o (0 : Int32).toNatClampNeg x) F B := ⟨vp_in_nI (n := 0) (by omega) (by omega), hF, fun _ => h⟩
theorem an_1 {o : Nat → Int64} {B : Int64} : AN 1 o 1 B := ⟨rfl, fun h => absurd h (by decide)⟩
theorem an_2 {o : Nat → Int64} {B : Int64} : AN 2 o 2 B := ⟨rfl, fun h => absurd h (by decide)⟩
theorem sl_c (x : Int32) : (∃ s, s < 3 ∧ x = nI s) ∨ ¬ (x = 0 ∨ x = 1 ∨ x = 2) := by
  by_cases h : x = 0 ∨ x = 1 ∨ x = 2
  · refine Or.inl ?_
    rcases h with h | h | h
    · exact ⟨0, by omega, h⟩
    · exact ⟨1, by omega, h⟩
    · exact ⟨2, by omega, h⟩
  · exact Or.inr h
theorem inv_v {n : Nat} (hn : n < 5) {L : List Nat} (hv : ∀ x ∈ L, gv n x = true) : ∀ x ∈ invL L, gv n x = true := by
  intro x hx
  unfold invL at hx
  obtain ⟨g, hg, hx⟩ := List.mem_flatMap.mp hx
  have h := hv g (List.mem_reverse.mp hg)
  have ha := (gv_k h).2.2
  unfold invG at hx
  split at hx
  · simp only [List.mem_cons, List.not_mem_nil, or_false] at hx
    rcases hx with rfl | rfl | rfl
    · exact gv_gi (by omega) (by omega) ha hn
    · exact gv_gi (by omega) (by omega) ha hn
    · exact gv_gi (by omega) (by omega) ha hn
  · split at hx
    · simp only [List.mem_cons, List.not_mem_nil, or_false] at hx
      rcases hx with rfl | rfl
      · exact h
      · exact gv_gi (by omega) (by omega) ha hn
    · rw [List.mem_singleton.mp hx]; exact h
theorem cx_v {n p q : Nat} (hn : n < 5) (hp : p < n) (hq : q < n) (hpq : q ≠ p) : gv n (cx p q) = true := by
  obtain ⟨e1, e2, e3⟩ := cx_k (a := p) (b := q) (by omega) (by omega)
  unfold gv
  rw [e1, e2, e3]
  simp [hp, hq, hpq, cx]
theorem exp_v {n : Nat} (hn : n < 5) {L : List Nat} (hv : ∀ x ∈ L, gv n x = true) : ∀ x ∈ expL L, gv n x = true := by
  intro x hx
  unfold expL at hx
  obtain ⟨g, hg, hx⟩ := List.mem_flatMap.mp hx
  have h := hv g hg
  unfold expG at hx
  split at hx
  · rename_i e9
    have ha := (gv_k h).2.2
    obtain ⟨hb, hba⟩ := gv_2 h (by omega)
    obtain ⟨hc, hca, hcb⟩ := gv_3 h e9
    have i1 : ∀ w, w < n → gv n (gi 1 w) = true := fun w hw => gv_gi (by omega) (by omega) hw hn
    have i2 : ∀ w, w < n → gv n (gi 2 w) = true := fun w hw => gv_gi (by omega) (by omega) hw hn
    have i3 : ∀ w, w < n → gv n (gi 3 w) = true := fun w hw => gv_gi (by omega) (by omega) hw hn
    have i5 : ∀ w, w < n → gv n (gi 5 w) = true := fun w hw => gv_gi (by omega) (by omega) hw hn
    have x1 := cx_v hn hb hc hcb
    have x2 := cx_v hn ha hc hca
    have x3 := cx_v hn ha hb hba
    have all : ∀ x ∈ partsG (aN g) (bN g) (cN g), gv n x = true := by
      simp [partsG, bkG, i1 _ hc, i2 _ hc, i2 _ hb, i3 _ ha, i3 _ hb, i3 _ hc, i5 _ hc, i5 _ hb, x1, x2, x3]
    exact all x hx
  · rw [List.mem_singleton.mp hx]; exact h
section
variable {n : Nat} {c1 c2 c3 : Int32} {g1 g2 g3 z k a b c : Nat → Int32} {Ls Ls' : Nat → List Nat}
theorem c3_0 {c' : Int32} {g' : Nat → Int32} {M : List Nat} (h : ∀ s, s < 3 → CR (sel3 c1 c2 c3 s) (sel3 g1 g2 g3 s) (Ls s) ∧ ∀ x ∈ Ls s, gv n x = true) (hM : MM z k a b c Ls') (e : ∀ t, t < 3 → t ≠ 0 → Ls' t = Ls t) (e2 : Ls' 0 = M) (hC : CR c' g' M) (hv : ∀ x ∈ M, gv n x = true) : C3 n c' c2 c3 g' g2 g3 z k a b c := by
  refine ⟨Ls', hM, fun t ht => ?_⟩
  by_cases et : t = 0
  · subst et; rw [e2]; exact ⟨hC, hv⟩
  · rw [e t ht et]
    have h2 := h t ht
    rcases (show t = 0 ∨ t = 1 ∨ t = 2 by omega) with rfl | rfl | rfl
    · exact absurd rfl et
    · exact h2
    · exact h2
theorem c3_1 {c' : Int32} {g' : Nat → Int32} {M : List Nat} (h : ∀ s, s < 3 → CR (sel3 c1 c2 c3 s) (sel3 g1 g2 g3 s) (Ls s) ∧ ∀ x ∈ Ls s, gv n x = true) (hM : MM z k a b c Ls') (e : ∀ t, t < 3 → t ≠ 1 → Ls' t = Ls t) (e2 : Ls' 1 = M) (hC : CR c' g' M) (hv : ∀ x ∈ M, gv n x = true) : C3 n c1 c' c3 g1 g' g3 z k a b c := by
  refine ⟨Ls', hM, fun t ht => ?_⟩
  by_cases et : t = 1
  · subst et; rw [e2]; exact ⟨hC, hv⟩
  · rw [e t ht et]
    have h2 := h t ht
    rcases (show t = 0 ∨ t = 1 ∨ t = 2 by omega) with rfl | rfl | rfl
    · exact h2
    · exact absurd rfl et
    · exact h2
theorem c3_2 {c' : Int32} {g' : Nat → Int32} {M : List Nat} (h : ∀ s, s < 3 → CR (sel3 c1 c2 c3 s) (sel3 g1 g2 g3 s) (Ls s) ∧ ∀ x ∈ Ls s, gv n x = true) (hM : MM z k a b c Ls') (e : ∀ t, t < 3 → t ≠ 2 → Ls' t = Ls t) (e2 : Ls' 2 = M) (hC : CR c' g' M) (hv : ∀ x ∈ M, gv n x = true) : C3 n c1 c2 c' g1 g2 g' z k a b c := by
  refine ⟨Ls', hM, fun t ht => ?_⟩
  by_cases et : t = 2
  · subst et; rw [e2]; exact ⟨hC, hv⟩
  · rw [e t ht et]
    have h2 := h t ht
    rcases (show t = 0 ∨ t = 1 ∨ t = 2 by omega) with rfl | rfl | rfl
    · exact h2
    · exact h2
    · exact absurd rfl et
theorem up_n {s : Nat} {M : List Nat} : ∀ t, t < 3 → t ≠ s → upS Ls s M t = Ls t := fun t _ h => upS_n h
theorem up_n3 {s : Nat} {M N : List Nat} : ∀ t, t < 3 → t ≠ s → upS (upS Ls 3 N) s M t = Ls t := fun t h3 h => by rw [upS_n h, upS_n (by omega)]
theorem o_clear {x ft : Int32} (h : C3 n c1 c2 c3 g1 g2 g3 z k a b c) : wpL_clear (fun K c1 c2 c3 => wpX7_clear (fun F z => F = K ∧ C3 n c1 c2 c3 g1 g2 g3 z k a b c) x ft z) x c1 c2 c3 := by
  obtain ⟨Ls, hM, hs⟩ := h
  rcases sl_c x with ⟨s, h3, rfl⟩ | hx
  · rcases (show s = 0 ∨ s = 1 ∨ s = 2 by omega) with rfl | rfl | rfl
    · simp (disch := omega) only [wpL_clear, wpX6_clear, wpX0_removeAll, not_true_eq_false, not_false_eq_true, forall_const, true_implies, false_implies, implies_true, and_true, true_and, and_self, Nat.not_lt_zero, ne_eq, if_true, if_false, reduceIte, Nat.reduceAdd, Nat.reduceMul, Nat.reduceSub, Nat.reduceLT, Nat.reduceLeDiff, Nat.reduceEqDiff, Nat.add_sub_cancel, eq_self_iff_true, L_0, L_1, L_2, L_3, L_4, L_5, L_6, L_7, L_8, L_9, L_10, L_16, L_20, L_21, L_24, L_31, L_64, L_100, L_320, L_400, L_1000, L_256, nI_add, pk_mul, pk_sub, nI_clamp, vp_in_nI, nI_ge, nI_le, nI_lt, nI_nlt, qI_ne, qI_eq, qI_m1, q_all, qI_nm, qI_nm2]
      exact m_clear hM (s := 0) (by omega) (fun z hz => ⟨rfl, c3_0 hs hz up_n upS_s (CR_0 _) (fun x hx => by cases hx)⟩)
    · simp (disch := omega) only [wpL_clear, wpX6_clear, wpX0_removeAll, not_true_eq_false, not_false_eq_true, forall_const, true_implies, false_implies, implies_true, and_true, true_and, and_self, Nat.not_lt_zero, ne_eq, if_true, if_false, reduceIte, Nat.reduceAdd, Nat.reduceMul, Nat.reduceSub, Nat.reduceLT, Nat.reduceLeDiff, Nat.reduceEqDiff, Nat.add_sub_cancel, eq_self_iff_true, L_0, L_1, L_2, L_3, L_4, L_5, L_6, L_7, L_8, L_9, L_10, L_16, L_20, L_21, L_24, L_31, L_64, L_100, L_320, L_400, L_1000, L_256, nI_add, pk_mul, pk_sub, nI_clamp, vp_in_nI, nI_ge, nI_le, nI_lt, nI_nlt, qI_ne, qI_eq, qI_m1, q_all, qI_nm, qI_nm2]
      exact m_clear hM (s := 1) (by omega) (fun z hz => ⟨rfl, c3_1 hs hz up_n upS_s (CR_0 _) (fun x hx => by cases hx)⟩)
    · simp (disch := omega) only [wpL_clear, wpX6_clear, wpX0_removeAll, not_true_eq_false, not_false_eq_true, forall_const, true_implies, false_implies, implies_true, and_true, true_and, and_self, Nat.not_lt_zero, ne_eq, if_true, if_false, reduceIte, Nat.reduceAdd, Nat.reduceMul, Nat.reduceSub, Nat.reduceLT, Nat.reduceLeDiff, Nat.reduceEqDiff, Nat.add_sub_cancel, eq_self_iff_true, L_0, L_1, L_2, L_3, L_4, L_5, L_6, L_7, L_8, L_9, L_10, L_16, L_20, L_21, L_24, L_31, L_64, L_100, L_320, L_400, L_1000, L_256, nI_add, pk_mul, pk_sub, nI_clamp, vp_in_nI, nI_ge, nI_le, nI_lt, nI_nlt, qI_ne, qI_eq, qI_m1, q_all, qI_nm, qI_nm2]
      exact m_clear hM (s := 2) (by omega) (fun z hz => ⟨rfl, c3_2 hs hz up_n upS_s (CR_0 _) (fun x hx => by cases hx)⟩)
  · have e := slot_f hx
    have h0 : ¬ x = 0 := fun h => hx (Or.inl h)
    have h1 : ¬ x = 1 := fun h => hx (Or.inr (Or.inl h))
    have h2 : ¬ x = 2 := fun h => hx (Or.inr (Or.inr h))
    refine ⟨fun h => absurd h h0, fun _ => ⟨fun h => absurd h h1, fun _ => ⟨fun h => absurd h h2, fun _ => ⟨rfl, ?_⟩⟩⟩⟩
    unfold wpX7_clear
    rw [e]
    exact ⟨fun _ => ⟨fun h => absurd h (by decide), fun _ => ⟨rfl, Ls, hM, hs⟩⟩, fun h => absurd rfl h⟩
theorem o_size {x ft : Int32} (h : C3 n c1 c2 c3 g1 g2 g3 z k a b c) : wpX6_size (fun r => wpX7_size (fun B F => r = B) x z ft) x c1 c2 c3 := by
  obtain ⟨Ls, hM, hs⟩ := h
  rcases sl_c x with ⟨s, h3, rfl⟩ | hx
  · have e := slot_t h3
    have hC := (hs s h3).1.1
    have hZ := (hM s (by omega)).1
    have hr : wpX7_size (fun B F => sel3 c1 c2 c3 s = B) (nI s) z ft := by
      unfold wpX7_size
      rw [e]
      refine ⟨fun h => absurd h (by decide), fun _ => ⟨vp_in_nI (by omega) (by omega), ?_⟩⟩
      rw [nI_clamp (by omega), hZ, hC]
    rcases (show s = 0 ∨ s = 1 ∨ s = 2 by omega) with rfl | rfl | rfl
    · simp (disch := omega) only [wpX6_size, zvX0_count, not_true_eq_false, not_false_eq_true, forall_const, true_implies, false_implies, implies_true, and_true, true_and, and_self, Nat.not_lt_zero, ne_eq, if_true, if_false, reduceIte, Nat.reduceAdd, Nat.reduceMul, Nat.reduceSub, Nat.reduceLT, Nat.reduceLeDiff, Nat.reduceEqDiff, Nat.add_sub_cancel, eq_self_iff_true, L_0, L_1, L_2, L_3, L_4, L_5, L_6, L_7, L_8, L_9, L_10, L_16, L_20, L_21, L_24, L_31, L_64, L_100, L_320, L_400, L_1000, L_256, nI_add, pk_mul, pk_sub, nI_clamp, vp_in_nI, nI_ge, nI_le, nI_lt, nI_nlt, qI_ne, qI_eq, qI_m1, q_all, qI_nm, qI_nm2]
      exact hr
    · simp (disch := omega) only [wpX6_size, zvX0_count, not_true_eq_false, not_false_eq_true, forall_const, true_implies, false_implies, implies_true, and_true, true_and, and_self, Nat.not_lt_zero, ne_eq, if_true, if_false, reduceIte, Nat.reduceAdd, Nat.reduceMul, Nat.reduceSub, Nat.reduceLT, Nat.reduceLeDiff, Nat.reduceEqDiff, Nat.add_sub_cancel, eq_self_iff_true, L_0, L_1, L_2, L_3, L_4, L_5, L_6, L_7, L_8, L_9, L_10, L_16, L_20, L_21, L_24, L_31, L_64, L_100, L_320, L_400, L_1000, L_256, nI_add, pk_mul, pk_sub, nI_clamp, vp_in_nI, nI_ge, nI_le, nI_lt, nI_nlt, qI_ne, qI_eq, qI_m1, q_all, qI_nm, qI_nm2]
      exact hr
    · simp (disch := omega) only [wpX6_size, zvX0_count, not_true_eq_false, not_false_eq_true, forall_const, true_implies, false_implies, implies_true, and_true, true_and, and_self, Nat.not_lt_zero, ne_eq, if_true, if_false, reduceIte, Nat.reduceAdd, Nat.reduceMul, Nat.reduceSub, Nat.reduceLT, Nat.reduceLeDiff, Nat.reduceEqDiff, Nat.add_sub_cancel, eq_self_iff_true, L_0, L_1, L_2, L_3, L_4, L_5, L_6, L_7, L_8, L_9, L_10, L_16, L_20, L_21, L_24, L_31, L_64, L_100, L_320, L_400, L_1000, L_256, nI_add, pk_mul, pk_sub, nI_clamp, vp_in_nI, nI_ge, nI_le, nI_lt, nI_nlt, qI_ne, qI_eq, qI_m1, q_all, qI_nm, qI_nm2]
      exact hr
  · have e := slot_f hx
    have h0 : ¬ x = 0 := fun h => hx (Or.inl h)
    have h1 : ¬ x = 1 := fun h => hx (Or.inr (Or.inl h))
    have h2 : ¬ x = 2 := fun h => hx (Or.inr (Or.inr h))
    refine ⟨fun h => absurd h h0, fun _ => ⟨fun h => absurd h h1, fun _ => ⟨fun h => absurd h h2, fun _ => ?_⟩⟩⟩
    unfold wpX7_size
    rw [e]
    exact ⟨fun _ => rfl, fun h => absurd rfl h⟩
theorem len_fm {f : Nat → List Nat} {m : Nat} (h : ∀ g, (f g).length ≤ m) : ∀ (L : List Nat), (L.flatMap f).length ≤ m * L.length := by
  intro L
  induction L with
  | nil => simp
  | cons g L ih => rw [List.flatMap_cons, List.length_append, List.length_cons, Nat.mul_succ]; have := h g; omega
theorem len_inverse {L : List Nat} (h : L.length ≤ 64) : (invL L).length < 2 ^ 20 := by
  have := len_fm (f := invG) (m := 3) (fun g => by unfold invG; split; · simp
                                                   · split <;> simp) L.reverse
  unfold invL
  rw [List.length_reverse] at this
  omega
theorem len_expand {L : List Nat} (h : L.length ≤ 64) : (expL L).length < 2 ^ 20 := by
  have := len_fm (f := expG) (m := 21) (fun g => by unfold expG; split; · show (partsG _ _ _).length ≤ 21; unfold partsG bkG; simp
                                                    · simp) L
  unfold expL
  omega
theorem m_inverseF {Q : Int32 → Int32 → (Nat → Int32) → (Nat → Int32) → (Nat → Int32) → (Nat → Int32) → (Nat → Int32) → Prop} {x ft : Int32} (e : zvX7_isSlot x = 0) (h : Q 0 1 z k a b c) : wpX7_inverse Q x ft z k a b c := by
  unfold wpX7_inverse
  rw [e]
  refine ⟨fun _ => ?_, fun h => absurd rfl h⟩
  exact ⟨fun h => absurd h (by decide), fun _ => h⟩
theorem m_expandF {Q : Int32 → Int32 → (Nat → Int32) → (Nat → Int32) → (Nat → Int32) → (Nat → Int32) → (Nat → Int32) → Prop} {x ft : Int32} (e : zvX7_isSlot x = 0) (h : Q 0 1 z k a b c) : wpX7_expand Q x ft z k a b c := by
  unfold wpX7_expand
  rw [e]
  refine ⟨fun _ => ?_, fun h => absurd rfl h⟩
  exact ⟨fun h => absurd h (by decide), fun _ => h⟩
theorem o_inverse {x ft sc : Int32} {o : Nat → Int64} {sg : Nat → Int32} (hn : n < 5) (h : C3 n c1 c2 c3 g1 g2 g3 z k a b c) : wpL_inverse (fun K o c1 c2 c3 _ g1 g2 g3 _ => wpX7_inverse (fun B F z k a b c => AN K o F B.toInt64 ∧ C3 n c1 c2 c3 g1 g2 g3 z k a b c) x ft z k a b c) x o c1 c2 c3 sc g1 g2 g3 sg := by
  obtain ⟨Ls, hM, hs⟩ := h
  rcases sl_c x with ⟨s, h3, rfl⟩ | hx
  · have hv4 : ∀ x ∈ Ls s, gv 4 x = true := fun x hx => gv_up (by omega) ((hs s h3).2 x hx)
    rcases (show s = 0 ∨ s = 1 ∨ s = 2 by omega) with rfl | rfl | rfl
    · have hC := (hs 0 (by omega)).1
      have hv := inv_v hn (hs 0 (by omega)).2
      simp (disch := omega) only [wpL_inverse, wpX6_inverse, zvX0_count, wpX0_removeAll, not_true_eq_false, not_false_eq_true, forall_const, true_implies, false_implies, implies_true, and_true, true_and, and_self, Nat.not_lt_zero, ne_eq, if_true, if_false, reduceIte, Nat.reduceAdd, Nat.reduceMul, Nat.reduceSub, Nat.reduceLT, Nat.reduceLeDiff, Nat.reduceEqDiff, Nat.add_sub_cancel, eq_self_iff_true, L_0, L_1, L_2, L_3, L_4, L_5, L_6, L_7, L_8, L_9, L_10, L_16, L_20, L_21, L_24, L_31, L_64, L_100, L_320, L_400, L_1000, L_256, nI_add, pk_mul, pk_sub, nI_clamp, vp_in_nI, nI_ge, nI_le, nI_lt, nI_nlt, qI_ne, qI_eq, qI_m1, q_all, qI_nm, qI_nm2]
      refine y_countInv hC ?_
      by_cases hl : (invL (Ls 0)).length ≤ 64
      · refine ⟨fun _ => ?_, fun h => absurd (nI_le hl (by omega)) h⟩
        refine y_addInv (CR_0 _) hC hl (fun c5 f5 h5 => ?_)
        refine y_become h5 (fun c6 f6 h6 => ?_)
        obtain rfl := h6.1
        exact m_inverse hM (s := 0) (by omega) hv4 (fun h => absurd hl (by omega)) (fun _ z k a b c hz => ⟨⟨rfl, fun _ => rfl⟩, c3_0 hs hz up_n3 upS_s h6 hv⟩)
      · have hb : (invL (Ls 0)).length < 2 ^ 20 := len_inverse hC.2.1
        refine ⟨fun h => absurd h (nI_ge (by omega) (by omega)), fun _ => Or.inr ?_⟩
        exact m_inverse hM (s := 0) (by omega) hv4 (fun _ => ⟨an_2, Ls, hM, hs⟩) (fun h => absurd h hl)
    · have hC := (hs 1 (by omega)).1
      have hv := inv_v hn (hs 1 (by omega)).2
      simp (disch := omega) only [wpL_inverse, wpX6_inverse, zvX0_count, wpX0_removeAll, not_true_eq_false, not_false_eq_true, forall_const, true_implies, false_implies, implies_true, and_true, true_and, and_self, Nat.not_lt_zero, ne_eq, if_true, if_false, reduceIte, Nat.reduceAdd, Nat.reduceMul, Nat.reduceSub, Nat.reduceLT, Nat.reduceLeDiff, Nat.reduceEqDiff, Nat.add_sub_cancel, eq_self_iff_true, L_0, L_1, L_2, L_3, L_4, L_5, L_6, L_7, L_8, L_9, L_10, L_16, L_20, L_21, L_24, L_31, L_64, L_100, L_320, L_400, L_1000, L_256, nI_add, pk_mul, pk_sub, nI_clamp, vp_in_nI, nI_ge, nI_le, nI_lt, nI_nlt, qI_ne, qI_eq, qI_m1, q_all, qI_nm, qI_nm2]
      refine y_countInv hC ?_
      by_cases hl : (invL (Ls 1)).length ≤ 64
      · refine ⟨fun _ => ?_, fun h => absurd (nI_le hl (by omega)) h⟩
        refine y_addInv (CR_0 _) hC hl (fun c5 f5 h5 => ?_)
        refine y_become h5 (fun c6 f6 h6 => ?_)
        obtain rfl := h6.1
        exact m_inverse hM (s := 1) (by omega) hv4 (fun h => absurd hl (by omega)) (fun _ z k a b c hz => ⟨⟨rfl, fun _ => rfl⟩, c3_1 hs hz up_n3 upS_s h6 hv⟩)
      · have hb : (invL (Ls 1)).length < 2 ^ 20 := len_inverse hC.2.1
        refine ⟨fun h => absurd h (nI_ge (by omega) (by omega)), fun _ => Or.inr ?_⟩
        exact m_inverse hM (s := 1) (by omega) hv4 (fun _ => ⟨an_2, Ls, hM, hs⟩) (fun h => absurd h hl)
    · have hC := (hs 2 (by omega)).1
      have hv := inv_v hn (hs 2 (by omega)).2
      simp (disch := omega) only [wpL_inverse, wpX6_inverse, zvX0_count, wpX0_removeAll, not_true_eq_false, not_false_eq_true, forall_const, true_implies, false_implies, implies_true, and_true, true_and, and_self, Nat.not_lt_zero, ne_eq, if_true, if_false, reduceIte, Nat.reduceAdd, Nat.reduceMul, Nat.reduceSub, Nat.reduceLT, Nat.reduceLeDiff, Nat.reduceEqDiff, Nat.add_sub_cancel, eq_self_iff_true, L_0, L_1, L_2, L_3, L_4, L_5, L_6, L_7, L_8, L_9, L_10, L_16, L_20, L_21, L_24, L_31, L_64, L_100, L_320, L_400, L_1000, L_256, nI_add, pk_mul, pk_sub, nI_clamp, vp_in_nI, nI_ge, nI_le, nI_lt, nI_nlt, qI_ne, qI_eq, qI_m1, q_all, qI_nm, qI_nm2]
      refine y_countInv hC ?_
      by_cases hl : (invL (Ls 2)).length ≤ 64
      · refine ⟨fun _ => ?_, fun h => absurd (nI_le hl (by omega)) h⟩
        refine y_addInv (CR_0 _) hC hl (fun c5 f5 h5 => ?_)
        refine y_become h5 (fun c6 f6 h6 => ?_)
        obtain rfl := h6.1
        exact m_inverse hM (s := 2) (by omega) hv4 (fun h => absurd hl (by omega)) (fun _ z k a b c hz => ⟨⟨rfl, fun _ => rfl⟩, c3_2 hs hz up_n3 upS_s h6 hv⟩)
      · have hb : (invL (Ls 2)).length < 2 ^ 20 := len_inverse hC.2.1
        refine ⟨fun h => absurd h (nI_ge (by omega) (by omega)), fun _ => Or.inr ?_⟩
        exact m_inverse hM (s := 2) (by omega) hv4 (fun _ => ⟨an_2, Ls, hM, hs⟩) (fun h => absurd h hl)
  · have e := slot_f hx
    have h0 : ¬ x = 0 := fun h => hx (Or.inl h)
    have h1 : ¬ x = 1 := fun h => hx (Or.inr (Or.inl h))
    have h2 : ¬ x = 2 := fun h => hx (Or.inr (Or.inr h))
    refine ⟨fun h => absurd h h0, fun _ => ⟨fun h => absurd h h1, fun _ => ⟨fun h => absurd h h2, fun _ => Or.inl ⟨rfl, ?_⟩⟩⟩⟩
    exact m_inverseF e ⟨an_1, Ls, hM, hs⟩
theorem o_expand {x ft sc : Int32} {o : Nat → Int64} {sg : Nat → Int32} (hn : n < 5) (h : C3 n c1 c2 c3 g1 g2 g3 z k a b c) : wpL_expand (fun K o c1 c2 c3 _ g1 g2 g3 _ => wpX7_expand (fun B F z k a b c => AN K o F B.toInt64 ∧ C3 n c1 c2 c3 g1 g2 g3 z k a b c) x ft z k a b c) x o c1 c2 c3 sc g1 g2 g3 sg := by
  obtain ⟨Ls, hM, hs⟩ := h
  rcases sl_c x with ⟨s, h3, rfl⟩ | hx
  · have hv4 : ∀ x ∈ Ls s, gv 4 x = true := fun x hx => gv_up (by omega) ((hs s h3).2 x hx)
    rcases (show s = 0 ∨ s = 1 ∨ s = 2 by omega) with rfl | rfl | rfl
    · have hC := (hs 0 (by omega)).1
      have hv := exp_v hn (hs 0 (by omega)).2
      simp (disch := omega) only [wpL_expand, wpX6_expand, zvX0_count, wpX0_removeAll, not_true_eq_false, not_false_eq_true, forall_const, true_implies, false_implies, implies_true, and_true, true_and, and_self, Nat.not_lt_zero, ne_eq, if_true, if_false, reduceIte, Nat.reduceAdd, Nat.reduceMul, Nat.reduceSub, Nat.reduceLT, Nat.reduceLeDiff, Nat.reduceEqDiff, Nat.add_sub_cancel, eq_self_iff_true, L_0, L_1, L_2, L_3, L_4, L_5, L_6, L_7, L_8, L_9, L_10, L_16, L_20, L_21, L_24, L_31, L_64, L_100, L_320, L_400, L_1000, L_256, nI_add, pk_mul, pk_sub, nI_clamp, vp_in_nI, nI_ge, nI_le, nI_lt, nI_nlt, qI_ne, qI_eq, qI_m1, q_all, qI_nm, qI_nm2]
      refine y_countExp hC ?_
      by_cases hl : (expL (Ls 0)).length ≤ 64
      · refine ⟨fun _ => ?_, fun h => absurd (nI_le hl (by omega)) h⟩
        refine y_addExp (CR_0 _) hC hl (fun c5 f5 h5 => ?_)
        refine y_become h5 (fun c6 f6 h6 => ?_)
        obtain rfl := h6.1
        exact m_expand hM (s := 0) (by omega) hv4 (fun h => absurd hl (by omega)) (fun _ z k a b c hz => ⟨⟨rfl, fun _ => rfl⟩, c3_0 hs hz up_n3 upS_s h6 hv⟩)
      · have hb : (expL (Ls 0)).length < 2 ^ 20 := len_expand hC.2.1
        refine ⟨fun h => absurd h (nI_ge (by omega) (by omega)), fun _ => Or.inr ?_⟩
        exact m_expand hM (s := 0) (by omega) hv4 (fun _ => ⟨an_2, Ls, hM, hs⟩) (fun h => absurd h hl)
    · have hC := (hs 1 (by omega)).1
      have hv := exp_v hn (hs 1 (by omega)).2
      simp (disch := omega) only [wpL_expand, wpX6_expand, zvX0_count, wpX0_removeAll, not_true_eq_false, not_false_eq_true, forall_const, true_implies, false_implies, implies_true, and_true, true_and, and_self, Nat.not_lt_zero, ne_eq, if_true, if_false, reduceIte, Nat.reduceAdd, Nat.reduceMul, Nat.reduceSub, Nat.reduceLT, Nat.reduceLeDiff, Nat.reduceEqDiff, Nat.add_sub_cancel, eq_self_iff_true, L_0, L_1, L_2, L_3, L_4, L_5, L_6, L_7, L_8, L_9, L_10, L_16, L_20, L_21, L_24, L_31, L_64, L_100, L_320, L_400, L_1000, L_256, nI_add, pk_mul, pk_sub, nI_clamp, vp_in_nI, nI_ge, nI_le, nI_lt, nI_nlt, qI_ne, qI_eq, qI_m1, q_all, qI_nm, qI_nm2]
      refine y_countExp hC ?_
      by_cases hl : (expL (Ls 1)).length ≤ 64
      · refine ⟨fun _ => ?_, fun h => absurd (nI_le hl (by omega)) h⟩
        refine y_addExp (CR_0 _) hC hl (fun c5 f5 h5 => ?_)
        refine y_become h5 (fun c6 f6 h6 => ?_)
        obtain rfl := h6.1
        exact m_expand hM (s := 1) (by omega) hv4 (fun h => absurd hl (by omega)) (fun _ z k a b c hz => ⟨⟨rfl, fun _ => rfl⟩, c3_1 hs hz up_n3 upS_s h6 hv⟩)
      · have hb : (expL (Ls 1)).length < 2 ^ 20 := len_expand hC.2.1
        refine ⟨fun h => absurd h (nI_ge (by omega) (by omega)), fun _ => Or.inr ?_⟩
        exact m_expand hM (s := 1) (by omega) hv4 (fun _ => ⟨an_2, Ls, hM, hs⟩) (fun h => absurd h hl)
    · have hC := (hs 2 (by omega)).1
      have hv := exp_v hn (hs 2 (by omega)).2
      simp (disch := omega) only [wpL_expand, wpX6_expand, zvX0_count, wpX0_removeAll, not_true_eq_false, not_false_eq_true, forall_const, true_implies, false_implies, implies_true, and_true, true_and, and_self, Nat.not_lt_zero, ne_eq, if_true, if_false, reduceIte, Nat.reduceAdd, Nat.reduceMul, Nat.reduceSub, Nat.reduceLT, Nat.reduceLeDiff, Nat.reduceEqDiff, Nat.add_sub_cancel, eq_self_iff_true, L_0, L_1, L_2, L_3, L_4, L_5, L_6, L_7, L_8, L_9, L_10, L_16, L_20, L_21, L_24, L_31, L_64, L_100, L_320, L_400, L_1000, L_256, nI_add, pk_mul, pk_sub, nI_clamp, vp_in_nI, nI_ge, nI_le, nI_lt, nI_nlt, qI_ne, qI_eq, qI_m1, q_all, qI_nm, qI_nm2]
      refine y_countExp hC ?_
      by_cases hl : (expL (Ls 2)).length ≤ 64
      · refine ⟨fun _ => ?_, fun h => absurd (nI_le hl (by omega)) h⟩
        refine y_addExp (CR_0 _) hC hl (fun c5 f5 h5 => ?_)
        refine y_become h5 (fun c6 f6 h6 => ?_)
        obtain rfl := h6.1
        exact m_expand hM (s := 2) (by omega) hv4 (fun h => absurd hl (by omega)) (fun _ z k a b c hz => ⟨⟨rfl, fun _ => rfl⟩, c3_2 hs hz up_n3 upS_s h6 hv⟩)
      · have hb : (expL (Ls 2)).length < 2 ^ 20 := len_expand hC.2.1
        refine ⟨fun h => absurd h (nI_ge (by omega) (by omega)), fun _ => Or.inr ?_⟩
        exact m_expand hM (s := 2) (by omega) hv4 (fun _ => ⟨an_2, Ls, hM, hs⟩) (fun h => absurd h hl)
  · have e := slot_f hx
    have h0 : ¬ x = 0 := fun h => hx (Or.inl h)
    have h1 : ¬ x = 1 := fun h => hx (Or.inr (Or.inl h))
    have h2 : ¬ x = 2 := fun h => hx (Or.inr (Or.inr h))
    refine ⟨fun h => absurd h h0, fun _ => ⟨fun h => absurd h h1, fun _ => ⟨fun h => absurd h h2, fun _ => Or.inl ⟨rfl, ?_⟩⟩⟩⟩
    exact m_expandF e ⟨an_1, Ls, hM, hs⟩
end
