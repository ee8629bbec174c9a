/-! The program's rewriting. -/
def findP (g : Nat) : List Nat → Option Nat
  | [] => none
  | h :: t => if meN g h then some 0 else if paN g h then (findP g t).map (· + 1) else none
theorem findP_lt {g : Nat} : ∀ {L : List Nat} {j : Nat}, findP g L = some j → j < L.length := by
  intro L
  induction L with
  | nil => intro j h; simp [findP] at h
  | cons x t ih =>
    intro j h
    unfold findP at h
    split at h
    · cases h; simp
    · split at h
      · cases e : findP g t with
        | none => rw [e] at h; simp at h
        | some k => rw [e] at h; simp at h; have := ih e; simp; omega
      · simp at h
def resP (g : Nat) (L : List Nat) (j : Nat) : Int32 := match findP g (L.drop j) with | none => -1 | some k => nI (j + k)
theorem drop_c {L : List Nat} {i : Nat} (h : i < L.length) : L.drop i = L.getD i 0 :: L.drop (i + 1) := by
  rw [List.drop_eq_getElem_cons h]; simp [List.getD, h]
theorem z10b (b : Bool) : ((if b = true then nI 1 else nI 0) = nI 0) ↔ b = false := by cases b <;> decide
theorem y_partner {Q : Int32 → Prop} {c : Int32} {f : Nat → Int32} {L : List Nat} {i : Nat} (hC : CR c f L) (hi : i < L.length) (h : Q (resP (L.getD i 0) L (i + 1))) : wpX0_partnerOf Q (nI i) c f := by
  unfold wpX0_partnerOf
  have hl := hC.2.1
  obtain ⟨rfl, -, hf⟩ := hC
  rw [nI_1]
  refine pk_loop (σ := Unit) (fun n j _ => wpX0_partnerOf_4 Q (nI L.length) f n (nI i) (nI j)) (fun j _ => Q (resP (L.getD i 0) L j)) L.length (i + 1) () (by omega) h ?_ ?_
  · intro n s hI
    simp (disch := omega) only [wpX0_partnerOf_4, wpX0_partnerOf_4b, not_true_eq_false, not_false_eq_true, forall_const, true_implies, false_implies, implies_true, and_true, true_and, and_self, Nat.not_lt_zero, ne_eq, if_true, if_false, reduceIte, Nat.reduceAdd, Nat.reduceMul, Nat.reduceSub, Nat.reduceLT, Nat.reduceLeDiff, Nat.reduceEqDiff, eq_self_iff_true, L_0, L_1, L_2, L_3, L_4, L_5, L_6, L_7, L_8, L_9, L_10, L_16, L_20, L_21, L_24, L_31, L_64, L_100, L_320, L_400, L_1000, L_256, nI_add, pk_mul, pk_sub, nI_clamp, vp_in_nI, nI_ge, nI_le, nI_lt, nI_nlt, qI_ne, qI_eq, qI_m1, q_all, qI_nm, qI_nm2]
    simp only [resP, List.drop_length, findP] at hI
    exact hI
  · intro n j s hj hI hk
    have g1 := hf i hi; have g2 := hf j hj
    simp only [resP, drop_c hj, findP] at hI
    simp (disch := omega) only [wpX0_partnerOf_4, wpX0_partnerOf_4b, g1.2, g2.2, y_me g1.1 g2.1, y_pa g1.1 g2.1, z10b, not_true_eq_false, not_false_eq_true, forall_const, true_implies, false_implies, implies_true, and_true, true_and, and_self, Nat.not_lt_zero, ne_eq, if_true, if_false, reduceIte, Nat.reduceAdd, Nat.reduceMul, Nat.reduceSub, Nat.reduceLT, Nat.reduceLeDiff, Nat.reduceEqDiff, eq_self_iff_true, L_0, L_1, L_2, L_3, L_4, L_5, L_6, L_7, L_8, L_9, L_10, L_16, L_20, L_21, L_24, L_31, L_64, L_100, L_320, L_400, L_1000, L_256, nI_add, pk_mul, pk_sub, nI_clamp, vp_in_nI, nI_ge, nI_le, nI_lt, nI_nlt, qI_ne, qI_eq, qI_m1, q_all, qI_nm, qI_nm2]
    cases hm : meN (L.getD i 0) (L.getD j 0) with
    | true => rw [hm] at hI; simpa using hI
    | false =>
      rw [hm] at hI
      cases hp : paN (L.getD i 0) (L.getD j 0) with
      | false =>
        rw [hp] at hI
        have h8 : Q (-1) := by simpa using hI
        have h9 : Q (-nI 1) := h8
        simpa using h9
      | true =>
        rw [hp] at hI
        have hk1 : Q (resP (L.getD i 0) L (j + 1)) := by
          unfold resP
          cases e : findP (L.getD i 0) (L.drop (j + 1)) with
          | none => rw [e] at hI; simpa using hI
          | some k => rw [e] at hI; simp at hI; show Q (nI (j + 1 + k)); rw [show j + 1 + k = j + (k + 1) by omega]; exact hI
        have := hk () hk1
        simpa using this
theorem y_removeAt {Q : Int32 → (Nat → Int32) → Prop} {c : Int32} {f : Nat → Int32} {L : List Nat} {i : Nat} (hC : CR c f L) (hi : i < L.length) (h : ∀ c' f', CR c' f' (L.eraseIdx i) → Q c' f') : wpX0_removeAt Q (nI i) c f := by
  unfold wpX0_removeAt
  have hl := hC.2.1
  obtain ⟨rfl, -, hf⟩ := hC
  rw [nI_1]
  refine pk_loop (σ := Nat → Int32) (fun n j s => wpX0_removeAt_4 Q n (nI j) (nI L.length) s) (fun j s => i + 1 ≤ j ∧ ∀ k, k < L.length → s k = nI (if i ≤ k ∧ k + 1 < j then L.getD (k + 1) 0 else L.getD k 0)) L.length (i + 1) f (by omega) ⟨Nat.le_refl _, fun k hk => ?_⟩ ?_ ?_
  · rw [if_neg (by omega)]; exact (hf k hk).2
  · intro n s hI
    simp (disch := omega) only [wpX0_removeAt_4, wpX0_removeAt_4b, not_true_eq_false, not_false_eq_true, forall_const, true_implies, false_implies, implies_true, and_true, true_and, and_self, Nat.not_lt_zero, ne_eq, if_true, if_false, reduceIte, Nat.reduceAdd, Nat.reduceMul, Nat.reduceSub, Nat.reduceLT, Nat.reduceLeDiff, Nat.reduceEqDiff, eq_self_iff_true, L_0, L_1, L_2, L_3, L_4, L_5, L_6, L_7, L_8, L_9, L_10, L_16, L_20, L_21, L_24, L_31, L_64, L_100, L_320, L_400, L_1000, L_256, nI_add, pk_mul, pk_sub, nI_clamp, vp_in_nI, nI_ge, nI_le, nI_lt, nI_nlt, qI_ne, qI_eq, qI_m1, q_all, qI_nm, qI_nm2]
    refine h _ _ ⟨by rw [List.length_eraseIdx_of_lt hi], by rw [List.length_eraseIdx_of_lt hi]; omega, fun k hk => ?_⟩
    rw [List.length_eraseIdx_of_lt hi] at hk
    rw [hI.2 k (by omega), g_er]
    by_cases e : k < i
    · rw [if_pos e, if_neg (by omega)]; exact ⟨(hf k (by omega)).1, rfl⟩
    · rw [if_neg e, if_pos (by omega)]; exact ⟨(hf (k + 1) (by omega)).1, rfl⟩
  · intro n j s hj hI hk
    simp (disch := omega) only [wpX0_removeAt_4, wpX0_removeAt_4b, not_true_eq_false, not_false_eq_true, forall_const, true_implies, false_implies, implies_true, and_true, true_and, and_self, Nat.not_lt_zero, ne_eq, if_true, if_false, reduceIte, Nat.reduceAdd, Nat.reduceMul, Nat.reduceSub, Nat.reduceLT, Nat.reduceLeDiff, Nat.reduceEqDiff, eq_self_iff_true, L_0, L_1, L_2, L_3, L_4, L_5, L_6, L_7, L_8, L_9, L_10, L_16, L_20, L_21, L_24, L_31, L_64, L_100, L_320, L_400, L_1000, L_256, nI_add, pk_mul, pk_sub, nI_clamp, vp_in_nI, nI_ge, nI_le, nI_lt, nI_nlt, qI_ne, qI_eq, qI_m1, q_all, qI_nm, qI_nm2]
    refine hk _ ⟨by omega, fun k hk9 => ?_⟩
    by_cases e : k = j - 1
    · subst e
      rw [pk_us, hI.2 j hj, if_neg (by omega), if_pos (by omega), show j - 1 + 1 = j by omega]
    · rw [pk_un e, hI.2 k hk9]
      by_cases e2 : i ≤ k ∧ k + 1 < j
      · rw [if_pos e2, if_pos (by omega)]
      · rw [if_neg e2, if_neg (by omega)]
def unL (L : List Nat) (i j : Nat) : List Nat := match unN (L.getD i 0) with | none => (L.eraseIdx j).eraseIdx i | some u => (L.eraseIdx j).set i u
theorem unN_lt {g u : Nat} (h : unN g = some u) : u < 10000 := by
  have := aN_lt g
  unfold unN at h
  split at h
  · cases h; unfold gi; omega
  · split at h
    · cases h; unfold gi; omega
    · cases h
theorem y_unite {Q : Int32 → (Nat → Int32) → Prop} {c : Int32} {f : Nat → Int32} {L : List Nat} {i j : Nat} (hC : CR c f L) (hi : i < j) (hj : j < L.length) (h : ∀ c' f', CR c' f' (unL L i j) → Q c' f') : wpX0_unite Q (nI i) (nI j) c f := by
  have hl := hC.2.1
  have g1 := hC.2.2 i (by omega)
  unfold wpX0_unite
  simp (disch := omega) only [not_true_eq_false, not_false_eq_true, forall_const, true_implies, false_implies, implies_true, and_true, true_and, and_self, Nat.not_lt_zero, ne_eq, if_true, if_false, reduceIte, Nat.reduceAdd, Nat.reduceMul, Nat.reduceSub, Nat.reduceLT, Nat.reduceLeDiff, Nat.reduceEqDiff, eq_self_iff_true, L_0, L_1, L_2, L_3, L_4, L_5, L_6, L_7, L_8, L_9, L_10, L_16, L_20, L_21, L_24, L_31, L_64, L_100, L_320, L_400, L_1000, L_256, nI_add, pk_mul, pk_sub, nI_clamp, vp_in_nI, nI_ge, nI_le, nI_lt, nI_nlt, qI_ne, qI_eq, qI_m1, q_all, qI_nm, qI_nm2]
  refine y_removeAt hC hj (fun c1 f1 h1 => ?_)
  rw [g1.2, y_un g1.1]
  have hlen : (L.eraseIdx j).length = L.length - 1 := List.length_eraseIdx_of_lt hj
  cases e : unN (L.getD i 0) with
  | none =>
    refine ⟨fun _ => ?_, fun h9 => absurd rfl h9⟩
    refine y_removeAt h1 (by omega) (fun c2 f2 h2 => h _ _ ?_)
    unfold unL; rw [e]; exact h2
  | some u =>
    have hu := unN_lt e
    refine ⟨fun h9 => absurd h9 (qI_nm (by omega)), fun _ => ?_⟩
    refine h _ _ ?_
    unfold unL; rw [e]
    refine ⟨by rw [List.length_set]; exact h1.1, by rw [List.length_set]; exact h1.2.1, fun k hk => ?_⟩
    rw [List.length_set] at hk
    rw [g_set (by omega)]
    by_cases ek : k = i
    · subst ek; rw [if_pos rfl, pk_us]; exact ⟨hu, rfl⟩
    · rw [if_neg ek, pk_un ek]; exact h1.2.2 k hk
def rwAt (L : List Nat) (i : Nat) : Option (List Nat) := (findP (L.getD i 0) (L.drop (i + 1))).map (fun j => unL L i (i + 1 + j))
def rwF (L : List Nat) : Nat → Nat → Option (List Nat)
  | 0, _ => none
  | n + 1, i => match rwAt L i with | some M => some M | none => rwF L n (i + 1)
def rwOne (L : List Nat) : Option (List Nat) := rwF L L.length 0
def rwN : Nat → List Nat → List Nat
  | 0, L => L
  | n + 1, L => match rwOne L with | none => L | some M => rwN n M
theorem y_rewriteOne {Q : Int32 → Int32 → (Nat → Int32) → Prop} {c : Int32} {f : Nat → Int32} {L : List Nat} (hC : CR c f L) (h0 : rwOne L = none → Q 0 c f) (h1 : ∀ M c' f', rwOne L = some M → CR c' f' M → Q 1 c' f') : wpX0_rewriteOne Q c f := by
  unfold wpX0_rewriteOne
  have hl := hC.2.1
  have hc := hC.1
  rw [hc] at hC h0 ⊢
  refine pk_loop (σ := Unit) (fun n i _ => wpX0_rewriteOne_2 Q n (nI i) (nI L.length) f) (fun i _ => rwF L (L.length - i) i = rwOne L) L.length 0 () (Nat.zero_le _) rfl ?_ ?_
  · intro n s hI
    simp (disch := omega) only [wpX0_rewriteOne_2, wpX0_rewriteOne_2b, not_true_eq_false, not_false_eq_true, forall_const, true_implies, false_implies, implies_true, and_true, true_and, and_self, Nat.not_lt_zero, ne_eq, if_true, if_false, reduceIte, Nat.reduceAdd, Nat.reduceMul, Nat.reduceSub, Nat.reduceLT, Nat.reduceLeDiff, Nat.reduceEqDiff, eq_self_iff_true, L_0, L_1, L_2, L_3, L_4, L_5, L_6, L_7, L_8, L_9, L_10, L_16, L_20, L_21, L_24, L_31, L_64, L_100, L_320, L_400, L_1000, L_256, nI_add, pk_mul, pk_sub, nI_clamp, vp_in_nI, nI_ge, nI_le, nI_lt, nI_nlt, qI_ne, qI_eq, qI_m1, q_all, qI_nm, qI_nm2]
    rw [Nat.sub_self] at hI
    exact h0 hI.symm
  · intro n i s hi hI hk
    simp (disch := omega) only [wpX0_rewriteOne_2, wpX0_rewriteOne_2b, not_true_eq_false, not_false_eq_true, forall_const, true_implies, false_implies, implies_true, and_true, true_and, and_self, Nat.not_lt_zero, ne_eq, if_true, if_false, reduceIte, Nat.reduceAdd, Nat.reduceMul, Nat.reduceSub, Nat.reduceLT, Nat.reduceLeDiff, Nat.reduceEqDiff, eq_self_iff_true, L_0, L_1, L_2, L_3, L_4, L_5, L_6, L_7, L_8, L_9, L_10, L_16, L_20, L_21, L_24, L_31, L_64, L_100, L_320, L_400, L_1000, L_256, nI_add, pk_mul, pk_sub, nI_clamp, vp_in_nI, nI_ge, nI_le, nI_lt, nI_nlt, qI_ne, qI_eq, qI_m1, q_all, qI_nm, qI_nm2]
    refine y_partner hC hi ?_
    rw [show L.length - i = (L.length - (i + 1)) + 1 by omega] at hI
    unfold rwF at hI
    unfold resP
    cases e : findP (L.getD i 0) (L.drop (i + 1)) with
    | none =>
      have e1 : rwAt L i = none := by unfold rwAt; rw [e]; rfl
      rw [e1] at hI
      refine ⟨fun _ => hk () hI, fun h9 => absurd rfl h9⟩
    | some j =>
      have e1 : rwAt L i = some (unL L i (i + 1 + j)) := by unfold rwAt; rw [e]; rfl
      rw [e1] at hI
      have hj := findP_lt e
      rw [List.length_drop] at hj
      refine ⟨fun h9 => absurd h9 (qI_nm (by omega)), fun _ => ?_⟩
      unfold wpX0_rewriteOne_21
      exact y_unite hC (by omega) (by omega) (fun c' f' h' => h1 _ _ _ hI.symm h')
theorem y_rewriteAll {Q : Int32 → (Nat → Int32) → Prop} {c : Int32} {f : Nat → Int32} {L : List Nat} (hC : CR c f L) (h : ∀ c' f', CR c' f' (rwN 64 L) → Q c' f') : wpX0_rewriteAll Q c f := by
  unfold wpX0_rewriteAll
  refine ⟨64 + 1, ?_⟩
  refine pk_loopD (σ := Int32 × Int32 × (Nat → Int32)) (fun n m s => wpX0_rewriteAll_5 Q n s.1 (nI m) s.2.1 s.2.2) (fun m s => m ≤ 64 ∧ ∃ M, CR s.2.1 s.2.2 M ∧ ((s.1 = 1 ∧ rwN m M = rwN 64 L) ∨ (s.1 = 0 ∧ M = rwN 64 L))) ?_ ?_ 64 (1, c, f) ⟨Nat.le_refl _, L, hC, Or.inl ⟨rfl, rfl⟩⟩
  · intro n s hI
    obtain ⟨-, M, hM, hI⟩ := hI
    simp (disch := omega) only [wpX0_rewriteAll_5, wpX0_rewriteAll_5b, not_true_eq_false, not_false_eq_true, forall_const, true_implies, false_implies, implies_true, and_true, true_and, and_self, Nat.not_lt_zero, ne_eq, if_true, if_false, reduceIte, Nat.reduceAdd, Nat.reduceMul, Nat.reduceSub, Nat.reduceLT, Nat.reduceLeDiff, Nat.reduceEqDiff, eq_self_iff_true, L_0, L_1, L_2, L_3, L_4, L_5, L_6, L_7, L_8, L_9, L_10, L_16, L_20, L_21, L_24, L_31, L_64, L_100, L_320, L_400, L_1000, L_256, nI_add, pk_mul, pk_sub, nI_clamp, vp_in_nI, nI_ge, nI_le, nI_lt, nI_nlt, qI_ne, qI_eq, qI_m1, q_all, qI_nm, qI_nm2]
    refine h _ _ ?_
    rcases hI with ⟨-, hI⟩ | ⟨-, hI⟩
    · rw [← hI]; exact hM
    · rw [← hI]; exact hM
  · intro n m s hI hk
    obtain ⟨hm, M, hM, hI⟩ := hI
    simp (disch := omega) only [wpX0_rewriteAll_5, wpX0_rewriteAll_5b, not_true_eq_false, not_false_eq_true, forall_const, true_implies, false_implies, implies_true, and_true, true_and, and_self, Nat.not_lt_zero, ne_eq, if_true, if_false, reduceIte, Nat.reduceAdd, Nat.reduceMul, Nat.reduceSub, Nat.reduceLT, Nat.reduceLeDiff, Nat.reduceEqDiff, eq_self_iff_true, L_0, L_1, L_2, L_3, L_4, L_5, L_6, L_7, L_8, L_9, L_10, L_16, L_20, L_21, L_24, L_31, L_64, L_100, L_320, L_400, L_1000, L_256, nI_add, pk_mul, pk_sub, nI_clamp, vp_in_nI, nI_ge, nI_le, nI_lt, nI_nlt, qI_ne, qI_eq, qI_m1, q_all, qI_nm, qI_nm2]
    rcases hI with ⟨h1, hI⟩ | ⟨h0, hI⟩
    · rw [h1]
      refine ⟨fun h9 => absurd h9 (by decide), fun _ => ?_⟩
      unfold rwN at hI
      refine y_rewriteOne hM (fun e => ?_) (fun M' c' f' e h' => ?_)
      · rw [e] at hI
        exact hk (0, s.2.1, s.2.2) ⟨by omega, M, hM, Or.inr ⟨rfl, hI⟩⟩
      · rw [e] at hI
        exact hk (1, c', f') ⟨by omega, M', h', Or.inl ⟨rfl, hI⟩⟩
    · rw [h0]
      refine ⟨fun _ => h _ _ (by rw [← hI]; exact hM), fun h9 => absurd rfl h9⟩
