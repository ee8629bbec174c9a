/-! The reference's rows of gates. -/
def m2 (g : Nat) : Int32 := if 6 ≤ kN g then nI (bN g) else -1
def m3 (g : Nat) : Int32 := if kN g = 9 then nI (cN g) else -1
def MG (k a b c : Nat → Int32) (i g : Nat) : Prop := k i = nI (kN g) ∧ a i = nI (aN g) ∧ b i = m2 g ∧ c i = m3 g
def MM (z k a b c : Nat → Int32) (Ls : Nat → List Nat) : Prop := ∀ s, s < 4 → z s = nI (Ls s).length ∧ (Ls s).length ≤ 64 ∧ ∀ i, i < (Ls s).length → (Ls s).getD i 0 < 10000 ∧ MG k a b c (64 * s + i) ((Ls s).getD i 0)
def upS (Ls : Nat → List Nat) (s : Nat) (L : List Nat) : Nat → List Nat := fun t => if t = s then L else Ls t
abbrev M5 : Type := (Nat → Int32) × (Nat → Int32) × (Nat → Int32) × (Nat → Int32) × (Nat → Int32)
theorem upS_s {Ls : Nat → List Nat} {s : Nat} {L : List Nat} : upS Ls s L s = L := if_pos rfl
theorem upS_n {Ls : Nat → List Nat} {s t : Nat} {L : List Nat} (h : t ≠ s) : upS Ls s L t = Ls t := if_neg h
theorem upS_i {Ls : Nat → List Nat} {s : Nat} {L : List Nat} (h : Ls s = L) : upS Ls s L = Ls := by
  funext t; unfold upS; by_cases e : t = s
  · rw [if_pos e, e, h]
  · rw [if_neg e]
theorem upS_u {Ls : Nat → List Nat} {s : Nat} {L M : List Nat} : upS (upS Ls s L) s M = upS Ls s M := by
  funext t; unfold upS; by_cases e : t = s
  · rw [if_pos e, if_pos e]
  · rw [if_neg e, if_neg e, if_neg e]
theorem gi_k {k a : Nat} (hk : k < 6) (ha : a < 10) : kN (gi k a) = k ∧ aN (gi k a) = a := by unfold gi kN aN; omega
theorem gi_m {k a : Nat} (hk : k < 6) (ha : a < 10) : m2 (gi k a) = -1 ∧ m3 (gi k a) = -1 := by
  unfold m2 m3; rw [(gi_k hk ha).1, if_neg (by omega), if_neg (by omega)]; exact ⟨rfl, rfl⟩
theorem cx_k {a b : Nat} (ha : a < 10) (hb : b < 10) : kN (cx a b) = 6 ∧ aN (cx a b) = a ∧ bN (cx a b) = b := by unfold cx kN aN bN; omega
theorem cx_m {a b : Nat} (ha : a < 10) (hb : b < 10) : m2 (cx a b) = nI b ∧ m3 (cx a b) = -1 := by
  unfold m2 m3; rw [(cx_k ha hb).1, (cx_k ha hb).2.2, if_pos (by omega), if_neg (by omega)]; exact ⟨rfl, rfl⟩
section
variable {z k a b c : Nat → Int32} {Ls : Nat → List Nat}
theorem MM_z (hM : MM z k a b c Ls) {s : Nat} (hs : s < 4) : MM (upd z s 0) k a b c (upS Ls s []) := fun t ht => by
  by_cases e : t = s
  · subst e; rw [upS_s, pk_us]; exact ⟨rfl, by decide, fun i hi => by simp at hi⟩
  · rw [upS_n e, pk_un e]; exact hM t ht
theorem m_put {Q : (Nat → Int32) → (Nat → Int32) → (Nat → Int32) → (Nat → Int32) → (Nat → Int32) → Prop} (hM : MM z k a b c Ls) {s g : Nat} (hs : s < 4) (hl : (Ls s).length < 64) (hg : g < 10000) {x y u v : Int32} (hx : x = nI (kN g)) (hy : y = nI (aN g)) (hu : u = m2 g) (hv : v = m3 g)
    (h : ∀ z k a b c, MM z k a b c (upS Ls s (Ls s ++ [g])) → Q z k a b c) : wpX7_put Q (nI s) x y u v z k a b c := by
  have e := (hM s hs).1
  simp (disch := omega) only [wpX7_put, q_all, e, not_true_eq_false, not_false_eq_true, forall_const, true_implies, false_implies, implies_true, and_true, true_and, and_self, Nat.not_lt_zero, ne_eq, if_true, if_false, reduceIte, Nat.reduceAdd, Nat.reduceMul, Nat.reduceSub, Nat.reduceLT, Nat.reduceLeDiff, Nat.reduceEqDiff, eq_self_iff_true, L_0, L_1, L_2, L_3, L_4, L_5, L_6, L_7, L_8, L_9, L_10, L_16, L_20, L_21, L_24, L_31, L_64, L_100, L_320, L_400, L_1000, L_256, nI_add, pk_mul, pk_sub, nI_clamp, vp_in_nI, nI_ge, nI_le, nI_lt, nI_nlt, qI_ne, qI_eq, qI_m1, q_all, qI_nm, qI_nm2]
  refine h _ _ _ _ _ (fun t ht => ?_)
  have hMt := hM t ht
  by_cases et : t = s
  · subst et
    rw [upS_s, pk_us]
    refine ⟨by simp, by simp; omega, fun i hi => ?_⟩
    simp at hi
    by_cases ei : i = (Ls t).length
    · subst ei
      rw [g_at]
      refine ⟨hg, ?_⟩
      unfold MG
      rw [pk_us, pk_us, pk_us, pk_us]
      exact ⟨hx, hy, hu, hv⟩
    · rw [g_lo (by omega)]
      obtain ⟨j1, j2⟩ := hMt.2.2 i (by omega)
      refine ⟨j1, ?_⟩
      unfold MG at j2 ⊢
      rw [pk_un (by omega), pk_un (by omega), pk_un (by omega), pk_un (by omega)]
      exact j2
  · rw [upS_n et, pk_un et]
    refine ⟨hMt.1, hMt.2.1, fun i hi => ?_⟩
    obtain ⟨j1, j2⟩ := hMt.2.2 i hi
    refine ⟨j1, ?_⟩
    have := hMt.2.1
    unfold MG at j2 ⊢
    rw [pk_un (by omega), pk_un (by omega), pk_un (by omega), pk_un (by omega)]
    exact j2
theorem m_putI {Q : (Nat → Int32) → (Nat → Int32) → (Nat → Int32) → (Nat → Int32) → (Nat → Int32) → Prop} (hM : MM z k a b c Ls) {s x w : Nat} (hs : s < 4) (hl : (Ls s).length < 64) (hx : x < 6) (hw : w < 10)
    (h : ∀ z k a b c, MM z k a b c (upS Ls s (Ls s ++ [gi x w])) → Q z k a b c) : wpX7_put Q (nI s) (nI x) (nI w) (-1) (-1) z k a b c :=
  m_put hM hs hl (gi_lt (by omega) hw) (by rw [(gi_k hx hw).1]) (by rw [(gi_k hx hw).2]) (gi_m hx hw).1.symm (gi_m hx hw).2.symm h
theorem m_putC {Q : (Nat → Int32) → (Nat → Int32) → (Nat → Int32) → (Nat → Int32) → (Nat → Int32) → Prop} (hM : MM z k a b c Ls) {s x w : Nat} (hs : s < 4) (hl : (Ls s).length < 64) (hx : x < 10) (hw : w < 10)
    (h : ∀ z k a b c, MM z k a b c (upS Ls s (Ls s ++ [cx x w])) → Q z k a b c) : wpX7_put Q (nI s) 6 (nI x) (nI w) (-1) z k a b c :=
  m_put hM hs hl (by unfold cx; omega) (by rw [(cx_k hx hw).1]; rfl) (by rw [(cx_k hx hw).2.1]) (cx_m hx hw).1.symm (cx_m hx hw).2.symm h
theorem m_copyGate {Q : (Nat → Int32) → (Nat → Int32) → (Nat → Int32) → (Nat → Int32) → (Nat → Int32) → Prop} (hM : MM z k a b c Ls) {s t i : Nat} (hs : s < 4) (ht : t < 4) (hi : i < (Ls t).length) (hl : (Ls s).length < 64)
    (h : ∀ z k a b c, MM z k a b c (upS Ls s (Ls s ++ [(Ls t).getD i 0])) → Q z k a b c) : wpX7_copyGate Q (nI (64 * t + i)) (nI s) z k a b c := by
  have h6 := (hM t ht).2.1
  obtain ⟨j1, j2⟩ := (hM t ht).2.2 i hi
  simp (disch := omega) only [wpX7_copyGate, not_true_eq_false, not_false_eq_true, forall_const, true_implies, false_implies, implies_true, and_true, true_and, and_self, Nat.not_lt_zero, ne_eq, if_true, if_false, reduceIte, Nat.reduceAdd, Nat.reduceMul, Nat.reduceSub, Nat.reduceLT, Nat.reduceLeDiff, Nat.reduceEqDiff, eq_self_iff_true, L_0, L_1, L_2, L_3, L_4, L_5, L_6, L_7, L_8, L_9, L_10, L_16, L_20, L_21, L_24, L_31, L_64, L_100, L_320, L_400, L_1000, L_256, nI_add, pk_mul, pk_sub, nI_clamp, vp_in_nI, nI_ge, nI_le, nI_lt, nI_nlt, qI_ne, qI_eq, qI_m1, q_all, qI_nm, qI_nm2]
  exact m_put hM hs hl j1 j2.1 j2.2.1 j2.2.2.1 j2.2.2.2 h
theorem m_copy {Q : (Nat → Int32) → (Nat → Int32) → (Nat → Int32) → (Nat → Int32) → (Nat → Int32) → Prop} (hM : MM z k a b c Ls) {s t : Nat} (hs : s < 4) (ht : t < 4) (hst : s ≠ t)
    (h : ∀ z k a b c, MM z k a b c (upS Ls t (Ls s)) → Q z k a b c) : wpX7_copy Q (nI s) (nI t) z k a b c := by
  have h6 := (hM s hs).2.1
  simp (disch := omega) only [wpX7_copy, not_true_eq_false, not_false_eq_true, forall_const, true_implies, false_implies, implies_true, and_true, true_and, and_self, Nat.not_lt_zero, ne_eq, if_true, if_false, reduceIte, Nat.reduceAdd, Nat.reduceMul, Nat.reduceSub, Nat.reduceLT, Nat.reduceLeDiff, Nat.reduceEqDiff, eq_self_iff_true, L_0, L_1, L_2, L_3, L_4, L_5, L_6, L_7, L_8, L_9, L_10, L_16, L_20, L_21, L_24, L_31, L_64, L_100, L_320, L_400, L_1000, L_256, nI_add, pk_mul, pk_sub, nI_clamp, vp_in_nI, nI_ge, nI_le, nI_lt, nI_nlt, qI_ne, qI_eq, qI_m1, q_all, qI_nm, qI_nm2]
  refine pk_loop (σ := M5) (fun n i m => wpX7_copy_9 Q n (nI s) (nI t) (nI i) m.1 m.2.1 m.2.2.1 m.2.2.2.1 m.2.2.2.2) (fun i m => MM m.1 m.2.1 m.2.2.1 m.2.2.2.1 m.2.2.2.2 (upS Ls t ((Ls s).take i))) (Ls s).length 0 (upd z t (nI 0), k, a, b, c) (Nat.zero_le _) (MM_z hM ht) ?_ ?_
  · intro n m hI
    have e := (hI s hs).1
    rw [upS_n hst] at e
    simp (disch := omega) only [wpX7_copy_9, wpX7_copy_9b, e, not_true_eq_false, not_false_eq_true, forall_const, true_implies, false_implies, implies_true, and_true, true_and, and_self, Nat.not_lt_zero, ne_eq, if_true, if_false, reduceIte, Nat.reduceAdd, Nat.reduceMul, Nat.reduceSub, Nat.reduceLT, Nat.reduceLeDiff, Nat.reduceEqDiff, eq_self_iff_true, L_0, L_1, L_2, L_3, L_4, L_5, L_6, L_7, L_8, L_9, L_10, L_16, L_20, L_21, L_24, L_31, L_64, L_100, L_320, L_400, L_1000, L_256, nI_add, pk_mul, pk_sub, nI_clamp, vp_in_nI, nI_ge, nI_le, nI_lt, nI_nlt, qI_ne, qI_eq, qI_m1, q_all, qI_nm, qI_nm2]
    rw [List.take_length] at hI
    exact h _ _ _ _ _ hI
  · intro n i m hi hI hk
    have e := (hI s hs).1
    rw [upS_n hst] at e
    simp (disch := omega) only [wpX7_copy_9, wpX7_copy_9b, e, not_true_eq_false, not_false_eq_true, forall_const, true_implies, false_implies, implies_true, and_true, true_and, and_self, Nat.not_lt_zero, ne_eq, if_true, if_false, reduceIte, Nat.reduceAdd, Nat.reduceMul, Nat.reduceSub, Nat.reduceLT, Nat.reduceLeDiff, Nat.reduceEqDiff, eq_self_iff_true, L_0, L_1, L_2, L_3, L_4, L_5, L_6, L_7, L_8, L_9, L_10, L_16, L_20, L_21, L_24, L_31, L_64, L_100, L_320, L_400, L_1000, L_256, nI_add, pk_mul, pk_sub, nI_clamp, vp_in_nI, nI_ge, nI_le, nI_lt, nI_nlt, qI_ne, qI_eq, qI_m1, q_all, qI_nm, qI_nm2]
    refine m_copyGate hI (i := i) ht hs (by rw [upS_n hst]; exact hi) (by rw [upS_s]; simp; omega) (fun z k a b c h' => hk (z, k, a, b, c) ?_)
    rw [upS_s, upS_n hst, upS_u, ← g_take (d := 0) hi] at h'
    exact h'
end
theorem mz_in {x lo hi : Int32} : zvX7_in x.toInt64 lo.toInt64 hi.toInt64 = if lo ≤ x ∧ x ≤ hi then 1 else 0 := by
  have l64 : ∀ u v : Int32, (u.toInt64 < v.toInt64) ↔ u < v := fun u v => by
    rw [Int64.lt_iff_toInt_lt, Int32.lt_iff_toInt_lt, Int32.toInt_toInt64, Int32.toInt_toInt64]
  have nl : ∀ u v : Int32, ¬ u < v ↔ v ≤ u := fun u v => by
    rw [Int32.lt_iff_toInt_lt, Int32.le_iff_toInt_le]; omega
  unfold zvX7_in
  simp only [lg_cmp_lt, lg_cmp_gt, l64]
  by_cases h1 : x < lo
  · rw [if_pos h1, if_neg (fun h => (nl _ _).mpr h.1 h1)]
  · rw [if_neg h1]
    by_cases h2 : hi < x
    · rw [if_pos h2, if_neg (fun h => (nl _ _).mpr h.2 h2)]
    · rw [if_neg h2, if_pos ⟨(nl _ _).mp h1, (nl _ _).mp h2⟩]
theorem z_slot (x : Int32) : zvX7_isSlot x = if 0 ≤ x ∧ x ≤ 2 then 1 else 0 := by
  unfold zvX7_isSlot
  exact mz_in (lo := 0) (hi := 2)
theorem slot_c {x : Int32} (h : 0 ≤ x ∧ x ≤ 2) : x = nI 0 ∨ x = nI 1 ∨ x = nI 2 := by
  have h0 : ¬ x < 0 := fun h9 => by
    have := h.1
    rw [Int32.le_iff_toInt_le] at this
    rw [Int32.lt_iff_toInt_lt] at h9
    omega
  obtain ⟨j, hj, e⟩ := nI_of2 (M := 2) (n := 2) (by decide) h0 h.2
  rcases (show j = 0 ∨ j = 1 ∨ j = 2 by omega) with rfl | rfl | rfl
  · exact Or.inl e
  · exact Or.inr (Or.inl e)
  · exact Or.inr (Or.inr e)
theorem slot_t {s : Nat} (h : s < 3) : zvX7_isSlot (nI s) = 1 := by
  rw [z_slot, if_pos]
  rcases (show s = 0 ∨ s = 1 ∨ s = 2 by omega) with rfl | rfl | rfl <;> decide
theorem slot_f {x : Int32} (h : ¬ (x = 0 ∨ x = 1 ∨ x = 2)) : zvX7_isSlot x = 0 := by
  rw [z_slot, if_neg (fun h9 => h (slot_c h9))]
