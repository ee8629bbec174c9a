/-! The least form, the reference's side: the whole of it. -/
theorem lG_len {k : Nat} {x : FS} (hk : k < 10) (h : okF x) : (lGN k x).1.length ≤ x.1.length + 1 := by
  unfold lGN
  split
  · unfold lTN
    split
    · rename_i t e
      have h1 : ∀ z ∈ t, z < 3 := fun z hz => h.1 z (by rw [e]; exact List.mem_cons_of_mem _ hz)
      have := (ca_ok (c := 132) S_el h1).2.2
      have e2 : (lCN 132 (t, x.2)).1.length = t.length := this
      rw [e2, e]; simp; omega
    · simp
  · have := (ca_ok (q_e4.1 k hk) h.1).2.2
    have e2 : (lCN (rhN k) x).1.length = x.1.length := this
    rw [e2]; omega
def phN (n : Nat) (L F : List Nat) : Nat := (firK (fun r => trA n r L F) 7 0).getD 7
theorem lG_f : ∀ (L : List Nat) {x : FS}, okF x → okF (L.foldl (fun s g => lGN (kN g) s) x) := by
  intro L
  induction L with
  | nil => intro x h; exact h
  | cons g L ih => intro x h; exact ih (lG_ok (kN_lt g) h)
theorem tM_ok (L : List Nat) : okF (takM L) := lG_f L ok_0
theorem tM_s {L : List Nat} {i : Nat} (hi : i < L.length) : takM (L.take (i + 1)) = lGN (kN (L.getD i 0)) (takM (L.take i)) := by
  unfold takM
  rw [g_take (d := 0) hi, List.foldl_append]; rfl
abbrev MLt : Type := Int32 × Int32 × Int32 × Int32 × Int32 × Int32 × Int32 × (Nat → Int32)
def LQ (Q : Int32 → (Int32) → (Int32) → (Int32) → (Int32) → (Int32) → (Int32) → (Int32) → (Int32) → (Int32) → (Int32) → (Int32) → (Int32) → (Nat → Int32) → (Nat → Int32) → (Nat → Int32) → (Nat → Int32) → (Nat → Int32) → (Nat → Int64) → (Nat → Int64) → (Nat → Int32) → (Nat → Int32) → (Nat → Int32) → (Nat → Int32) → (Nat → Int32) → Prop) (QQ : Int32 → Int32 → Int32 → (Nat → Int32) → (Nat → Int32) → (Nat → Int32) → (Nat → Int32) → (Nat → Int32) → Prop) : Prop := ∀ re fa ph fs os ro hx hz lx lz fo rx rz z k a b c A B rd fx fz fr lt, QQ re fa ph z k a b c → Q re fa ph fs os ro hx hz lx lz fo rx rz z k a b c A B rd fx fz fr lt
section
variable {Q : Int32 → (Int32) → (Int32) → (Int32) → (Int32) → (Int32) → (Int32) → (Int32) → (Int32) → (Int32) → (Int32) → (Int32) → (Int32) → (Nat → Int32) → (Nat → Int32) → (Nat → Int32) → (Nat → Int32) → (Nat → Int32) → (Nat → Int64) → (Nat → Int64) → (Nat → Int32) → (Nat → Int32) → (Nat → Int32) → (Nat → Int32) → (Nat → Int32) → Prop}
variable {QQ : Int32 → Int32 → Int32 → (Nat → Int32) → (Nat → Int32) → (Nat → Int32) → (Nat → Int32) → (Nat → Int32) → Prop}
variable {z k a b c : Nat → Int32} {Ls : Nat → List Nat} {n s : Nat}
theorem m_l388 (hQ : LQ Q QQ) {F : List Nat} {fa ph fs os hx hz lx lz fo rx rz ro : Int32} {A B : Nat → Int64} {rd fx fz fr lt : Nat → Int32} (hM : MM z k a b c Ls) (hs : s < 3) (h3 : Ls 3 = F) (h : ∀ z k a b c, MM z k a b c (upS Ls s F) → QQ ro fa ph z k a b c) : wpX7_least_388 Q (nI n) (nI s) fa ph fs os ro hx hz lx lz fo rx rz z k a b c A B rd fx fz fr lt := by
  unfold wpX7_least_388
  refine m_copy hM (s := 3) (t := s) (by omega) (by omega) (by omega) (fun z k a b c h' => hQ _ _ _ _ _ _ _ _ _ _ _ _ _ _ _ _ _ _ _ _ _ _ _ _ _ (h _ _ _ _ _ ?_))
  rw [h3] at h'; exact h'
theorem m_l348 (hQ : LQ Q QQ) {F L : List Nat} {ph fs os hx hz lx lz fo rx rz ro : Int32} {A B : Nat → Int64} {rd fx fz fr lt : Nat → Int32} (hn : n < 5) (hM : MM z k a b c Ls) (hs : s < 3) (h3 : Ls 3 = F) (hL : Ls s = L) (hv : ∀ x ∈ L, gv n x = true) (hw : ∀ x ∈ F, gv n x = true) (h : ∀ z k a b c, MM z k a b c (upS Ls s F) → QQ ro 0 (nI (phN n L F)) z k a b c) : wpX7_least_348 Q (nI n) (nI s) 0 ph fs os ro hx hz lx lz fo rx rz z k a b c A B rd fx fz fr lt := by
  unfold wpX7_least_348
  refine pk_loop (σ := Int32 × Int32 × (Nat → Int64) × (Nat → Int64)) (fun m r v => wpX7_least_353 Q (nI n) m (nI s) 0 (nI r) v.1 v.2.1 ro hx hz lx lz fo rx rz z k a b c v.2.2.1 v.2.2.2 rd fx fz fr lt) (fun r v => firK (fun r => trA n r L F) (7 - r) r = firK (fun r => trA n r L F) 7 0) 7 0 (fs, os, A, B) (by omega) rfl ?_ ?_
  · intro m v hI
    have e : phN n L F = 7 := by unfold phN; rw [← hI]; rfl
    rw [e] at h
    simp (disch := omega) only [wpX7_least_353, wpX7_least_353b, not_true_eq_false, not_false_eq_true, forall_const, true_implies, false_implies, implies_true, and_true, true_and, and_self, Nat.not_lt_zero, ne_eq, if_true, if_false, reduceIte, Nat.reduceAdd, Nat.reduceMul, Nat.reduceSub, Nat.reduceLT, Nat.reduceLeDiff, Nat.reduceEqDiff, Nat.add_sub_cancel, eq_self_iff_true, L_0, L_1, L_2, L_3, L_4, L_5, L_6, L_7, L_8, L_9, L_10, L_16, L_20, L_21, L_24, L_31, L_64, L_100, L_320, L_400, L_1000, L_256, nI_add, pk_mul, pk_sub, nI_clamp, vp_in_nI, nI_ge, nI_le, nI_lt, nI_nlt, qI_ne, qI_eq, qI_m1, q_all, qI_nm, qI_nm2]
    exact m_l388 hQ hM hs h3 h
  · intro m r v hr hI hk
    rw [show 7 - r = (7 - (r + 1)) + 1 by omega] at hI
    unfold firK at hI
    simp (disch := omega) only [wpX7_least_353, wpX7_least_353b, not_true_eq_false, not_false_eq_true, forall_const, true_implies, false_implies, implies_true, and_true, true_and, and_self, Nat.not_lt_zero, ne_eq, if_true, if_false, reduceIte, Nat.reduceAdd, Nat.reduceMul, Nat.reduceSub, Nat.reduceLT, Nat.reduceLeDiff, Nat.reduceEqDiff, Nat.add_sub_cancel, eq_self_iff_true, L_0, L_1, L_2, L_3, L_4, L_5, L_6, L_7, L_8, L_9, L_10, L_16, L_20, L_21, L_24, L_31, L_64, L_100, L_320, L_400, L_1000, L_256, nI_add, pk_mul, pk_sub, nI_clamp, vp_in_nI, nI_ge, nI_le, nI_lt, nI_nlt, qI_ne, qI_eq, qI_m1, q_all, qI_nm, qI_nm2]
    refine m_isT hn (r := r) (by omega) hM (by omega) (t := 3) (by omega) (by rw [hL]; exact hv) (by rw [h3]; exact hw) (fun fs os A B => ?_)
    rw [hL, h3]
    cases e : trA n r L F with
    | false =>
      simp only [e] at hI
      exact ⟨fun _ => hk (fs, os, A, B) hI, fun h9 => absurd rfl h9⟩
    | true =>
      simp only [e] at hI
      refine ⟨fun h9 => absurd h9 (by decide), fun _ => ?_⟩
      have e8 : firK (fun r => trA n r L F) 7 0 = some r := hI.symm.trans (if_pos trivial)
      have e : phN n L F = r := by unfold phN; rw [e8]; rfl
      rw [e] at h
      exact m_l388 hQ hM hs h3 h
theorem m_l254 (hQ : LQ Q QQ) {x : FS} {L : List Nat} {j w m : Nat} {ph fs os hx hz lx lz fo rx rz : Int32} {A B : Nat → Int64} {rd fx fz fr lt : Nat → Int32} (hn : n < 5) (hM : MM z k a b c Ls) (hs : s < 3) (hL : Ls s = L) (hv : ∀ x ∈ L, gv n x = true) (hw : ∀ g ∈ fmL w x, gv n g = true) (hx' : okF x) (hw9 : w < 10) (hj : j < 24) (ej : elN j = x.2) (hF : FT 24 fx fz fr lt) (hH : HM rd x.1) (hl : x.1.length ≤ 64) (hm : m = fmN x)
    (h2 : ¬ fmN x ≤ 64 → QQ 0 2 ph z k a b c) (h : fmN x ≤ 64 → ∀ z k a b c, MM z k a b c (upS (upS Ls 3 (fmL w x)) s (fmL w x)) → QQ (nI x.1.length) 0 (nI (phN n L (fmL w x))) z k a b c) : wpX7_least_254 Q (nI n) (nI s) (nI w) (nI j) (nI m) 0 ph fs os (nI x.1.length) hx hz lx lz fo rx rz z k a b c A B rd fx fz fr lt := by
  subst hm
  have hll := fmL_len (w := w) hx'
  have hb : fmN x < 2 ^ 20 := by
    have e := wd_12 _ (wo_lt x.2)
    have hs : ∀ (H : List Nat), (∀ h ∈ H, h < 3) → (H.map (fun h => 1 + h)).sum ≤ 3 * H.length := by
      intro H
      induction H with
      | nil => intro _; simp
      | cons h t ih =>
        intro h3
        have := h3 h List.mem_cons_self
        have := ih (fun y hy => h3 y (List.mem_cons_of_mem _ hy))
        simp only [List.map_cons, List.sum_cons, List.length_cons]; omega
    have := hs x.1 hx'.1
    unfold fmN; omega
  unfold wpX7_least_254
  rw [L_64]
  refine ⟨fun h9 => ?_, fun h9 => ?_⟩
  · have h64 : fmN x ≤ 64 := (nI_leI (by omega) (by omega)).mp h9
    have h := h h64
    refine ⟨vp_in_nI (n := 3) (by omega) (by omega), ?_⟩
    refine m_putWord hj hw9 hF (MM_z hM (s := 3) (by omega)) upS_s (fun z k a b c hM => ?_)
    rw [upS_u, ej] at hM
    rw [L_1]
    refine ⟨x.1.length + 1, ?_⟩
    unfold fmL at h hll hw
    rw [List.length_append, List.length_map] at hll
    have hcut : ∀ i, (roL w (x.1.drop i)).length ≤ (roL w x.1).length := fun i => by
      have e : roL w x.1 = roL w (x.1.drop i) ++ roL w (x.1.take i) := by
        unfold roL
        conv => lhs; rw [← List.take_append_drop i x.1]
        rw [List.reverse_append, List.flatMap_append]
      rw [e, List.length_append]; omega
    refine pk_loopD (σ := M5) (fun m i v => wpX7_least_289 Q (nI n) m (nI s) (nI w) (nI i - nI 1) 0 ph fs os (nI x.1.length) hx hz lx lz fo rx rz v.1 v.2.1 v.2.2.1 v.2.2.2.1 v.2.2.2.2 A B rd fx fz fr lt) (fun i v => i ≤ x.1.length ∧ MM v.1 v.2.1 v.2.2.1 v.2.2.2.1 v.2.2.2.2 (upS Ls 3 ((wdL (woN x.2)).map (fun k => gi k w) ++ roL w (x.1.drop i)))) ?_ ?_ x.1.length (z, k, a, b, c) ⟨Nat.le_refl _, by rw [List.drop_length]; simpa [roL] using hM⟩
    · intro m v hI
      have hI2 := hI.2
      rw [List.drop_zero] at hI2
      simp (disch := omega) only [wpX7_least_289, wpX7_least_289b, neg0, not_true_eq_false, not_false_eq_true, forall_const, true_implies, false_implies, implies_true, and_true, true_and, and_self, Nat.not_lt_zero, ne_eq, if_true, if_false, reduceIte, Nat.reduceAdd, Nat.reduceMul, Nat.reduceSub, Nat.reduceLT, Nat.reduceLeDiff, Nat.reduceEqDiff, Nat.add_sub_cancel, eq_self_iff_true, L_0, L_1, L_2, L_3, L_4, L_5, L_6, L_7, L_8, L_9, L_10, L_16, L_20, L_21, L_24, L_31, L_64, L_100, L_320, L_400, L_1000, L_256, nI_add, pk_mul, pk_sub, nI_clamp, vp_in_nI, nI_ge, nI_le, nI_lt, nI_nlt, qI_ne, qI_eq, qI_m1, q_all, qI_nm, qI_nm2]
      refine m_l348 hQ hn hI2 hs upS_s (by rw [upS_n (by omega)]; exact hL) hv hw ?_
      exact h
    · intro m i v hI hk
      obtain ⟨hi, hI⟩ := hI
      obtain ⟨h3, hfi⟩ := hH i (by omega)
      have e : roL w (x.1.drop i) = roL w (x.1.drop (i + 1)) ++ rdG w (x.1.getD i 0) := by
        rw [drop_c (show i < x.1.length by omega)]
        unfold roL; rw [List.reverse_cons, List.flatMap_append]; simp
      have hcu := hcut i
      rw [e] at hk hcu
      rw [List.length_append] at hcu
      have hrl := rdG_len (w := w) h3
      have fin : ∀ z k a b c X, MM z k a b c (upS Ls 3 X) → X.length < 64 ∨ x.1.getD i 0 ≠ 2 → (∀ z k a b c, MM z k a b c (upS Ls 3 (X ++ (if x.1.getD i 0 = 2 then [gi 2 w] else []))) → wpX7_least_289 Q (nI n) m (nI s) (nI w) (nI i - nI 1) 0 ph fs os (nI x.1.length) hx hz lx lz fo rx rz z k a b c A B rd fx fz fr lt) → wpX7_least_322 Q (wpX7_least_289 Q (nI n) m) (nI n) (nI s) (nI w) (nI i) 0 ph fs os (nI x.1.length) hx hz lx lz fo rx rz z k a b c A B rd fx fz fr lt := fun z k a b c X hX hXl hq => by
        unfold wpX7_least_322
        rw [nI_clamp (by omega), hfi, show (nI (x.1.getD i 0) = 2) ↔ x.1.getD i 0 = 2 from nI_eq (b := 2) (by omega) (by omega)]
        rw [show nI i + -1 = nI i - nI 1 from m1s]
        refine ⟨vp_in_nI (by omega) (by omega), fun h9 => ?_, fun h9 => ?_⟩
        · refine m_putI hX (s := 3) (x := 2) (by omega) (by rw [upS_s]; exact hXl.resolve_right (fun h8 => h8 h9)) (by omega) hw9 (fun z k a b c h4 => hq _ _ _ _ _ ?_)
          rw [upS_s, upS_u] at h4
          rw [if_pos h9]; exact h4
        · refine hq _ _ _ _ _ ?_
          rw [if_neg h9, List.append_nil]; exact hX
      show wpX7_least_289b Q (wpX7_least_289 Q (nI n) m) (nI n) (nI s) (nI w) (nI (i + 1) - nI 1) 0 ph fs os (nI x.1.length) hx hz lx lz fo rx rz v.1 v.2.1 v.2.2.1 v.2.2.2.1 v.2.2.2.2 A B rd fx fz fr lt
      unfold wpX7_least_289b
      rw [sub1]
      refine ⟨fun h9 => absurd h9 (nI_pos (by omega)), fun _ => ?_⟩
      refine m_putI hI (s := 3) (x := 3) (by omega) (by rw [upS_s, List.length_append, List.length_map]; omega) (by omega) hw9 (fun z k a b c hA => ?_)
      rw [upS_s, upS_u] at hA
      refine ⟨vp_in_nI (by omega) (by omega), ?_⟩
      rw [nI_clamp (by omega), hfi]
      refine ⟨fun h0 => ?_, fun h0 => ?_⟩
      · have h0 : x.1.getD i 0 = 0 := Nat.le_zero.mp ((nI_leI (b := 0) (by omega) (by omega)).mp h0)
        refine fin _ _ _ _ _ _ hA (Or.inr (by omega)) (fun z k a b c h4 => hk (z, k, a, b, c) ⟨by omega, ?_⟩)
        show MM z k a b c _
        unfold rdG; rw [if_pos h0]
        simpa [List.append_assoc] using h4
      · have h0 : ¬ x.1.getD i 0 = 0 := fun h8 => h0 (by rw [h8]; decide)
        refine m_putI hA (s := 3) (x := 1) (by omega) (by rw [upS_s]; simp only [List.length_append, List.length_map, List.length_cons, List.length_nil]; omega) (by omega) hw9 (fun z k a b c hB => ?_)
        rw [upS_s, upS_u] at hB
        refine fin _ _ _ _ _ _ hB ?_ (fun z k a b c h5 => hk (z, k, a, b, c) ⟨by omega, ?_⟩)
        · by_cases h2 : x.1.getD i 0 = 2
          · left; simp only [List.length_append, List.length_map, List.length_cons, List.length_nil]; omega
          · exact Or.inr h2
        · show MM z k a b c _
          unfold rdG; rw [if_neg h0]
          simpa [List.append_assoc] using h5
  · refine hQ _ _ _ _ _ _ _ _ _ _ _ _ _ _ _ _ _ _ _ _ _ _ _ _ _ (h2 (fun h8 => h9 ?_))
    exact nI_le h8 (by omega)
end
theorem gv_gi {n k w : Nat} (h1 : 1 ≤ k) (h5 : k < 6) (hw : w < n) (hn : n < 5) : gv n (gi k w) = true := by
  obtain ⟨e1, e2⟩ := gi_k h5 (show w < 10 by omega)
  unfold gv
  rw [e1, e2, if_pos h5]
  simp; exact ⟨⟨⟨h1, by omega⟩, hw⟩, rfl⟩
theorem fm_gv {n w : Nat} {x : FS} (hw : w < n) (hn : n < 5) : ∀ g ∈ fmL w x, gv n g = true := by
  intro g hg
  unfold fmL at hg
  rcases List.mem_append.mp hg with h | h
  · obtain ⟨k, hk, rfl⟩ := List.mem_map.mp h
    have h1 := List.all_eq_true.mp (wd_12 _ (wo_lt x.2)).1 k hk
    simp only [Bool.or_eq_true, beq_iff_eq] at h1
    rcases h1 with rfl | rfl
    · exact gv_gi (by omega) (by omega) hw hn
    · exact gv_gi (by omega) (by omega) hw hn
  · unfold roL at h
    obtain ⟨y, -, hy⟩ := List.mem_flatMap.mp h
    unfold rdG at hy
    have hy : g = gi 3 w ∨ g = gi 1 w ∨ g = gi 2 w := by
      rcases List.mem_append.mp hy with h | h
      · rcases List.mem_append.mp h with h | h
        · exact Or.inl (List.mem_singleton.mp h)
        · split at h
          · cases h
          · exact Or.inr (Or.inl (List.mem_singleton.mp h))
      · split at h
        · exact Or.inr (Or.inr (List.mem_singleton.mp h))
        · cases h
    rcases hy with rfl | rfl | rfl
    · exact gv_gi (by omega) (by omega) hw hn
    · exact gv_gi (by omega) (by omega) hw hn
    · exact gv_gi (by omega) (by omega) hw hn
theorem fmN_le {x : FS} (hx : okF x) : fmN x ≤ 8 + 3 * x.1.length := by
  have e := wd_12 _ (wo_lt x.2)
  have hs : ∀ (H : List Nat), (∀ h ∈ H, h < 3) → (H.map (fun h => 1 + h)).sum ≤ 3 * H.length := by
    intro H
    induction H with
    | nil => intro _; simp
    | cons h t ih =>
      intro h3
      have := h3 h List.mem_cons_self
      have := ih (fun y hy => h3 y (List.mem_cons_of_mem _ hy))
      simp only [List.map_cons, List.sum_cons, List.length_cons]; omega
  have := hs x.1 hx.1
  unfold fmN; omega
section
variable {Q : Int32 → (Int32) → (Int32) → (Int32) → (Int32) → (Int32) → (Int32) → (Int32) → (Int32) → (Int32) → (Int32) → (Int32) → (Int32) → (Nat → Int32) → (Nat → Int32) → (Nat → Int32) → (Nat → Int32) → (Nat → Int32) → (Nat → Int64) → (Nat → Int64) → (Nat → Int32) → (Nat → Int32) → (Nat → Int32) → (Nat → Int32) → (Nat → Int32) → Prop}
variable {QQ : Int32 → Int32 → Int32 → (Nat → Int32) → (Nat → Int32) → (Nat → Int32) → (Nat → Int32) → (Nat → Int32) → Prop}
variable {z k a b c : Nat → Int32} {Ls : Nat → List Nat} {n s : Nat}
theorem m_l222 (hQ : LQ Q QQ) {x : FS} {L : List Nat} {j w : Nat} {ph fs os hx hz lx lz fo rx rz : Int32} {A B : Nat → Int64} {rd fx fz fr lt : Nat → Int32} (hn : n < 5) (hM : MM z k a b c Ls) (hs : s < 3) (hL : Ls s = L) (hv : ∀ x ∈ L, gv n x = true) (hx' : okF x) (hw9 : w < n) (hj : j < 24) (ej : elN j = x.2) (hF : FT 24 fx fz fr lt) (hH : HM rd x.1) (hl : x.1.length ≤ 64)
    (h2 : ¬ fmN x ≤ 64 → QQ 0 2 ph z k a b c) (h : fmN x ≤ 64 → ∀ z k a b c, MM z k a b c (upS (upS Ls 3 (fmL w x)) s (fmL w x)) → QQ (nI x.1.length) 0 (nI (phN n L (fmL w x))) z k a b c) : wpX7_least_222 Q (nI n) (nI s) (nI w) (nI j) (nI (dpN j)) 0 ph fs os (nI x.1.length) hx hz lx lz fo rx rz z k a b c A B rd fx fz fr lt := by
  obtain ⟨d6, -, hwd⟩ := pw_s hj
  have hd : (wdL (woN x.2)).length = dpN j := by rw [← ej, ← hwd]; simp
  have hN := fmN_le hx'
  have cut : ∀ i, dpN j + ((x.1.take i).map (fun h => 1 + h)).sum ≤ fmN x := fun i => by
    have e : ((x.1.take i).map (fun h => 1 + h)).sum + ((x.1.drop i).map (fun h => 1 + h)).sum = (x.1.map (fun h => 1 + h)).sum := by
      rw [← List.sum_append, ← List.map_append, List.take_append_drop]
    unfold fmN; omega
  unfold wpX7_least_222
  refine pk_loop (σ := Nat) (fun m i v => wpX7_least_225 Q (nI n) m (nI s) (nI w) (nI j) (nI v) (nI i) 0 ph fs os (nI x.1.length) hx hz lx lz fo rx rz z k a b c A B rd fx fz fr lt) (fun i v => v = dpN j + ((x.1.take i).map (fun h => 1 + h)).sum) x.1.length 0 (dpN j) (Nat.zero_le _) (by simp) ?_ ?_
  · intro m v hI
    rw [List.take_length] at hI
    simp (disch := omega) only [wpX7_least_225, wpX7_least_225b, not_true_eq_false, not_false_eq_true, forall_const, true_implies, false_implies, implies_true, and_true, true_and, and_self, Nat.not_lt_zero, ne_eq, if_true, if_false, reduceIte, Nat.reduceAdd, Nat.reduceMul, Nat.reduceSub, Nat.reduceLT, Nat.reduceLeDiff, Nat.reduceEqDiff, Nat.add_sub_cancel, eq_self_iff_true, L_0, L_1, L_2, L_3, L_4, L_5, L_6, L_7, L_8, L_9, L_10, L_16, L_20, L_21, L_24, L_31, L_64, L_100, L_320, L_400, L_1000, L_256, nI_add, pk_mul, pk_sub, nI_clamp, vp_in_nI, nI_ge, nI_le, nI_lt, nI_nlt, qI_ne, qI_eq, qI_m1, q_all, qI_nm, qI_nm2]
    exact m_l254 hQ hn hM hs hL hv (fm_gv hw9 hn) hx' (by omega) hj ej hF hH hl (by unfold fmN; omega) h2 h
  · intro m i v hi hI hk
    have c1 := cut (i + 1)
    rw [g_take (d := 0) hi] at c1 hk
    obtain ⟨h3, hfi⟩ := hH i hi
    rw [List.map_append, List.sum_append] at c1 hk
    simp only [List.map_cons, List.map_nil, List.sum_cons, List.sum_nil] at c1 hk
    simp (disch := omega) only [wpX7_least_225, wpX7_least_225b, hfi, not_true_eq_false, not_false_eq_true, forall_const, true_implies, false_implies, implies_true, and_true, true_and, and_self, Nat.not_lt_zero, ne_eq, if_true, if_false, reduceIte, Nat.reduceAdd, Nat.reduceMul, Nat.reduceSub, Nat.reduceLT, Nat.reduceLeDiff, Nat.reduceEqDiff, Nat.add_sub_cancel, eq_self_iff_true, L_0, L_1, L_2, L_3, L_4, L_5, L_6, L_7, L_8, L_9, L_10, L_16, L_20, L_21, L_24, L_31, L_64, L_100, L_320, L_400, L_1000, L_256, nI_add, pk_mul, pk_sub, nI_clamp, vp_in_nI, nI_ge, nI_le, nI_lt, nI_nlt, qI_ne, qI_eq, qI_m1, q_all, qI_nm, qI_nm2]
    exact hk _ (by omega)
theorem m_l174 (hQ : LQ Q QQ) {x : FS} {L : List Nat} {w : Nat} {ph fs os hx hz lx lz fo : Int32} {A B : Nat → Int64} {rd fx fz fr lt : Nat → Int32} (hn : n < 5) (hM : MM z k a b c Ls) (hs : s < 3) (hL : Ls s = L) (hv : ∀ x ∈ L, gv n x = true) (hx' : okF x) (hw9 : w < n) (hH : HM rd x.1) (hl : x.1.length ≤ 64)
    (h2 : ¬ fmN x ≤ 64 → QQ 0 2 ph z k a b c) (h : fmN x ≤ 64 → ∀ z k a b c, MM z k a b c (upS (upS Ls 3 (fmL w x)) s (fmL w x)) → QQ (nI x.1.length) 0 (nI (phN n L (fmL w x))) z k a b c) : wpX7_least_174 Q (nI n) (nI s) (nI w) 0 ph fs os (nI x.1.length) hx hz lx lz fo (sI (x.2 / 100)) (sI (x.2 % 10)) z k a b c A B rd fx fz fr lt := by
  obtain ⟨j, hj, ej⟩ := el_of hx'.2
  unfold wpX7_least_174
  refine m_words (fun hx hz lx lz fx fz fr lt hF => ?_)
  rw [← ej]
  refine m_find (Nat.le_refl _) hj hF ?_
  rw [if_pos hj]
  refine m_cnt (Q := fun y => wpX7_least_222 Q (nI n) (nI s) (nI w) (nI j) y 0 ph fs os (nI x.1.length) hx hz lx lz (nI 24) (sI (elN j / 100)) (sI (elN j % 10)) z k a b c A B rd fx fz fr lt) (P := fun m y u => wpX7_least_197 Q (nI n) m (nI s) (nI w) (nI j) y u 0 ph fs os (nI x.1.length) hx hz lx lz (nI 24) (sI (elN j / 100)) (sI (elN j % 10)) z k a b c A B rd fx fz fr lt) hj hF (fun m x y h1 h2 h => ⟨h1, fun _ => h, fun h9 => absurd h2 h9⟩) (fun m x y h1 h2 h => ⟨h1, fun h9 => absurd h9 h2, fun _ => ⟨h1, h⟩⟩) ?_
  exact m_l222 hQ hn hM hs hL hv hx' hw9 hj ej hF hH hl h2 h
theorem m_l101 (hQ : LQ Q QQ) {L : List Nat} {w : Nat} {wi ph fs os hx hz lx lz fo ro rx rz : Int32} {A B : Nat → Int64} {rd fx fz fr lt : Nat → Int32} (hn : n < 5) (hM : MM z k a b c Ls) (hs : s < 3) (hL : Ls s = L) (hv : ∀ x ∈ L, gv n x = true) (h1w : L ≠ [] → wi = nI w ∧ w < n) (hk5 : ∀ x ∈ L, kN x ≤ 5)
    (h0 : L = [] → QQ 0 0 0 z k a b c) (h2 : ¬ fmN (takM L) ≤ 64 → QQ 0 2 ph z k a b c) (h : L ≠ [] → fmN (takM L) ≤ 64 → ∀ z k a b c, MM z k a b c (upS (upS Ls 3 (fmL w (takM L))) s (fmL w (takM L))) → QQ (nI (takM L).1.length) 0 (nI (phN n L (fmL w (takM L)))) z k a b c) : wpX7_least_101 Q (nI n) (nI s) wi 0 ph fs os ro hx hz lx lz fo rx rz z k a b c A B rd fx fz fr lt := by
  obtain ⟨m1, m2, m3⟩ := hM s (by omega)
  rw [hL] at m1 m2 m3
  unfold wpX7_least_101
  refine ⟨fun _ => ⟨vp_in_nI (by omega) (by omega), ?_⟩, fun h9 => absurd (by decide) h9⟩
  rw [nI_clamp (by omega), m1]
  refine ⟨fun h9 => ?_, fun h9 => ?_⟩
  · have e : L.length = 0 := (nI_eq (b := 0) (by omega) (by omega)).mp h9
    exact hQ _ _ _ _ _ _ _ _ _ _ _ _ _ _ _ _ _ _ _ _ _ _ _ _ _ (h0 (List.length_eq_zero_iff.mp e))
  · have hne : L ≠ [] := fun e => h9 (by rw [e]; rfl)
    obtain ⟨rfl, hwn⟩ := h1w hne
    have h := h hne
    refine pk_loop (σ := MLt) (fun m i v => wpX7_least_143 Q (nI n) m (nI s) (nI w) (nI i) 0 ph fs os v.1 v.2.1 v.2.2.1 v.2.2.2.1 v.2.2.2.2.1 fo v.2.2.2.2.2.1 v.2.2.2.2.2.2.1 z k a b c A B v.2.2.2.2.2.2.2 fx fz fr lt) (fun i v => v.1 = nI (takM (L.take i)).1.length ∧ (takM (L.take i)).1.length ≤ i ∧ v.2.2.2.2.2.1 = sI ((takM (L.take i)).2 / 100) ∧ v.2.2.2.2.2.2.1 = sI ((takM (L.take i)).2 % 10) ∧ HM v.2.2.2.2.2.2.2 (takM (L.take i)).1) L.length 0 (0, hx, hz, lx, lz, 1, 3, rd) (Nat.zero_le _) ⟨rfl, Nat.le_refl _, show (1 : Int32) = sI (12 / 100) by decide, show (3 : Int32) = sI (12 % 10) by decide, fun i hi => absurd hi (Nat.not_lt_zero _)⟩ ?_ ?_
    · intro m v hI
      obtain ⟨ro, hx, hz, lx, lz, rx, rz, rd⟩ := v
      obtain ⟨i1, i2, i3, i4, i5⟩ := hI
      simp only at i1 i3 i4 i5 ⊢
      rw [List.take_length] at i1 i2 i3 i4 i5
      simp (disch := omega) only [wpX7_least_143, wpX7_least_143b, m1, not_true_eq_false, not_false_eq_true, forall_const, true_implies, false_implies, implies_true, and_true, true_and, and_self, Nat.not_lt_zero, ne_eq, if_true, if_false, reduceIte, Nat.reduceAdd, Nat.reduceMul, Nat.reduceSub, Nat.reduceLT, Nat.reduceLeDiff, Nat.reduceEqDiff, Nat.add_sub_cancel, eq_self_iff_true, L_0, L_1, L_2, L_3, L_4, L_5, L_6, L_7, L_8, L_9, L_10, L_16, L_20, L_21, L_24, L_31, L_64, L_100, L_320, L_400, L_1000, L_256, nI_add, pk_mul, pk_sub, nI_clamp, vp_in_nI, nI_ge, nI_le, nI_lt, nI_nlt, qI_ne, qI_eq, qI_m1, q_all, qI_nm, qI_nm2]
      rw [i1, i3, i4]
      exact m_l174 hQ hn hM hs hL hv (tM_ok L) hwn i5 (by omega) h2 h
    · intro m i v hi hI hk
      obtain ⟨ro, hx, hz, lx, lz, rx, rz, rd⟩ := v
      obtain ⟨i1, i2, i3, i4, i5⟩ := hI
      simp only at i1 i3 i4 i5 ⊢
      obtain ⟨-, g2⟩ := m3 i hi
      have g2 := g2.1
      rw [tM_s hi] at hk
      have hlen := lG_len (k := kN (L.getD i 0)) (kN_lt _) (tM_ok (L.take i))
      simp (disch := omega) only [wpX7_least_143, wpX7_least_143b, m1, g2, not_true_eq_false, not_false_eq_true, forall_const, true_implies, false_implies, implies_true, and_true, true_and, and_self, Nat.not_lt_zero, ne_eq, if_true, if_false, reduceIte, Nat.reduceAdd, Nat.reduceMul, Nat.reduceSub, Nat.reduceLT, Nat.reduceLeDiff, Nat.reduceEqDiff, Nat.add_sub_cancel, eq_self_iff_true, L_0, L_1, L_2, L_3, L_4, L_5, L_6, L_7, L_8, L_9, L_10, L_16, L_20, L_21, L_24, L_31, L_64, L_100, L_320, L_400, L_1000, L_256, nI_add, pk_mul, pk_sub, nI_clamp, vp_in_nI, nI_ge, nI_le, nI_lt, nI_nlt, qI_ne, qI_eq, qI_m1, q_all, qI_nm, qI_nm2]
      rw [i1, i3, i4]
      refine m_takeG (kN_lt _) (tM_ok (L.take i)) i5 (by omega) (fun u1 u2 u3 u4 f' h' => ?_)
      exact hk (_, _, _, _, _, _, _, _) ⟨rfl, by omega, rfl, rfl, h'⟩
theorem m_l101f (hQ : LQ Q QQ) {wi ph fs os hx hz lx lz fo ro rx rz x : Int32} {A B : Nat → Int64} {rd fx fz fr lt : Nat → Int32} (h1 : QQ 0 1 ph z k a b c) : wpX7_least_101 Q (nI n) x wi 1 ph fs os ro hx hz lx lz fo rx rz z k a b c A B rd fx fz fr lt :=
  ⟨fun h9 => absurd h9 (by decide), fun _ => hQ _ _ _ _ _ _ _ _ _ _ _ _ _ _ _ _ _ _ _ _ _ _ _ _ _ h1⟩
theorem m_least (hQ : LQ Q QQ) {L : List Nat} {fa ph fs os hx hz lx lz fo ro rx rz : Int32} {A B : Nat → Int64} {rd fx fz fr lt : Nat → Int32} (hn : n < 5) (hM : MM z k a b c Ls) (hs : s < 3) (hL : Ls s = L) (hv : ∀ x ∈ L, gv n x = true)
    (h1 : oneW L = false → QQ 0 1 ph z k a b c) (h0 : L = [] → QQ 0 0 0 z k a b c) (h2 : oneW L = true → ¬ fmN (takM L) ≤ 64 → QQ 0 2 ph z k a b c) (h : oneW L = true → L ≠ [] → fmN (takM L) ≤ 64 → ∀ z k a b c, MM z k a b c (upS (upS Ls 3 (fmL (aN (L.getD 0 0)) (takM L))) s (fmL (aN (L.getD 0 0)) (takM L))) → QQ (nI (takM L).1.length) 0 (nI (phN n L (fmL (aN (L.getD 0 0)) (takM L)))) z k a b c) : wpX7_least Q (nI s) (nI n) fa ph fs os ro hx hz lx lz fo rx rz z k a b c A B rd fx fz fr lt := by
  obtain ⟨m1, m2, m3⟩ := hM s (by omega)
  rw [hL] at m1 m2 m3
  have hw : L ≠ [] → a (64 * s) = nI (aN (L.getD 0 0)) ∧ aN (L.getD 0 0) < n := fun hne => by
    have hl : 0 < L.length := List.length_pos_iff.mpr hne
    exact ⟨((m3 0 hl).2).2.1, (gv_k (hv _ (g_mem hl))).2.2⟩
  have key : ∀ i, i ≤ L.length → (∀ j, j < i → kN (L.getD j 0) ≤ 5 ∧ aN (L.getD j 0) = aN (L.getD 0 0)) → ∃ m, wpX7_least_39 Q (nI n) m (nI s) (a (64 * s)) (nI i) 0 ph fs os ro hx hz lx lz fo rx rz z k a b c A B rd fx fz fr lt := by
    intro i hi hg
    induction hd : L.length - i generalizing i with
    | zero =>
      refine ⟨1, ?_⟩
      have e : i = L.length := by omega
      subst e
      have o1 := oneW_t hg
      simp (disch := omega) only [wpX7_least_39, wpX7_least_39b, m1, not_true_eq_false, not_false_eq_true, forall_const, true_implies, false_implies, implies_true, and_true, true_and, and_self, Nat.not_lt_zero, ne_eq, if_true, if_false, reduceIte, Nat.reduceAdd, Nat.reduceMul, Nat.reduceSub, Nat.reduceLT, Nat.reduceLeDiff, Nat.reduceEqDiff, Nat.add_sub_cancel, eq_self_iff_true, L_0, L_1, L_2, L_3, L_4, L_5, L_6, L_7, L_8, L_9, L_10, L_16, L_20, L_21, L_24, L_31, L_64, L_100, L_320, L_400, L_1000, L_256, nI_add, pk_mul, pk_sub, nI_clamp, vp_in_nI, nI_ge, nI_le, nI_lt, nI_nlt, qI_ne, qI_eq, qI_m1, q_all, qI_nm, qI_nm2]
      refine m_l101 hQ hn hM hs hL hv hw (fun g hg' => ?_) h0 (h2 o1) (h o1)
      obtain ⟨j, hj, rfl⟩ := g_of (d := 0) hg'
      exact (hg j hj).1
    | succ d ih =>
      by_cases hb : kN (L.getD i 0) ≤ 5 ∧ aN (L.getD i 0) = aN (L.getD 0 0)
      · obtain ⟨m, hm⟩ := ih (i + 1) (by omega) (fun j hj => by
          by_cases e : j = i
          · subst e; exact hb
          · exact hg j (by omega)) (by omega)
        refine ⟨m + 1, ?_⟩
        obtain ⟨b1, b2⟩ := hb
        have hk := ((m3 i (by omega)).2).1
        have ha := ((m3 i (by omega)).2).2.1
        have hw1 := (hw (fun e => by rw [e] at hi hd; simp at hd)).1
        rw [b2] at ha
        have hal : aN (L.getD 0 0) < 10 := Nat.mod_lt _ (by omega)
        rw [hw1] at hm ⊢
        simp (disch := omega) only [wpX7_least_39, wpX7_least_39b, m1, hk, ha, not_true_eq_false, not_false_eq_true, forall_const, true_implies, false_implies, implies_true, and_true, true_and, and_self, Nat.not_lt_zero, ne_eq, if_true, if_false, reduceIte, Nat.reduceAdd, Nat.reduceMul, Nat.reduceSub, Nat.reduceLT, Nat.reduceLeDiff, Nat.reduceEqDiff, Nat.add_sub_cancel, eq_self_iff_true, L_0, L_1, L_2, L_3, L_4, L_5, L_6, L_7, L_8, L_9, L_10, L_16, L_20, L_21, L_24, L_31, L_64, L_100, L_320, L_400, L_1000, L_256, nI_add, pk_mul, pk_sub, nI_clamp, vp_in_nI, nI_ge, nI_le, nI_lt, nI_nlt, qI_ne, qI_eq, qI_m1, q_all, qI_nm, qI_nm2]
        exact hm
      · have o1 := h1 (oneW_f (i := i) (by omega) hb)
        refine ⟨2, ?_⟩
        have hk := ((m3 i (by omega)).2).1
        have ha := ((m3 i (by omega)).2).2.1
        have hw1 := (hw (fun e => by rw [e] at hi hd; simp at hd)).1
        have hal : aN (L.getD 0 0) < 10 := Nat.mod_lt _ (by omega)
        have hai : aN (L.getD i 0) < 10 := Nat.mod_lt _ (by omega)
        have hkl := kN_lt (L.getD i 0)
        have r : wpX7_least_39 Q (nI n) 1 (nI s) (a (64 * s)) (nI (i + 1)) 1 ph fs os ro hx hz lx lz fo rx rz z k a b c A B rd fx fz fr lt := by
          show wpX7_least_39b _ _ _ _ _ _ _ _ _ _ _ _ _ _ _ _ _ _ _ _ _ _ _ _ _ _ _ _ _ _
          exact ⟨fun h9 => absurd h9 (by decide), fun _ => m_l101f hQ o1⟩
        by_cases h5 : kN (L.getD i 0) ≤ 5
        · have hne : aN (L.getD i 0) ≠ aN (L.getD 0 0) := fun e => hb ⟨h5, e⟩
          rw [hw1] at r ⊢
          unfold wpX7_least_39
          simp (disch := omega) only [wpX7_least_39b, m1, hk, ha, not_true_eq_false, not_false_eq_true, forall_const, true_implies, false_implies, implies_true, and_true, true_and, and_self, Nat.not_lt_zero, ne_eq, if_true, if_false, reduceIte, Nat.reduceAdd, Nat.reduceMul, Nat.reduceSub, Nat.reduceLT, Nat.reduceLeDiff, Nat.reduceEqDiff, Nat.add_sub_cancel, eq_self_iff_true, L_0, L_1, L_2, L_3, L_4, L_5, L_6, L_7, L_8, L_9, L_10, L_16, L_20, L_21, L_24, L_31, L_64, L_100, L_320, L_400, L_1000, L_256, nI_add, pk_mul, pk_sub, nI_clamp, vp_in_nI, nI_ge, nI_le, nI_lt, nI_nlt, qI_ne, qI_eq, qI_m1, q_all, qI_nm, qI_nm2]
          exact r
        · unfold wpX7_least_39
          simp (disch := omega) only [wpX7_least_39b, m1, hk, not_true_eq_false, not_false_eq_true, forall_const, true_implies, false_implies, implies_true, and_true, true_and, and_self, Nat.not_lt_zero, ne_eq, if_true, if_false, reduceIte, Nat.reduceAdd, Nat.reduceMul, Nat.reduceSub, Nat.reduceLT, Nat.reduceLeDiff, Nat.reduceEqDiff, Nat.add_sub_cancel, eq_self_iff_true, L_0, L_1, L_2, L_3, L_4, L_5, L_6, L_7, L_8, L_9, L_10, L_16, L_20, L_21, L_24, L_31, L_64, L_100, L_320, L_400, L_1000, L_256, nI_add, pk_mul, pk_sub, nI_clamp, vp_in_nI, nI_ge, nI_le, nI_lt, nI_nlt, qI_ne, qI_eq, qI_m1, q_all, qI_nm, qI_nm2]
          exact r
  unfold wpX7_least
  rw [slot_t hs]
  refine ⟨fun h9 => absurd h9 (by decide), fun _ => ?_⟩
  unfold wpX7_least_13
  refine ⟨fun _ => ?_, fun h9 => absurd rfl h9⟩
  simp (disch := omega) only [wpX7_least_36, not_true_eq_false, not_false_eq_true, forall_const, true_implies, false_implies, implies_true, and_true, true_and, and_self, Nat.not_lt_zero, ne_eq, if_true, if_false, reduceIte, Nat.reduceAdd, Nat.reduceMul, Nat.reduceSub, Nat.reduceLT, Nat.reduceLeDiff, Nat.reduceEqDiff, Nat.add_sub_cancel, eq_self_iff_true, L_0, L_1, L_2, L_3, L_4, L_5, L_6, L_7, L_8, L_9, L_10, L_16, L_20, L_21, L_24, L_31, L_64, L_100, L_320, L_400, L_1000, L_256, nI_add, pk_mul, pk_sub, nI_clamp, vp_in_nI, nI_ge, nI_le, nI_lt, nI_nlt, qI_ne, qI_eq, qI_m1, q_all, qI_nm, qI_nm2]
  exact key 0 (Nat.zero_le _) (fun j hj => absurd hj (Nat.not_lt_zero _))
theorem m_leastF (hQ : LQ Q QQ) {x fa ph fs os hx hz lx lz fo ro rx rz : Int32} {A B : Nat → Int64} {rd fx fz fr lt : Nat → Int32} (hx0 : zvX7_isSlot x = 0) (h1 : QQ 0 1 ph z k a b c) : wpX7_least Q x (nI n) fa ph fs os ro hx hz lx lz fo rx rz z k a b c A B rd fx fz fr lt := by
  unfold wpX7_least
  refine ⟨fun _ => ?_, fun h9 => absurd hx0 h9⟩
  unfold wpX7_least_13
  refine ⟨fun h9 => absurd h9 (by decide), fun _ => ?_⟩
  unfold wpX7_least_36
  refine ⟨1, ?_⟩
  exact ⟨fun h9 => absurd h9 (by decide), fun _ => m_l101f hQ h1⟩
end
