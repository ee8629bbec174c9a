/-! The least form, the program's side: its gates. -/
def wdF : Nat → Nat → List Nat
  | 0, _ => []
  | m + 1, w => if w ≤ 1 then [] else wdF m (w / 2) ++ [if w % 2 = 0 then 1 else 2]
def wdL (w : Nat) : List Nat := wdF 8 w
def rdG (w h : Nat) : List Nat := [gi 3 w] ++ (if h = 0 then [] else [gi 1 w]) ++ (if h = 2 then [gi 2 w] else [])
def roL (w : Nat) (H : List Nat) : List Nat := H.reverse.flatMap (rdG w)
def fmL (w : Nat) (x : FS) : List Nat := (wdL (woN x.2)).map (fun k => gi k w) ++ roL w x.1
def fmN (x : FS) : Nat := (wdL (woN x.2)).length + (x.1.map (fun h => 1 + h)).sum
theorem rdG_len {w h : Nat} (hh : h < 3) : (rdG w h).length = 1 + h := by
  unfold rdG
  rcases (show h = 0 ∨ h = 1 ∨ h = 2 by omega) with rfl | rfl | rfl <;> rfl
theorem roL_len {w : Nat} : ∀ {H : List Nat}, (∀ h ∈ H, h < 3) → (roL w H).length = (H.map (fun h => 1 + h)).sum := by
  intro H
  induction H with
  | nil => intro _; rfl
  | cons h t ih =>
    intro hh
    have e : roL w (h :: t) = roL w t ++ rdG w h := by unfold roL; rw [List.reverse_cons, List.flatMap_append]; simp
    rw [e, List.length_append, ih (fun x hx => hh x (List.mem_cons_of_mem _ hx)), rdG_len (hh h List.mem_cons_self), List.map_cons, List.sum_cons]; omega
theorem fmL_len {w : Nat} {x : FS} (hx : okF x) : (fmL w x).length = fmN x := by
  unfold fmL fmN; rw [List.length_append, List.length_map, roL_len hx.1]
theorem wo_lt (e : Nat) : woN e < 256 := by
  unfold woN
  have key : ∀ m t, 1 ≤ t → t + m ≤ 256 → woF e m t < 256 := by
    intro m
    induction m with
    | zero => intro t _ _; unfold woF; omega
    | succ m ih =>
      intro t h1 h2
      unfold woF
      split
      · omega
      · exact ih (t + 1) (by omega) (by omega)
  exact key 255 1 (by omega) (by omega)
theorem wd_c1 : ∀ w, w < 256 → ∀ j, j < 9 → ((w &&& 2 ^ j == 0) == (w / 2 ^ j % 2 == 0)) = true := by decide +kernel
theorem wd_c2 : ∀ w, w < 256 → ∀ j, j < 9 → (if w / 2 ^ (j + 1) = 0 then wdL (w / 2 ^ j) == [] else wdL (w / 2 ^ j) == wdL (w / 2 ^ (j + 1)) ++ [if w / 2 ^ j % 2 = 0 then 1 else 2]) = true := by decide +kernel
theorem wd_12 : ∀ w, w < 256 → (wdL w).all (fun k => k == 1 || k == 2) = true ∧ (wdL w).length ≤ 8 := by decide +kernel
theorem wdF_len : ∀ (m w : Nat), w < 2 ^ m → 1 < w → ∀ n, n ≤ m → w < 2 ^ n → (wdF m w).length = (wdF m (w / 2)).length + 1 := by
  intro m w hw h1 n _ _
  cases m with
  | zero => simp at hw; omega
  | succ m =>
    show (if w ≤ 1 then [] else wdF m (w / 2) ++ [if w % 2 = 0 then 1 else 2]).length = _
    rw [if_neg (by omega), List.length_append]
    have key : ∀ (m w : Nat), w < 2 ^ m → (wdF m w).length = (wdF (m + 1) w).length := by
      intro m
      induction m with
      | zero => intro w hw; have : w = 0 := by simpa using hw
                subst this; rfl
      | succ m ih =>
        intro w hw
        have e2 : 2 ^ (m + 1) = 2 * 2 ^ m := by rw [Nat.pow_succ]; omega
        show (if w ≤ 1 then [] else wdF m (w / 2) ++ [if w % 2 = 0 then 1 else 2]).length = (if w ≤ 1 then [] else wdF (m + 1) (w / 2) ++ [if w % 2 = 0 then 1 else 2]).length
        by_cases h : w ≤ 1
        · rw [if_pos h, if_pos h]
        · rw [if_neg h, if_neg h, List.length_append, List.length_append, ih (w / 2) (by omega)]
    have e2 : 2 ^ (m + 1) = 2 * 2 ^ m := by rw [Nat.pow_succ]; omega
    rw [key m (w / 2) (by omega)]; rfl
theorem y_cG {Q : Int32 → Prop} {c : Int32} {f : Nat → Int32} {x : FS} (hH : HD c f x.1) (hx : okF x) (h : Q (nI (fmN x))) : wpX3_countGates Q c (nI (woN x.2)) f := by
  have hw := wo_lt x.2
  obtain ⟨w1, w2⟩ := wd_12 _ hw
  unfold fmN at h
  obtain ⟨rfl, hl, hf⟩ := hH
  generalize woN x.2 = w at h hw w1 w2
  unfold wpX3_countGates
  have hsum : ∀ i, i ≤ x.1.length → ((x.1.take i).map (fun h => 1 + h)).sum ≤ 3 * i := by
    intro i
    induction i with
    | zero => intro _; exact Nat.le_refl _
    | succ i ih =>
      intro hi
      have := ih (by omega)
      have := (hf i (by omega)).1
      rw [g_take (d := 0) (show i < x.1.length by omega), List.map_append, List.sum_append]
      simp only [List.map_cons, List.map_nil, List.sum_cons, List.sum_nil]
      omega
  have two : ∀ g, g = (wdL w).length → wpX3_countGates_22 Q (nI x.1.length) (nI w) f (nI g) := fun g hg => by
    unfold wpX3_countGates_22
    refine pk_loop (σ := Nat) (fun m i s => wpX3_countGates_24 Q (nI x.1.length) (nI w) f m (nI s) (nI i)) (fun i s => s = g + ((x.1.take i).map (fun h => 1 + h)).sum) x.1.length 0 g (Nat.zero_le _) (by simp) ?_ ?_
    · intro m s hI
      simp (disch := omega) only [wpX3_countGates_24, wpX3_countGates_24b, not_true_eq_false, not_false_eq_true, forall_const, true_implies, false_implies, implies_true, and_true, true_and, and_self, Nat.not_lt_zero, ne_eq, if_true, if_false, reduceIte, Nat.reduceAdd, Nat.reduceMul, Nat.reduceSub, Nat.reduceLT, Nat.reduceLeDiff, Nat.reduceEqDiff, Nat.add_sub_cancel, eq_self_iff_true, L_0, L_1, L_2, L_3, L_4, L_5, L_6, L_7, L_8, L_9, L_10, L_16, L_20, L_21, L_24, L_31, L_64, L_100, L_320, L_400, L_1000, L_256, nI_add, pk_mul, pk_sub, nI_clamp, vp_in_nI, nI_ge, nI_le, nI_lt, nI_nlt, qI_ne, qI_eq, qI_m1, q_all, qI_nm, qI_nm2]
      rw [List.take_length] at hI
      rw [hI, hg]; exact h
    · intro m i s hi hI hk
      have := hsum i (by omega)
      have h9 := hf i hi
      simp (disch := omega) only [wpX3_countGates_24, wpX3_countGates_24b, h9.2, not_true_eq_false, not_false_eq_true, forall_const, true_implies, false_implies, implies_true, and_true, true_and, and_self, Nat.not_lt_zero, ne_eq, if_true, if_false, reduceIte, Nat.reduceAdd, Nat.reduceMul, Nat.reduceSub, Nat.reduceLT, Nat.reduceLeDiff, Nat.reduceEqDiff, Nat.add_sub_cancel, eq_self_iff_true, L_0, L_1, L_2, L_3, L_4, L_5, L_6, L_7, L_8, L_9, L_10, L_16, L_20, L_21, L_24, L_31, L_64, L_100, L_320, L_400, L_1000, L_256, nI_add, pk_mul, pk_sub, nI_clamp, vp_in_nI, nI_ge, nI_le, nI_lt, nI_nlt, qI_ne, qI_eq, qI_m1, q_all, qI_nm, qI_nm2]
      refine hk _ ?_
      rw [g_take (d := 0) hi, List.map_append, List.sum_append, hI]
      simp only [List.map_cons, List.map_nil, List.sum_cons, List.sum_nil]; omega
  have one : ∀ (m v g : Nat), v < 2 ^ m → m ≤ 8 → g + (wdL v).length = (wdL w).length → wpX3_countGates_7 Q (nI x.1.length) (nI w) f (m + 1) (nI g) (nI v) := by
    intro m
    induction m with
    | zero =>
      intro v g hv _ hg
      have : v = 0 := by simpa using hv
      subst this
      simp (disch := omega) only [wpX3_countGates_7, wpX3_countGates_7b, not_true_eq_false, not_false_eq_true, forall_const, true_implies, false_implies, implies_true, and_true, true_and, and_self, Nat.not_lt_zero, ne_eq, if_true, if_false, reduceIte, Nat.reduceAdd, Nat.reduceMul, Nat.reduceSub, Nat.reduceLT, Nat.reduceLeDiff, Nat.reduceEqDiff, Nat.add_sub_cancel, eq_self_iff_true, L_0, L_1, L_2, L_3, L_4, L_5, L_6, L_7, L_8, L_9, L_10, L_16, L_20, L_21, L_24, L_31, L_64, L_100, L_320, L_400, L_1000, L_256, nI_add, pk_mul, pk_sub, nI_clamp, vp_in_nI, nI_ge, nI_le, nI_lt, nI_nlt, qI_ne, qI_eq, qI_m1, q_all, qI_nm, qI_nm2]
      exact two g (by rw [← hg]; rfl)
    | succ m ih =>
      intro v g hv hm hg
      have e2 : 2 ^ (m + 1) = 2 * 2 ^ m := by rw [Nat.pow_succ]; omega
      have b8 : 2 ^ (m + 1) ≤ 2 ^ 8 := Nat.pow_le_pow_right (by omega) hm
      have h2 : nI v >>> ((1 : Int32) &&& 31) = nI (v / 2) := by
        have := q_shr (n := v) (k := 1) (by omega) (by omega)
        exact this
      show wpX3_countGates_7b Q (wpX3_countGates_7 Q (nI x.1.length) (nI w) f (m + 1)) (nI x.1.length) (nI w) f (nI g) (nI v)
      unfold wpX3_countGates_7b
      rw [h2, show (nI v ≤ 1) ↔ v ≤ 1 from nI_leI (b := 1) (by omega) (by omega)]
      refine ⟨fun h9 => two g ?_, fun h9 => ?_⟩
      · rw [← hg]
        rcases (show v = 0 ∨ v = 1 by omega) with rfl | rfl <;> rfl
      · rw [nI_1]
        refine ih _ _ (by omega) (by omega) ?_
        have h7 := wdF_len 8 v (by omega) (by omega) 8 (by omega) (by omega)
        unfold wdL at hg ⊢
        omega
  exact ⟨9, one 8 w 0 hw (by omega) (by omega)⟩
theorem y_addTo {Q : Int32 → (Nat → Int32) → Prop} {c c2 : Int32} {f f2 : Nat → Int32} {x : FS} {w : Nat} (hH : HD c f x.1) (hx : okF x) (hw9 : w < 10) (hC : CR c2 f2 []) (hl : fmN x ≤ 64) (h : ∀ c' f', CR c' f' (fmL w x) → Q c' f') : wpX3_addTo Q (nI w) c (nI (woN x.2)) f c2 f2 := by
  have hv := wo_lt x.2
  obtain ⟨w1, w2⟩ := wd_12 _ hv
  have hll := fmL_len (w := w) hx
  obtain ⟨rfl, hl64, hf⟩ := hH
  unfold fmL at h hll
  rw [← hll] at hl
  generalize woN x.2 = v at h hv w1 w2 hl
  rw [List.length_append, List.length_map] at hl
  have hcut : ∀ i, (roL w (x.1.drop i)).length ≤ (roL w x.1).length := fun i => by
    have e : roL w x.1 = roL w (x.1.drop i) ++ roL w (x.1.take i) := by
      unfold roL
      conv => lhs; rw [← List.take_append_drop i x.1]
      rw [List.reverse_append, List.flatMap_append]
    rw [e, List.length_append]; omega
  have two : ∀ c' f', CR c' f' ((wdL v).map (fun k => gi k w)) → wpX3_addTo_70 Q (nI x.1.length) (nI v) f (nI w) c' f' := fun c' f' hC' => by
    unfold wpX3_addTo_70
    refine ⟨x.1.length + 1, ?_⟩
    refine pk_loopD (σ := Int32 × (Nat → Int32)) (fun m i s => wpX3_addTo_78 Q (nI x.1.length) (nI v) f m (nI w) (nI i - nI 1) s.1 s.2) (fun i s => i ≤ x.1.length ∧ CR s.1 s.2 ((wdL v).map (fun k => gi k w) ++ roL w (x.1.drop i))) ?_ ?_ x.1.length (c', f') ⟨Nat.le_refl _, by rw [List.drop_length]; simpa [roL] using hC'⟩
    · intro m s hI
      have hI2 := hI.2
      rw [List.drop_zero] at hI2
      simp (disch := omega) only [wpX3_addTo_78, wpX3_addTo_78b, neg0, not_true_eq_false, not_false_eq_true, forall_const, true_implies, false_implies, implies_true, and_true, true_and, and_self, Nat.not_lt_zero, ne_eq, if_true, if_false, reduceIte, Nat.reduceAdd, Nat.reduceMul, Nat.reduceSub, Nat.reduceLT, Nat.reduceLeDiff, Nat.reduceEqDiff, Nat.add_sub_cancel, eq_self_iff_true, L_0, L_1, L_2, L_3, L_4, L_5, L_6, L_7, L_8, L_9, L_10, L_16, L_20, L_21, L_24, L_31, L_64, L_100, L_320, L_400, L_1000, L_256, nI_add, pk_mul, pk_sub, nI_clamp, vp_in_nI, nI_ge, nI_le, nI_lt, nI_nlt, qI_ne, qI_eq, qI_m1, q_all, qI_nm, qI_nm2]
      exact h _ _ hI2
    · intro m i s hI hk
      obtain ⟨hi, hI⟩ := hI
      obtain ⟨h3, hfi⟩ := hf i (by omega)
      have e : roL w (x.1.drop i) = roL w (x.1.drop (i + 1)) ++ rdG w (x.1.getD i 0) := by
        rw [drop_c (show i < x.1.length by omega)]
        unfold roL; rw [List.reverse_cons, List.flatMap_append]; simp
      have hcu := hcut i
      rw [e] at hk hcu
      rw [List.length_append] at hcu
      have hrl := rdG_len (w := w) h3
      have g3 : zvX2_of 3 (nI w) 0 0 = nI (gi 3 w) := y_of1 (k := 3) (by omega) hw9 _ _
      have g2 : zvX2_of 2 (nI w) 0 0 = nI (gi 2 w) := y_of1 (k := 2) (by omega) hw9 _ _
      have g1 : zvX2_of 1 (nI w) 0 0 = nI (gi 1 w) := y_of1 (k := 1) (by omega) hw9 _ _
      have fin : ∀ c3 f3 X, CR c3 f3 X → X.length < 64 ∨ x.1.getD i 0 ≠ 2 → (∀ c4 f4, CR c4 f4 (X ++ (if x.1.getD i 0 = 2 then [gi 2 w] else [])) → wpX3_addTo_78 Q (nI x.1.length) (nI v) f m (nI w) (nI i - nI 1) c4 f4) → wpX3_addTo_115 Q (wpX3_addTo_78 Q (nI x.1.length) (nI v) f m) (nI x.1.length) (nI v) f (nI w) (nI i) c3 f3 := fun c3 f3 X hX hXl hq => by
        unfold wpX3_addTo_115
        rw [nI_clamp (by omega), hfi, g2, show (nI (x.1.getD i 0) = 2) ↔ x.1.getD i 0 = 2 from nI_eq (b := 2) (by omega) (by omega)]
        rw [show nI i + -1 = nI i - nI 1 from m1s]
        refine ⟨vp_in_nI (by omega) (by omega), fun h9 => ?_, fun h9 => ?_⟩
        · refine y_add hX (hXl.resolve_right (fun h8 => h8 h9)) (gi_lt (by omega) hw9) (fun c4 f4 h4 => hq _ _ ?_)
          rw [if_pos h9]; exact h4
        · refine hq _ _ ?_
          rw [if_neg h9, List.append_nil]; exact hX
      show wpX3_addTo_78b Q (wpX3_addTo_78 Q (nI x.1.length) (nI v) f m) (nI x.1.length) (nI v) f (nI w) (nI (i + 1) - nI 1) s.1 s.2
      unfold wpX3_addTo_78b
      rw [sub1, g3, g1]
      refine ⟨fun h9 => absurd h9 (nI_pos (by omega)), fun _ => ?_⟩
      refine y_add hI (by rw [List.length_append, List.length_map]; omega) (gi_lt (by omega) hw9) (fun c3 f3 hA => ?_)
      refine ⟨vp_in_nI (by omega) (by omega), ?_⟩
      rw [nI_clamp (by omega), hfi, show (nI (x.1.getD i 0) = 0) ↔ x.1.getD i 0 = 0 from nI_eq (b := 0) (by omega) (by omega)]
      refine ⟨fun h0 => ?_, fun h0 => ?_⟩
      · refine fin _ _ _ hA (Or.inr (by omega)) (fun c4 f4 h4 => hk (c4, f4) ⟨by omega, ?_⟩)
        show CR c4 f4 _
        unfold rdG; rw [if_pos h0]
        simpa [List.append_assoc] using h4
      · refine y_add hA (by simp only [List.length_append, List.length_map, List.length_cons, List.length_nil]; omega) (gi_lt (by omega) hw9) (fun c4 f4 hB => ?_)
        refine fin _ _ _ hB ?_ (fun c5 f5 h5 => hk (c5, f5) ⟨by omega, ?_⟩)
        · by_cases h2 : x.1.getD i 0 = 2
          · left; simp only [List.length_append, List.length_map, List.length_cons, List.length_nil]; omega
          · exact Or.inr h2
        · show CR c5 f5 _
          unfold rdG; rw [if_neg h0]
          simpa [List.append_assoc] using h5
  unfold wpX3_addTo
  refine ⟨10, ?_⟩
  have key := pk_loopD (σ := Int32 × Int32 × (Nat → Int32)) (fun m J s => wpX3_addTo_7 Q (nI x.1.length) (nI v) f m (nI w) s.1 (nI (2 ^ J / 2)) s.2.1 s.2.2) (fun J s => J ≤ 9 ∧ s.1 = (if v / 2 ^ J = 0 then 0 else 1) ∧ CR s.2.1 s.2.2 ((wdL (v / 2 ^ J)).map (fun k => gi k w))) ?_ ?_ 9 (0, c2, f2) ⟨Nat.le_refl _, by rw [Nat.div_eq_of_lt (by omega)]; rfl, by rw [Nat.div_eq_of_lt (by omega)]; exact hC⟩
  · exact key
  · intro m s hI
    obtain ⟨-, -, hI⟩ := hI
    rw [show v / 2 ^ 0 = v from by simp] at hI
    rw [show (2 : Nat) ^ 0 / 2 = 0 from rfl]
    simp (disch := omega) only [wpX3_addTo_7, wpX3_addTo_7b, not_true_eq_false, not_false_eq_true, forall_const, true_implies, false_implies, implies_true, and_true, true_and, and_self, Nat.not_lt_zero, ne_eq, if_true, if_false, reduceIte, Nat.reduceAdd, Nat.reduceMul, Nat.reduceSub, Nat.reduceLT, Nat.reduceLeDiff, Nat.reduceEqDiff, Nat.add_sub_cancel, eq_self_iff_true, L_0, L_1, L_2, L_3, L_4, L_5, L_6, L_7, L_8, L_9, L_10, L_16, L_20, L_21, L_24, L_31, L_64, L_100, L_320, L_400, L_1000, L_256, nI_add, pk_mul, pk_sub, nI_clamp, vp_in_nI, nI_ge, nI_le, nI_lt, nI_nlt, qI_ne, qI_eq, qI_m1, q_all, qI_nm, qI_nm2]
    exact two _ _ hI
  · intro m J s hI hk
    obtain ⟨hJ, hb, hI⟩ := hI
    have eJ : 2 ^ (J + 1) / 2 = 2 ^ J := by rw [Nat.pow_succ]; omega
    have pJ : 2 ^ J ≤ 2 ^ 8 := Nat.pow_le_pow_right (by omega) (by omega)
    have pJ1 : 1 ≤ 2 ^ J := Nat.one_le_two_pow
    have c1 := wd_c1 v hv J (by omega)
    have c2' := wd_c2 v hv J (by omega)
    have hsh : nI (2 ^ J) >>> ((1 : Int32) &&& 31) = nI (2 ^ J / 2) := by
      have := q_shr (n := 2 ^ J) (k := 1) (by omega) (by omega)
      exact this
    have hand : ((nI v &&& nI (2 ^ J)) = 0) ↔ v / 2 ^ J % 2 = 0 := by
      rw [q_and, show (nI (v &&& 2 ^ J) = 0) ↔ v &&& 2 ^ J = 0 from q_andz (by omega)]
      simp only [beq_iff_eq] at c1
      rw [Bool.eq_iff_iff] at c1; simpa using c1
    have hdd : v / 2 ^ (J + 1) = v / 2 ^ J / 2 := by rw [Nat.pow_succ, Nat.div_div_eq_div_mul]
    have l9 : ∀ L : List Nat, L = wdL (v / 2 ^ J) → L.length ≤ 8 := fun L hL => by
      rw [hL]; exact (wd_12 (v / 2 ^ J) (Nat.lt_of_le_of_lt (Nat.div_le_self _ _) hv)).2
    have g2 : zvX2_of 2 (nI w) 0 0 = nI (gi 2 w) := y_of1 (k := 2) (by omega) hw9 _ _
    have g1 : zvX2_of 1 (nI w) 0 0 = nI (gi 1 w) := y_of1 (k := 1) (by omega) hw9 _ _
    show wpX3_addTo_7b Q (wpX3_addTo_7 Q (nI x.1.length) (nI v) f m) (nI x.1.length) (nI v) f (nI w) s.1 (nI (2 ^ (J + 1) / 2)) s.2.1 s.2.2
    rw [eJ]
    unfold wpX3_addTo_7b wpX3_addTo_32 wpX3_addTo_41
    rw [hsh, g1, g2]
    refine ⟨fun h9 => absurd h9 (nI_nle pJ1 (by omega)), fun _ => ?_⟩
    by_cases hz : v / 2 ^ (J + 1) = 0
    · rw [if_pos hz] at hb c2'
      rw [hb]
      have e0 : wdL (v / 2 ^ J) = [] := by simpa using c2'
      have eI : CR s.2.1 s.2.2 ((wdL (v / 2 ^ J)).map (fun k => gi k w)) := by
        rw [e0]; rw [hz] at hI; exact hI
      refine ⟨fun _ => ⟨fun _ => ?_, fun h9 => absurd rfl h9⟩, fun h9 => absurd rfl h9⟩
      simp only [hand]
      refine ⟨fun h9 => hk (0, s.2) ⟨by omega, ?_, eI⟩, fun h9 => hk (1, s.2) ⟨by omega, ?_, eI⟩⟩
      · show (0 : Int32) = _; rw [if_pos (by omega)]
      · show (1 : Int32) = _; rw [if_neg (by omega)]
    · rw [if_neg hz] at hb c2'
      rw [hb]
      have e0 : wdL (v / 2 ^ J) = wdL (v / 2 ^ (J + 1)) ++ [if v / 2 ^ J % 2 = 0 then 1 else 2] := by simpa using c2'
      have hlen := l9 _ e0.symm
      simp only [List.length_append, List.length_cons, List.length_nil] at hlen
      have hnz : ¬ v / 2 ^ J = 0 := by omega
      refine ⟨fun h9 => absurd h9 (by decide), fun _ => ?_⟩
      simp only [hand]
      refine ⟨fun h9 => ?_, fun h9 => ?_⟩
      · refine y_add hI (by rw [List.length_map]; omega) (gi_lt (by omega) hw9) (fun c3 f3 hA => ?_)
        refine ⟨fun h8 => absurd h8 (by decide), fun _ => hk (1, c3, f3) ⟨by omega, ?_, ?_⟩⟩
        · show (1 : Int32) = _; rw [if_neg hnz]
        · show CR c3 f3 _
          rw [e0, List.map_append, if_pos h9]; exact hA
      · refine y_add hI (by rw [List.length_map]; omega) (gi_lt (by omega) hw9) (fun c3 f3 hA => ?_)
        refine ⟨fun h8 => absurd h8 (by decide), fun _ => hk (1, c3, f3) ⟨by omega, ?_, ?_⟩⟩
        · show (1 : Int32) = _; rw [if_neg hnz]
        · show CR c3 f3 _
          rw [e0, List.map_append, if_neg h9]; exact hA
