/-! The least form, the program's side. -/
theorem imN_lt {r s : Nat} (hr : r < 1000) : imN r s < 10 := by
  unfold imN; split
  · omega
  · split
    · omega
    · split <;> omega
theorem prN_lt {o i : Nat} (ho : o < 1000) : prN o i < 1000 := by
  have h1 := imN_lt (r := o) (s := i / 100) ho; have h2 := imN_lt (r := o) (s := i / 10 % 10) ho; have h3 := imN_lt (r := o) (s := i % 10) ho
  unfold prN; omega
theorem y_iz {r : Nat} (hr : r < 1000) : zvX3_imageOfZ (nI r) = nI (r % 10) := by
  unfold zvX3_imageOfZ; exact pk_rem (d := 10) (by omega) (by omega) (by omega)
theorem y_img {r s : Nat} (hr : r < 1000) (hs : s < 10) : zvX3_image (nI r) (nI s) = nI (imN r s) := by
  have m3 : nI s - nI s / 3 * 3 = nI (s % 3) := pk_rem (d := 3) (by omega) (by omega) (by omega)
  have d100 : nI r / 100 = nI (r / 100) := pk_div (d := 100) (by omega) (by omega) (by omega)
  have d10 : nI r / 10 = nI (r / 10) := pk_div (d := 10) (by omega) (by omega) (by omega)
  have r10 : nI (r / 10) - nI (r / 10) / 10 * 10 = nI (r / 10 % 10) := pk_rem (d := 10) (by omega) (by omega) (by omega)
  have p3 : ∀ d, d < 20 → nI d + 3 - (nI d + 3) / 6 * 6 = nI ((d + 3) % 6) := fun d hd => by
    rw [show nI d + 3 = nI (d + 3) from nI_add d 3]
    exact pk_rem (d := 6) (by omega) (by omega) (by omega)
  have c0 : (nI (s % 3) = 0) ↔ s % 3 = 0 := nI_eq (b := 0) (by omega) (by omega)
  have c1 : (nI (s % 3) = 1) ↔ s % 3 = 1 := nI_eq (b := 1) (by omega) (by omega)
  have c3 : ((3 : Int32) ≤ nI s) ↔ 3 ≤ s := nI_leI (a := 3) (by omega) (by omega)
  unfold zvX3_image imN
  rw [m3, d100, d10, r10, y_iz hr]
  simp only [c0, c1, c3]
  rw [p3 _ (by omega), p3 _ (by omega), p3 _ (by omega)]
  by_cases e0 : s % 3 = 0
  · by_cases e3 : 3 ≤ s <;> simp [e0, e3]
  · by_cases e1 : s % 3 = 1
    · by_cases e3 : 3 ≤ s <;> simp [e1, e3]
    · by_cases e3 : 3 ≤ s <;> simp [e0, e1, e3]
theorem y_prd {o i : Nat} (ho : o < 1000) (hi : i < 1000) : zvX3_product (nI o) (nI i) = nI (prN o i) := by
  have d100 : nI i / 100 = nI (i / 100) := pk_div (d := 100) (by omega) (by omega) (by omega)
  have d10 : nI i / 10 = nI (i / 10) := pk_div (d := 10) (by omega) (by omega) (by omega)
  have r10 : nI (i / 10) - nI (i / 10) / 10 * 10 = nI (i / 10 % 10) := pk_rem (d := 10) (by omega) (by omega) (by omega)
  unfold zvX3_product prN
  rw [d100, d10, r10, y_iz hi, y_img ho (by omega), y_img ho (by omega), y_img ho (by omega)]
  rw [show (100 : Int32) = nI 100 from rfl, show (10 : Int32) = nI 10 from rfl, pk_mul, pk_mul, nI_add, nI_add]
theorem y_he {r : Nat} (hr : r < 1000) : zvX3_headOf (nI r) = nI (heN r) := by
  have m3 : nI (r % 10) - nI (r % 10) / 3 * 3 = nI (r % 10 % 3) := pk_rem (d := 3) (by omega) (by omega) (by omega)
  have c2 : (nI (r % 10 % 3) = 2) ↔ r % 10 % 3 = 2 := nI_eq (b := 2) (by omega) (by omega)
  have c0 : (nI (r % 10 % 3) = 0) ↔ r % 10 % 3 = 0 := nI_eq (b := 0) (by omega) (by omega)
  unfold zvX3_headOf heN
  rw [y_iz hr, m3]
  simp only [c2, c0]
  split
  · rfl
  · split <;> rfl
theorem y_ba : ∀ h, h < 3 → zvX3_rotationBackOfHead (nI h) = nI (baN h) := by decide +kernel
theorem y_ro : ∀ h, h < 3 → zvX3_rotationOfHead (nI h) = nI (roN h) := by decide +kernel
theorem y_rh : ∀ k, k < 10 → k ≠ 3 → zvX3_rotationOf (nI k) = nI (rhN k) := by decide +kernel
def HD (c : Int32) (f : Nat → Int32) (H : List Nat) : Prop := c = nI H.length ∧ H.length ≤ 64 ∧ ∀ i, i < H.length → H.getD i 0 < 3 ∧ f i = nI (H.getD i 0)
theorem y_takeT {Q : Int32 → Int32 → (Nat → Int32) → Prop} {c : Int32} {f : Nat → Int32} {x : FS} (hH : HD c f x.1) (hx : okF x) (hl : x.1.length < 64) (h : ∀ c' f', HD c' f' (rTN x).1 → Q c' (nI (rTN x).2) f') : wpX3_takeT Q c (nI x.2) f := by
  obtain ⟨hs, e⟩ := x
  obtain ⟨hx1, hx2⟩ := hx
  simp only at hH hx1 hx2 hl h
  obtain ⟨q1, q2, ⟨-, -, -, e9⟩, -⟩ := q_e2 hx2
  obtain ⟨rfl, -, hf⟩ := hH
  have b9 := (q_e2 (q_e4.2.1 _ q1).2).2.2.1.2.2.2
  have p9 := prN_lt (o := baN (heN e)) (i := e) b9
  have p10 := (prN_lt (o := 402) (i := prN (baN (heN e)) e) (by omega))
  unfold wpX3_takeT
  rw [y_he e9, y_ba _ q1, y_prd b9 e9, y_iz p9, show (402 : Int32) = nI 402 from rfl, y_prd (by omega) p9]
  have key : wpX3_takeT_36 Q (nI (heN e)) (nI (inN e)) (nI hs.length) (nI e) f := by
    have i9 := (q_e2 q2).2.2.1.2.2.2
    have push : ¬ (heN e = 0 ∧ hs ≠ []) → wpX3_takeT_86 Q (nI (heN e)) (nI (inN e)) (nI hs.length) (nI e) f := fun hp => by
      rw [rT_push hp] at h
      simp (disch := omega) only [wpX3_takeT_86, not_true_eq_false, not_false_eq_true, forall_const, true_implies, false_implies, implies_true, and_true, true_and, and_self, Nat.not_lt_zero, ne_eq, if_true, if_false, reduceIte, Nat.reduceAdd, Nat.reduceMul, Nat.reduceSub, Nat.reduceLT, Nat.reduceLeDiff, Nat.reduceEqDiff, Nat.add_sub_cancel, eq_self_iff_true, L_0, L_1, L_2, L_3, L_4, L_5, L_6, L_7, L_8, L_9, L_10, L_16, L_20, L_21, L_24, L_31, L_64, L_100, L_320, L_400, L_1000, L_256, nI_add, pk_mul, pk_sub, nI_clamp, vp_in_nI, nI_ge, nI_le, nI_lt, nI_nlt, qI_ne, qI_eq, qI_m1, q_all, qI_nm, qI_nm2]
      refine h _ _ ⟨by simp, by simp; omega, fun i hi => ?_⟩
      simp at hi
      by_cases ei : i = hs.length
      · subst ei; rw [g_at, pk_us]; exact ⟨q1, rfl⟩
      · rw [g_lo (by omega), pk_un ei]; exact hf i (by omega)
    unfold wpX3_takeT_36
    rw [show (nI (heN e) = 0) ↔ heN e = 0 from nI_eq (b := 0) (by omega) (by omega)]
    refine ⟨fun h0 => ⟨fun h1 => push (fun h9 => ?_), fun h1 => ?_⟩, fun h0 => push (fun h9 => h0 h9.1)⟩
    · have := (nI_leI (b := 0) (by omega) (by omega)).mp h1
      exact h9.2 (List.eq_nil_of_length_eq_zero (by omega))
    · have hne : hs ≠ [] := fun h9 => h1 (by rw [h9]; decide)
      obtain ⟨u, y, eu⟩ := ls_c hne
      subst eu
      rw [rT_pop h0] at h
      have hy := hx1 y (by simp)
      have hlu : (u ++ [y]).length = u.length + 1 := by simp
      rw [hlu] at hf hl ⊢
      have r9 := (q_e2 (q_e4.2.1 y hy).1).2.2.1.2.2.2
      have fy := (hf u.length (by omega)).2
      rw [g_at] at fy
      have s9 := prN_lt (o := roN y) (i := 132) r9
      simp (disch := omega) only [fy, y_ro y hy, not_true_eq_false, not_false_eq_true, forall_const, true_implies, false_implies, implies_true, and_true, true_and, and_self, Nat.not_lt_zero, ne_eq, if_true, if_false, reduceIte, Nat.reduceAdd, Nat.reduceMul, Nat.reduceSub, Nat.reduceLT, Nat.reduceLeDiff, Nat.reduceEqDiff, Nat.add_sub_cancel, eq_self_iff_true, L_0, L_1, L_2, L_3, L_4, L_5, L_6, L_7, L_8, L_9, L_10, L_16, L_20, L_21, L_24, L_31, L_64, L_100, L_320, L_400, L_1000, L_256, nI_add, pk_mul, pk_sub, nI_clamp, vp_in_nI, nI_ge, nI_le, nI_lt, nI_nlt, qI_ne, qI_eq, qI_m1, q_all, qI_nm, qI_nm2]
      rw [show (132 : Int32) = nI 132 from rfl, y_prd r9 (by omega), y_prd s9 i9]
      refine h _ _ ⟨rfl, by show u.length ≤ 64; omega, fun i hi => ?_⟩
      have hi : i < u.length := hi
      have h9 := hf i (by omega)
      rw [g_lo hi] at h9
      exact h9
  rw [show (nI (prN (baN (heN e)) e % 10) = 2) ↔ prN (baN (heN e)) e % 10 = 2 from nI_eq (b := 2) (by omega) (by omega)]
  refine ⟨fun h2 => ?_, fun h2 => ?_⟩
  · unfold inN at key; rw [if_pos h2] at key; exact key
  · unfold inN at key; rw [if_neg h2] at key; exact key
def rwW : Nat → Nat → Nat → Nat
  | 0, r, _ => r
  | m + 1, r, w => if w ≤ 1 then r else rwW m (prN r (if w % 2 = 0 then 240 else 132)) (w / 2)
def rwdN (w : Nat) : Nat := rwW 8 12 w
def woF (e : Nat) : Nat → Nat → Nat
  | 0, _ => 1
  | m + 1, t => if rwdN t = e then t else woF e m (t + 1)
def woN (e : Nat) : Nat := woF e 255 1
theorem y_row5 {Q : Int32 → Prop} : ∀ (m r w : Nat), w < 2 ^ m → r < 1000 → Q (nI (rwW m r w)) → w < 2 ^ 20 → wpX3_rotationOfWord_5 Q (m + 1) (nI r) (nI w) := by
  intro m
  induction m with
  | zero =>
    intro r w hw hr h _
    have : w = 0 := by simpa using hw
    subst this
    simp (disch := omega) only [wpX3_rotationOfWord_5, wpX3_rotationOfWord_5b, not_true_eq_false, not_false_eq_true, forall_const, true_implies, false_implies, implies_true, and_true, true_and, and_self, Nat.not_lt_zero, ne_eq, if_true, if_false, reduceIte, Nat.reduceAdd, Nat.reduceMul, Nat.reduceSub, Nat.reduceLT, Nat.reduceLeDiff, Nat.reduceEqDiff, Nat.add_sub_cancel, eq_self_iff_true, L_0, L_1, L_2, L_3, L_4, L_5, L_6, L_7, L_8, L_9, L_10, L_16, L_20, L_21, L_24, L_31, L_64, L_100, L_320, L_400, L_1000, L_256, nI_add, pk_mul, pk_sub, nI_clamp, vp_in_nI, nI_ge, nI_le, nI_lt, nI_nlt, qI_ne, qI_eq, qI_m1, q_all, qI_nm, qI_nm2]
    exact h
  | succ m ih =>
    intro r w hw hr h hb
    have e2 : 2 ^ (m + 1) = 2 * 2 ^ m := by rw [Nat.pow_succ]; omega
    have h1 : nI w &&& 1 = nI (w % 2) := by
      rw [show (1 : Int32) = nI 1 from rfl, q_and, Nat.and_one_is_mod]
    have h2 : nI w >>> ((1 : Int32) &&& 31) = nI (w / 2) := by
      have := q_shr (n := w) (k := 1) (by omega) (by omega)
      exact this
    show wpX3_rotationOfWord_5b Q (wpX3_rotationOfWord_5 Q (m + 1)) (nI r) (nI w)
    unfold wpX3_rotationOfWord_5b
    rw [h1, h2, show (nI w ≤ 1) ↔ w ≤ 1 from nI_leI (b := 1) (by omega) (by omega), show (nI (w % 2) = 0) ↔ w % 2 = 0 from nI_eq (b := 0) (by omega) (by omega), show (240 : Int32) = nI 240 from rfl, show (132 : Int32) = nI 132 from rfl, y_prd hr (by omega), y_prd hr (by omega)]
    unfold rwW at h
    refine ⟨fun h9 => by rw [if_pos h9] at h; exact h, fun h9 => ?_⟩
    rw [if_neg h9] at h
    refine ⟨fun h8 => ?_, fun h8 => ?_⟩
    · rw [if_pos h8] at h
      exact ih _ _ (by omega) (prN_lt hr) h (by omega)
    · rw [if_neg h8] at h
      exact ih _ _ (by omega) (prN_lt hr) h (by omega)
theorem rwW_lt : ∀ (m r w : Nat), r < 1000 → rwW m r w < 1000 := by
  intro m
  induction m with
  | zero => intro r w h; exact h
  | succ m ih =>
    intro r w h
    unfold rwW
    split
    · exact h
    · exact ih _ _ (prN_lt h)
theorem y_wordOf {Q : Int32 → Prop} {e : Nat} (he : e < 1000) (h : Q (nI (woN e))) : wpX3_wordOf Q (nI e) := by
  unfold wpX3_wordOf
  refine pk_loop (σ := Unit) (fun m t _ => wpX3_wordOf_2 Q m (nI e) (nI t)) (fun t _ => woF e (256 - t) t = woN e) 256 1 () (by omega) rfl ?_ ?_
  · intro m s hI
    simp (disch := omega) only [wpX3_wordOf_2, wpX3_wordOf_2b, not_true_eq_false, not_false_eq_true, forall_const, true_implies, false_implies, implies_true, and_true, true_and, and_self, Nat.not_lt_zero, ne_eq, if_true, if_false, reduceIte, Nat.reduceAdd, Nat.reduceMul, Nat.reduceSub, Nat.reduceLT, Nat.reduceLeDiff, Nat.reduceEqDiff, Nat.add_sub_cancel, eq_self_iff_true, L_0, L_1, L_2, L_3, L_4, L_5, L_6, L_7, L_8, L_9, L_10, L_16, L_20, L_21, L_24, L_31, L_64, L_100, L_320, L_400, L_1000, L_256, nI_add, pk_mul, pk_sub, nI_clamp, vp_in_nI, nI_ge, nI_le, nI_lt, nI_nlt, qI_ne, qI_eq, qI_m1, q_all, qI_nm, qI_nm2]
    rw [← hI] at h; exact h
  · intro m t s ht hI hk
    rw [show 256 - t = (256 - (t + 1)) + 1 by omega] at hI
    unfold woF at hI
    simp (disch := omega) only [wpX3_wordOf_2, wpX3_wordOf_2b, not_true_eq_false, not_false_eq_true, forall_const, true_implies, false_implies, implies_true, and_true, true_and, and_self, Nat.not_lt_zero, ne_eq, if_true, if_false, reduceIte, Nat.reduceAdd, Nat.reduceMul, Nat.reduceSub, Nat.reduceLT, Nat.reduceLeDiff, Nat.reduceEqDiff, Nat.add_sub_cancel, eq_self_iff_true, L_0, L_1, L_2, L_3, L_4, L_5, L_6, L_7, L_8, L_9, L_10, L_16, L_20, L_21, L_24, L_31, L_64, L_100, L_320, L_400, L_1000, L_256, nI_add, pk_mul, pk_sub, nI_clamp, vp_in_nI, nI_ge, nI_le, nI_lt, nI_nlt, qI_ne, qI_eq, qI_m1, q_all, qI_nm, qI_nm2]
    have hr9 := rwW_lt 8 12 t (by omega)
    refine ⟨9, y_row5 8 12 t (by omega) (by omega) ?_ (by omega)⟩
    show (nI (rwdN t) = nI e → _) ∧ (¬ nI (rwdN t) = nI e → _)
    rw [show (nI (rwdN t) = nI e) ↔ rwdN t = e from nI_eq (by unfold rwdN; omega) (by omega)]
    refine ⟨fun h9 => ?_, fun h9 => ?_⟩
    · rw [if_pos h9] at hI; rw [← hI] at h; exact h
    · rw [if_neg h9] at hI; exact hk () hI
theorem y_take {Q : Int32 → Int32 → Int32 → (Nat → Int32) → Prop} {c c2 re wo : Int32} {f f2 : Nat → Int32} {L : List Nat} (hC : CR c2 f2 L) (h : ∀ c' f', HD c' f' (takC L).1 → okF (takC L) → (takC L).1.length ≤ 64 → Q c' (nI (takC L).2) (nI (woN (takC L).2)) f') : wpX3_take Q c2 f2 c re wo f := by
  unfold wpX3_take
  have hc := hC.1
  rw [hc] at hC ⊢
  have hl := hC.2.1
  rw [q_all]
  refine ⟨L.length + 1, ?_⟩
  have key := pk_loopD (σ := Int32 × FS × (Nat → Int32)) (fun m i s => wpX3_take_18 Q (nI L.length) f2 m (nI i - nI 1) s.1 (nI s.2.1.2) wo s.2.2) (fun i s => i ≤ L.length ∧ HD s.1 s.2.2 s.2.1.1 ∧ okF s.2.1 ∧ s.2.1.1.length + i ≤ L.length ∧ s.2.1 = takC (L.drop i)) ?_ ?_ L.length (0, ([], 12), f) ⟨Nat.le_refl _, ⟨rfl, Nat.zero_le _, fun i hi => by simp at hi⟩, ok_0, by simp, by rw [List.drop_length]; rfl⟩
  · exact key
  · intro m s hI
    obtain ⟨-, h1, h2, h3, h4⟩ := hI
    have e9 := (q_e2 h2.2).2.2.1.2.2.2
    simp (disch := omega) only [wpX3_take_18, wpX3_take_18b, neg0, wpX3_take_64, zvX0_count, not_true_eq_false, not_false_eq_true, forall_const, true_implies, false_implies, implies_true, and_true, true_and, and_self, Nat.not_lt_zero, ne_eq, if_true, if_false, reduceIte, Nat.reduceAdd, Nat.reduceMul, Nat.reduceSub, Nat.reduceLT, Nat.reduceLeDiff, Nat.reduceEqDiff, Nat.add_sub_cancel, eq_self_iff_true, L_0, L_1, L_2, L_3, L_4, L_5, L_6, L_7, L_8, L_9, L_10, L_16, L_20, L_21, L_24, L_31, L_64, L_100, L_320, L_400, L_1000, L_256, nI_add, pk_mul, pk_sub, nI_clamp, vp_in_nI, nI_ge, nI_le, nI_lt, nI_nlt, qI_ne, qI_eq, qI_m1, q_all, qI_nm, qI_nm2]
    refine y_wordOf e9 ?_
    rw [List.drop_zero] at h4
    rw [h4] at h1 h2 h3 ⊢
    exact h _ _ h1 h2 (by omega)
  · intro m i s hI hk
    obtain ⟨hi, h1, h2, h3, h4⟩ := hI
    have g1 := hC.2.2 i (by omega)
    have k1 := kN_lt (L.getD i 0)
    have e9 := (q_e2 h2.2).2.2.1.2.2.2
    have et : takC (L.drop i) = rGN (kN (L.getD i 0)) s.2.1 := by
      rw [drop_c (show i < L.length by omega), h4]
      unfold takC; rw [List.reverse_cons, List.foldl_append]; rfl
    simp (disch := omega) only [wpX3_take_18, wpX3_take_18b, sub1, not_true_eq_false, not_false_eq_true, forall_const, true_implies, false_implies, implies_true, and_true, true_and, and_self, Nat.not_lt_zero, ne_eq, if_true, if_false, reduceIte, Nat.reduceAdd, Nat.reduceMul, Nat.reduceSub, Nat.reduceLT, Nat.reduceLeDiff, Nat.reduceEqDiff, Nat.add_sub_cancel, eq_self_iff_true, L_0, L_1, L_2, L_3, L_4, L_5, L_6, L_7, L_8, L_9, L_10, L_16, L_20, L_21, L_24, L_31, L_64, L_100, L_320, L_400, L_1000, L_256, nI_add, pk_mul, pk_sub, nI_clamp, vp_in_nI, nI_ge, nI_le, nI_lt, nI_nlt, qI_ne, qI_eq, qI_m1, q_all, qI_nm, qI_nm2]
    refine y_at hC (i := i) (by omega) ?_
    simp (disch := omega) only [y_k g1.1, not_true_eq_false, not_false_eq_true, forall_const, true_implies, false_implies, implies_true, and_true, true_and, and_self, Nat.not_lt_zero, ne_eq, if_true, if_false, reduceIte, Nat.reduceAdd, Nat.reduceMul, Nat.reduceSub, Nat.reduceLT, Nat.reduceLeDiff, Nat.reduceEqDiff, Nat.add_sub_cancel, eq_self_iff_true, L_0, L_1, L_2, L_3, L_4, L_5, L_6, L_7, L_8, L_9, L_10, L_16, L_20, L_21, L_24, L_31, L_64, L_100, L_320, L_400, L_1000, L_256, nI_add, pk_mul, pk_sub, nI_clamp, vp_in_nI, nI_ge, nI_le, nI_lt, nI_nlt, qI_ne, qI_eq, qI_m1, q_all, qI_nm, qI_nm2]
    rw [nI_eq (by omega) (by omega)]
    refine ⟨fun e3 => ?_, fun e3 => ?_⟩
    · have et2 : takC (L.drop i) = rTN s.2.1 := by rw [et]; unfold rGN; rw [if_pos e3]
      refine y_takeT h1 h2 (by omega) (fun c' f' h' => ?_)
      rw [m1s]
      refine hk (c', rTN s.2.1, f') ⟨by omega, h', rT_ok h2, ?_, et2.symm⟩
      show (rTN s.2.1).1.length + i ≤ _
      unfold rTN
      split
      · simp; omega
      · simp; omega
    · have et2 : takC (L.drop i) = (s.2.1.1, prN s.2.1.2 (rhN (kN (L.getD i 0)))) := by rw [et]; unfold rGN; rw [if_neg e3]
      have r9 := (q_e2 (q_e4.1 _ k1)).2.2.1.2.2.2
      rw [y_rh _ k1 e3, y_prd e9 r9, m1s]
      exact hk (s.1, (s.2.1.1, prN s.2.1.2 (rhN (kN (L.getD i 0)))), s.2.2) ⟨by omega, h1, ⟨h2.1, (q_e1 h2.2 (q_e4.1 _ k1)).1⟩, by show s.2.1.1.length + i ≤ _; omega, et2.symm⟩
