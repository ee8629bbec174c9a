/-! The least form, the reference's side: signs, carrying through the rounds. -/
def sI (d : Nat) : Int32 := if d < 3 then nI (d + 1) else -nI (d - 2)
def plF (a b : Int32) : Bool := (decide (zvX7_size2 a = 1) && decide (zvX7_size2 b = 3)) || (decide (zvX7_size2 a = 2) && decide (zvX7_size2 b = 1)) || (decide (zvX7_size2 a = 3) && decide (zvX7_size2 b = 2))
def prF (a b : Int32) : Int32 := if plF a b != (decide (0 ≤ a) != decide (0 ≤ b)) then 6 - zvX7_size2 a - zvX7_size2 b else -(6 - zvX7_size2 a - zvX7_size2 b)
def imF (p lx lz : Int32) : Int32 := if 0 ≤ p then (if zvX7_size2 p = 1 then lx else if zvX7_size2 p = 3 then lz else prF lx lz) else -(if zvX7_size2 p = 1 then lx else if zvX7_size2 p = 3 then lz else prF lx lz)
theorem m_p53 {Q : Int32 → Prop} {a b c y : Int32} (pf : Bool) (hy : y = if pf = true then 1 else 0) (h : Q (if pf != (decide (0 ≤ a) != decide (0 ≤ b)) then c else -c)) : wpX7_product_53 Q a b c y := by
  subst hy
  unfold wpX7_product_53 wpX7_product_64 wpX7_product_73 wpX7_product_81
  by_cases ha : 0 ≤ a
  · by_cases hb : 0 ≤ b
    · cases pf <;> simp [ha, hb] at h ⊢ <;> exact h
    · cases pf <;> simp [ha, hb] at h ⊢ <;> exact h
  · by_cases hb : 0 ≤ b
    · cases pf <;> simp [ha, hb] at h ⊢ <;> exact h
    · cases pf <;> simp [ha, hb] at h ⊢ <;> exact h
theorem m_prod {Q : Int32 → Prop} {a b : Int32} (h : Q (prF a b)) : wpX7_product Q a b := by
  unfold prF at h
  unfold wpX7_product
  rw [q_all]
  have t : plF a b = true → wpX7_product_48 Q a b (6 - zvX7_size2 a - zvX7_size2 b) := fun e => by
    unfold wpX7_product_48
    rw [e] at h; exact m_p53 true rfl h
  have f : plF a b = false → wpX7_product_52 Q a b (6 - zvX7_size2 a - zvX7_size2 b) := fun e => by
    unfold wpX7_product_52
    rw [e] at h; exact m_p53 false rfl h
  unfold plF at t f
  by_cases a1 : zvX7_size2 a = 1
  · by_cases b3 : zvX7_size2 b = 3
    · exact ⟨fun _ => ⟨fun _ => t (by simp [a1, b3]), fun h9 => absurd b3 h9⟩, fun h9 => absurd a1 h9⟩
    · refine ⟨fun _ => ⟨fun h9 => absurd h9 b3, fun _ => ?_⟩, fun h9 => absurd a1 h9⟩
      have h2 : ¬ zvX7_size2 a = 2 := by rw [a1]; decide
      have h3 : ¬ zvX7_size2 a = 3 := by rw [a1]; decide
      unfold wpX7_product_28 wpX7_product_38
      exact ⟨fun h9 => absurd h9 h2, fun _ => ⟨fun h9 => absurd h9 h3, fun _ => f (by simp [a1, b3])⟩⟩
  · refine ⟨fun h9 => absurd h9 a1, fun _ => ?_⟩
    unfold wpX7_product_28 wpX7_product_38
    by_cases a2 : zvX7_size2 a = 2
    · have h3 : ¬ zvX7_size2 a = 3 := by rw [a2]; decide
      by_cases b1 : zvX7_size2 b = 1
      · exact ⟨fun _ => ⟨fun _ => t (by simp [a2, b1]), fun h9 => absurd b1 h9⟩, fun h9 => absurd a2 h9⟩
      · exact ⟨fun _ => ⟨fun h9 => absurd h9 b1, fun _ => ⟨fun h9 => absurd h9 h3, fun _ => f (by simp [a2, b1])⟩⟩, fun h9 => absurd a2 h9⟩
    · refine ⟨fun h9 => absurd h9 a2, fun _ => ?_⟩
      by_cases a3 : zvX7_size2 a = 3
      · by_cases b2 : zvX7_size2 b = 2
        · exact ⟨fun _ => ⟨fun _ => t (by simp [a3, b2]), fun h9 => absurd b2 h9⟩, fun h9 => absurd a3 h9⟩
        · exact ⟨fun _ => ⟨fun h9 => absurd h9 b2, fun _ => f (by simp [a3, b2])⟩, fun h9 => absurd a3 h9⟩
      · exact ⟨fun h9 => absurd h9 a3, fun _ => f (by simp [a1, a2, a3])⟩
theorem m_imF {Q : Int32 → Prop} {p lx lz : Int32} (h : Q (imF p lx lz)) : wpX7_image Q p lx lz := by
  unfold imF at h
  have z41 : ∀ y, y = (if zvX7_size2 p = 1 then lx else if zvX7_size2 p = 3 then lz else prF lx lz) → wpX7_image_41 Q lx lz p y := fun y hy => by
    unfold wpX7_image_41
    rw [← hy] at h
    by_cases hp : 0 ≤ p
    · rw [if_pos hp] at h; exact ⟨fun _ => h, fun h9 => absurd hp h9⟩
    · rw [if_neg hp] at h; exact ⟨fun h9 => absurd h9 hp, fun _ => h⟩
  unfold wpX7_image
  by_cases h1 : zvX7_size2 p = 1
  · exact ⟨fun _ => z41 _ (by rw [if_pos h1]), fun h9 => absurd h1 h9⟩
  · refine ⟨fun h9 => absurd h9 h1, fun _ => ?_⟩
    by_cases h3 : zvX7_size2 p = 3
    · exact ⟨fun _ => z41 _ (by rw [if_neg h1, if_pos h3]), fun h9 => absurd h3 h9⟩
    · exact ⟨fun h9 => absurd h9 h3, fun _ => m_prod (z41 _ (by rw [if_neg h1, if_neg h3]))⟩
theorem imF_ck : (EL.all (fun l => (List.range 6).all (fun d => imF (sI d) (sI (l / 100)) (sI (l % 10)) == sI (imN l d)))) = true := by decide +kernel
theorem m_join {Q : Int32 → Int32 → Prop} {l h : Nat} (hl : l ∈ EL) (hh : h ∈ EL) (hq : Q (sI (prN l h / 100)) (sI (prN l h % 10))) : wpX7_joinLeft Q (sI (l / 100)) (sI (l % 10)) (sI (h / 100)) (sI (h % 10)) := by
  obtain ⟨-, -, ⟨b1, b2, b3, -⟩, -⟩ := q_e2 hh
  obtain ⟨d1, -, d3⟩ := pr_d hl hh
  have ck := List.all_eq_true.mp imF_ck l hl
  simp only [List.all_eq_true, List.mem_range, beq_iff_eq] at ck
  rw [d1, d3] at hq
  unfold wpX7_joinLeft
  exact m_imF (by rw [ck _ b1]; exact m_imF (by rw [ck _ b3]; exact hq))
theorem m_setL {Q : Int32 → Int32 → Prop} {k : Nat} {x y : Int32} (hk : k < 10) (hq : Q (sI (rhN k / 100)) (sI (rhN k % 10))) : wpX7_setLeft Q (nI k) x y := by
  have c1 : (nI k = 1) ↔ k = 1 := nI_eq (b := 1) (by omega) (by omega)
  have c2 : (nI k = 2) ↔ k = 2 := nI_eq (b := 2) (by omega) (by omega)
  have c4 : (nI k = 4) ↔ k = 4 := nI_eq (b := 4) (by omega) (by omega)
  have c5 : (nI k = 5) ↔ k = 5 := nI_eq (b := 5) (by omega) (by omega)
  unfold wpX7_setLeft wpX7_setLeft_29
  simp only [c1, c2, c4, c5]
  by_cases e1 : k = 1
  · subst e1; exact ⟨fun _ => ⟨fun _ => hq, fun h => absurd rfl h⟩, fun h => absurd rfl h⟩
  · refine ⟨fun h => absurd h e1, fun _ => ?_⟩
    by_cases e2 : k = 2
    · subst e2; exact ⟨fun _ => ⟨fun h => absurd h (by decide), fun _ => ⟨fun h => absurd h (by decide), fun _ => hq⟩⟩, fun h => absurd rfl h⟩
    · refine ⟨fun h => absurd h e2, fun _ => ?_⟩
      by_cases e5 : k = 5
      · subst e5; exact ⟨fun _ => ⟨fun h => absurd h (by decide), fun _ => ⟨fun h => absurd h (by decide), fun _ => hq⟩⟩, fun h => absurd rfl h⟩
      · refine ⟨fun h => absurd h e5, fun _ => ⟨fun h => absurd h e1, fun _ => ?_⟩⟩
        by_cases e4 : k = 4
        · subst e4; exact ⟨fun _ => hq, fun h => absurd rfl h⟩
        · refine ⟨fun h => absurd h e4, fun _ => ?_⟩
          unfold rhN at hq
          rw [if_neg e1, if_neg e2, if_neg e4, if_neg e5] at hq
          exact hq
theorem S_el : 132 ∈ EL := q_e4.2.2.1
theorem H_el : 240 ∈ EL := by decide
theorem m_jbs {Q : Int32 → Int32 → Int32 → Int32 → Prop} {h : Nat} {x y : Int32} (hh : h ∈ EL) (hq : ∀ u v, Q (sI (prN 402 h / 100)) (sI (prN 402 h % 10)) u v) : wpX7_joinBackS Q (sI (h / 100)) (sI (h % 10)) x y := by
  have e : prN 132 (prN 132 (prN 132 h)) = prN 402 h := by
    rw [← q_as S_el S_el (q_e1 S_el hh).1, ← q_as (q_e1 S_el S_el).1 S_el hh]; rfl
  rw [← e] at hq
  unfold wpX7_joinBackS
  refine m_setL (k := 2) (by omega) ?_
  exact m_join (l := 132) S_el hh (m_join (l := 132) S_el (q_e1 S_el hh).1 (m_join (l := 132) S_el (q_e1 S_el (q_e1 S_el hh).1).1 (hq _ _)))
theorem m_tr {Q : Int32 → Int32 → Int32 → Int32 → Prop} {h k : Nat} {x y : Int32} (hh : h ∈ EL) (hk : k = 1 ∨ k = 2) (hq : ∀ u v, Q (sI (prN h (rhN k) / 100)) (sI (prN h (rhN k) % 10)) u v) : wpX7_timesRight Q (nI k) (sI (h / 100)) (sI (h % 10)) x y := by
  unfold wpX7_timesRight wpX7_timesRight_36
  rcases hk with rfl | rfl
  · refine ⟨fun _ => ⟨fun _ => ?_, fun h9 => absurd rfl h9⟩, fun h9 => absurd rfl h9⟩
    exact m_join (h := 240) hh H_el (hq _ _)
  · refine ⟨fun h9 => absurd h9 (by decide), fun _ => ⟨fun _ => ⟨fun h9 => absurd h9 (by decide), fun _ => ?_⟩, fun h9 => absurd rfl h9⟩⟩
    exact m_join (h := 132) hh S_el (hq _ _)
def HM (f : Nat → Int32) (H : List Nat) : Prop := ∀ i, i < H.length → H.getD i 0 < 3 ∧ f i = nI (H.getD i 0)
theorem sz_ck : (List.range 6).all (fun d => zvX7_size2 (sI d) == nI (d % 3 + 1) && (decide (0 ≤ sI d) == decide (d < 3))) = true := by decide +kernel
theorem sz_d {d : Nat} (hd : d < 6) : zvX7_size2 (sI d) = nI (d % 3 + 1) ∧ (0 ≤ sI d ↔ d < 3) := by
  have h := List.all_eq_true.mp sz_ck d (List.mem_range.mpr hd)
  simp only [Bool.and_eq_true, beq_iff_eq] at h
  refine ⟨h.1, ?_⟩
  have h2 := h.2
  rw [Bool.eq_iff_iff] at h2; simpa using h2
theorem ax_ck : (EL.all (fun y => prN (baN (heN y)) y % 10 == 2 || prN (baN (heN y)) y % 10 == 5)) = true := by decide +kernel
theorem m_carry {Q : Int32 → Int32 → Int32 → Int32 → Int32 → Int32 → (Nat → Int32) → Prop} {c e : Nat} {H : List Nat} {lx lz : Int32} {f : Nat → Int32} (hc : c ∈ EL) (he : e ∈ EL) (hH : HM f H) (hl : H.length ≤ 390)
    (hq : ∀ u1 u2 u3 u4 f', HM f' (lCN c (H, e)).1 → Q u1 u2 u3 u4 (sI ((lCN c (H, e)).2 / 100)) (sI ((lCN c (H, e)).2 % 10)) f') : wpX7_carry Q 0 (nI H.length) (sI (c / 100)) (sI (c % 10)) lx lz (sI (e / 100)) (sI (e % 10)) f := by
  have h3 : ∀ h ∈ H, h < 3 := fun h hh => by
    obtain ⟨i, hi, ei⟩ := g_of (d := 0) hh
    rw [← ei]; exact (hH i hi).1
  unfold wpX7_carry
  refine pk_loop (σ := Nat × Int32 × Int32 × (Nat → Int32)) (fun m i s => wpX7_carry_2 Q (nI H.length) m (nI i) (sI (s.1 / 100)) (sI (s.1 % 10)) s.2.1 s.2.2.1 (sI (e / 100)) (sI (e % 10)) s.2.2.2) (fun i s => s.1 = (caN2 c (H.take i)).2 ∧ ∀ j, j < H.length → s.2.2.2 j = if j < i then nI ((caN2 c (H.take i)).1.getD j 0) else nI (H.getD j 0)) H.length 0 (c, lx, lz, f) (Nat.zero_le _) ⟨rfl, fun j hj => by rw [if_neg (by omega)]; exact (hH j hj).2⟩ ?_ ?_
  · intro m s hI
    obtain ⟨h1, h2⟩ := hI
    rw [List.take_length] at h1 h2
    obtain ⟨a1, a2, a3⟩ := ca_ok hc h3
    simp (disch := omega) only [wpX7_carry_2, wpX7_carry_2b, wpX7_carry_135, not_true_eq_false, not_false_eq_true, forall_const, true_implies, false_implies, implies_true, and_true, true_and, and_self, Nat.not_lt_zero, ne_eq, if_true, if_false, reduceIte, Nat.reduceAdd, Nat.reduceMul, Nat.reduceSub, Nat.reduceLT, Nat.reduceLeDiff, Nat.reduceEqDiff, Nat.add_sub_cancel, eq_self_iff_true, L_0, L_1, L_2, L_3, L_4, L_5, L_6, L_7, L_8, L_9, L_10, L_16, L_20, L_21, L_24, L_31, L_64, L_100, L_320, L_400, L_1000, L_256, nI_add, pk_mul, pk_sub, nI_clamp, vp_in_nI, nI_ge, nI_le, nI_lt, nI_nlt, qI_ne, qI_eq, qI_m1, q_all, qI_nm, qI_nm2]
    rw [h1]
    refine m_join a1 he (hq _ _ _ _ _ (fun j hj => ?_))
    have hj : j < (caN2 c H).1.length := hj
    show (caN2 c H).1.getD j 0 < 3 ∧ _ = nI ((caN2 c H).1.getD j 0)
    refine ⟨a2 _ (g_mem hj), ?_⟩
    rw [h2 j (by omega), if_pos (by omega)]
  · intro m i s hi hI hk
    obtain ⟨h1, h2⟩ := hI
    have ht3 : ∀ h ∈ H.take i, h < 3 := fun h hh => h3 h (List.mem_of_mem_take hh)
    obtain ⟨a1, a2, a3⟩ := ca_ok hc ht3
    have a3 : (caN2 c (H.take i)).1.length = i := by rw [a3, List.length_take]; omega
    rw [← h1] at a1
    have hh := (hH i hi).1
    have hfi := h2 i hi
    rw [if_neg (by omega)] at hfi
    have et : caN2 c (H.take (i + 1)) = ((caN2 c (H.take i)).1 ++ [(stpN s.1 (H.getD i 0)).1], (stpN s.1 (H.getD i 0)).2) := by
      rw [g_take (d := 0) hi, ca_ap, ← h1]
    have hro := (q_e4.2.1 _ hh).1
    have hy := (q_e1 a1 hro).1
    have es1 : (stpN s.1 (H.getD i 0)).1 = heN (prN s.1 (roN (H.getD i 0))) := rfl
    have es2 : (stpN s.1 (H.getD i 0)).2 = inN (prN s.1 (roN (H.getD i 0))) := rfl
    have er : prN s.1 (roN (H.getD i 0)) = if H.getD i 0 = 0 then s.1 else if H.getD i 0 = 1 then prN s.1 240 else prN (prN s.1 132) 240 := by
      rcases (show H.getD i 0 = 0 ∨ H.getD i 0 = 1 ∨ H.getD i 0 = 2 by omega) with e | e | e
      · rw [e]; exact (q_e2 a1).2.2.2.2.1
      · rw [e]; rfl
      · rw [e]; exact (q_as a1 S_el H_el).symm
    obtain ⟨g1, g2, ⟨-, -, y6, -⟩, g12, -⟩ := q_e2 hy
    generalize prN s.1 (roN (H.getD i 0)) = y at er hy es1 es2 g1 g2 y6 g12
    have hax := List.all_eq_true.mp ax_ck y hy
    simp only [Bool.or_eq_true, beq_iff_eq] at hax
    have hba := (q_e4.2.1 _ g1).2
    have hw := (q_e1 hba hy).1
    have w6 := (q_e2 hw).2.2.1.2.2.1
    have z118 : ∀ u v, wpX7_carry_118 Q (wpX7_carry_2 Q (nI H.length) m) (nI H.length) (nI i) (sI (prN (baN (heN y)) y / 100)) (sI (prN (baN (heN y)) y % 10)) u v (sI (e / 100)) (sI (e % 10)) (upd s.2.2.2 i (nI (heN y))) := fun u v => by
      have go : ∀ x u v, x = inN y → wpX7_carry_2 Q (nI H.length) m (nI i + 1) (sI (x / 100)) (sI (x % 10)) u v (sI (e / 100)) (sI (e % 10)) (upd s.2.2.2 i (nI (heN y))) := fun x u v hx => by
        rw [nI_1]
        refine hk (x, u, v, upd s.2.2.2 i (nI (heN y))) ⟨?_, fun j hj => ?_⟩
        · rw [et]; show x = _; rw [hx, ← es2]
        · rw [et]
          show upd s.2.2.2 i (nI (heN y)) j = if j < i + 1 then nI (((caN2 c (H.take i)).1 ++ [(stpN s.1 (H.getD i 0)).1]).getD j 0) else nI (H.getD j 0)
          by_cases ej : j = i
          · rw [ej, pk_us, if_pos (by omega), g_hi (by omega), a3, es1]; simp
          · rw [pk_un ej, h2 j hj]
            by_cases ej2 : j < i
            · rw [if_pos ej2, if_pos (by omega), g_lo (by omega)]
            · rw [if_neg ej2, if_neg (by omega)]
      unfold wpX7_carry_118
      rw [(sz_d w6).2]
      unfold inN at go
      refine ⟨fun h9 => go _ _ _ (by rw [if_pos (by omega)]), fun h9 => m_jbs hw (fun u v => go _ _ _ (by rw [if_neg (by omega)]))⟩
    have z100 : ∀ x u v, x ∈ EL → (heN y = 0 → x = prN (baN (heN y)) y) → (heN y ≠ 0 → prN 240 x = prN (baN (heN y)) y) → wpX7_carry_100 Q (wpX7_carry_2 Q (nI H.length) m) (nI H.length) (nI i) (sI (x / 100)) (sI (x % 10)) u v (sI (e / 100)) (sI (e % 10)) (upd s.2.2.2 i (nI (heN y))) := fun x u v hx hx0 hx1 => by
      unfold wpX7_carry_100
      refine ⟨vp_in_nI (by omega) (by omega), ?_⟩
      rw [nI_clamp (by omega), pk_us, show (nI (heN y) ≤ 0) ↔ heN y ≤ 0 from nI_leI (b := 0) (by omega) (by omega)]
      refine ⟨fun h9 => ?_, fun h9 => ?_⟩
      · rw [hx0 (by omega)]; exact z118 u v
      · refine m_setL (k := 1) (by omega) ?_
        refine m_join (l := 240) H_el hx ?_
        rw [hx1 (by omega)]; exact z118 _ _
    have z85 : ∀ u v, wpX7_carry_85 Q (wpX7_carry_2 Q (nI H.length) m) (nI H.length) (nI i) (nI i) (nI (heN y)) (sI (y / 100)) (sI (y % 10)) u v (sI (e / 100)) (sI (e % 10)) s.2.2.2 := fun u v => by
      unfold wpX7_carry_85
      refine ⟨vp_in_nI (by omega) (by omega), vp_in_nI (by omega) (by omega), ?_⟩
      rw [nI_clamp (by omega), pk_us, show (nI (heN y) = 2) ↔ heN y = 2 from nI_eq (b := 2) (by omega) (by omega)]
      refine ⟨fun h9 => m_jbs hy (fun u v => z100 _ _ _ (q_e1 q_e4.2.2.2.1 hy).1 (fun h8 => by omega) (fun _ => ?_)), fun h9 => z100 _ _ _ hy (fun h8 => ?_) (fun h8 => ?_)⟩
      · rw [h9]; exact (q_as H_el q_e4.2.2.2.1 hy).symm
      · rw [h8]; exact g12.symm
      · rw [show heN y = 1 by omega]; rfl
    have z50 : ∀ u v, wpX7_carry_50 Q (wpX7_carry_2 Q (nI H.length) m) (nI H.length) (nI i) (sI (y / 100)) (sI (y % 10)) u v (sI (e / 100)) (sI (e % 10)) s.2.2.2 := fun u v => by
      have z := z85 u v
      unfold heN at z
      unfold wpX7_carry_50
      rw [(sz_d y6).1, show (nI (y % 10 % 3 + 1) = 3) ↔ y % 10 % 3 = 2 from (nI_eq (b := 3) (by omega) (by omega)).trans (by omega), show (nI (y % 10 % 3 + 1) = 1) ↔ y % 10 % 3 = 0 from (nI_eq (b := 1) (by omega) (by omega)).trans (by omega)]
      refine ⟨fun h9 => ?_, fun h9 => ⟨fun h8 => ?_, fun h8 => ?_⟩⟩
      · rw [if_pos h9] at z; exact z
      · rw [if_neg h9, if_pos h8] at z; exact z
      · rw [if_neg h9, if_neg h8] at z; exact z
    simp (disch := omega) only [wpX7_carry_2, wpX7_carry_2b, hfi, wpX7_carry_36, not_true_eq_false, not_false_eq_true, forall_const, true_implies, false_implies, implies_true, and_true, true_and, and_self, Nat.not_lt_zero, ne_eq, if_true, if_false, reduceIte, Nat.reduceAdd, Nat.reduceMul, Nat.reduceSub, Nat.reduceLT, Nat.reduceLeDiff, Nat.reduceEqDiff, Nat.add_sub_cancel, eq_self_iff_true, L_0, L_1, L_2, L_3, L_4, L_5, L_6, L_7, L_8, L_9, L_10, L_16, L_20, L_21, L_24, L_31, L_64, L_100, L_320, L_400, L_1000, L_256, nI_add, pk_mul, pk_sub, nI_clamp, vp_in_nI, nI_ge, nI_le, nI_lt, nI_nlt, qI_ne, qI_eq, qI_m1, q_all, qI_nm, qI_nm2]
    rcases (show H.getD i 0 = 0 ∨ H.getD i 0 = 1 ∨ H.getD i 0 = 2 by omega) with e0 | e0 | e0
    · rw [if_pos e0] at er
      simp (disch := omega) only [e0, not_true_eq_false, not_false_eq_true, forall_const, true_implies, false_implies, implies_true, and_true, true_and, and_self, Nat.not_lt_zero, ne_eq, if_true, if_false, reduceIte, Nat.reduceAdd, Nat.reduceMul, Nat.reduceSub, Nat.reduceLT, Nat.reduceLeDiff, Nat.reduceEqDiff, Nat.add_sub_cancel, eq_self_iff_true, L_0, L_1, L_2, L_3, L_4, L_5, L_6, L_7, L_8, L_9, L_10, L_16, L_20, L_21, L_24, L_31, L_64, L_100, L_320, L_400, L_1000, L_256, nI_add, pk_mul, pk_sub, nI_clamp, vp_in_nI, nI_ge, nI_le, nI_lt, nI_nlt, qI_ne, qI_eq, qI_m1, q_all, qI_nm, qI_nm2]
      rw [← er]; exact z50 _ _
    · rw [if_neg (by omega), if_pos e0] at er
      simp (disch := omega) only [e0, not_true_eq_false, not_false_eq_true, forall_const, true_implies, false_implies, implies_true, and_true, true_and, and_self, Nat.not_lt_zero, ne_eq, if_true, if_false, reduceIte, Nat.reduceAdd, Nat.reduceMul, Nat.reduceSub, Nat.reduceLT, Nat.reduceLeDiff, Nat.reduceEqDiff, Nat.add_sub_cancel, eq_self_iff_true, L_0, L_1, L_2, L_3, L_4, L_5, L_6, L_7, L_8, L_9, L_10, L_16, L_20, L_21, L_24, L_31, L_64, L_100, L_320, L_400, L_1000, L_256, nI_add, pk_mul, pk_sub, nI_clamp, vp_in_nI, nI_ge, nI_le, nI_lt, nI_nlt, qI_ne, qI_eq, qI_m1, q_all, qI_nm, qI_nm2]
      refine m_tr a1 (Or.inl rfl) (fun u v => ?_)
      rw [show prN s.1 (rhN 1) = y from er.symm]; exact z50 _ _
    · rw [if_neg (by omega), if_neg (by omega)] at er
      simp (disch := omega) only [e0, not_true_eq_false, not_false_eq_true, forall_const, true_implies, false_implies, implies_true, and_true, true_and, and_self, Nat.not_lt_zero, ne_eq, if_true, if_false, reduceIte, Nat.reduceAdd, Nat.reduceMul, Nat.reduceSub, Nat.reduceLT, Nat.reduceLeDiff, Nat.reduceEqDiff, Nat.add_sub_cancel, eq_self_iff_true, L_0, L_1, L_2, L_3, L_4, L_5, L_6, L_7, L_8, L_9, L_10, L_16, L_20, L_21, L_24, L_31, L_64, L_100, L_320, L_400, L_1000, L_256, nI_add, pk_mul, pk_sub, nI_clamp, vp_in_nI, nI_ge, nI_le, nI_lt, nI_nlt, qI_ne, qI_eq, qI_m1, q_all, qI_nm, qI_nm2]
      refine m_tr a1 (Or.inr rfl) (fun u v => ?_)
      refine m_tr (q_e1 a1 S_el).1 (Or.inl rfl) (fun u v => ?_)
      rw [show prN (prN s.1 (rhN 2)) (rhN 1) = y from er.symm]; exact z50 _ _
theorem m_addR {Q : Int32 → (Nat → Int32) → Prop} {H : List Nat} {f : Nat → Int32} (hH : HM f H) (hl : H.length ≤ 390) (hq : ∀ f', HM f' (0 :: H) → Q (nI (H.length + 1)) f') : wpX7_addRound Q (nI H.length) f := by
  unfold wpX7_addRound
  refine ⟨H.length + 1, ?_⟩
  refine pk_loopD (σ := Nat → Int32) (fun m i s => wpX7_addRound_5 Q m (nI i) (nI H.length) s) (fun i s => i ≤ H.length ∧ ∀ j, j ≤ H.length → (j < i → s j = f j) ∧ (i < j → s j = f (j - 1)) ∧ (j = i → i < H.length → s j = f j)) ?_ ?_ H.length f ⟨Nat.le_refl _, fun j hj => ⟨fun _ => rfl, fun h9 => by omega, fun _ _ => rfl⟩⟩
  · intro m s hI
    simp (disch := omega) only [wpX7_addRound_5, wpX7_addRound_5b, not_true_eq_false, not_false_eq_true, forall_const, true_implies, false_implies, implies_true, and_true, true_and, and_self, Nat.not_lt_zero, ne_eq, if_true, if_false, reduceIte, Nat.reduceAdd, Nat.reduceMul, Nat.reduceSub, Nat.reduceLT, Nat.reduceLeDiff, Nat.reduceEqDiff, Nat.add_sub_cancel, eq_self_iff_true, L_0, L_1, L_2, L_3, L_4, L_5, L_6, L_7, L_8, L_9, L_10, L_16, L_20, L_21, L_24, L_31, L_64, L_100, L_320, L_400, L_1000, L_256, nI_add, pk_mul, pk_sub, nI_clamp, vp_in_nI, nI_ge, nI_le, nI_lt, nI_nlt, qI_ne, qI_eq, qI_m1, q_all, qI_nm, qI_nm2]
    refine hq _ (fun j hj => ?_)
    cases j with
    | zero => rw [pk_us]; exact ⟨(by show 0 < 3; omega), rfl⟩
    | succ j =>
      have hj : j < H.length := by simpa using hj
      rw [pk_un (by omega)]
      have h1 := (hI.2 (j + 1) (by omega)).2.1 (by omega)
      rw [h1]
      exact hH j hj
  · intro m i s hI hk
    obtain ⟨hi, hI⟩ := hI
    simp (disch := omega) only [wpX7_addRound_5, wpX7_addRound_5b, not_true_eq_false, not_false_eq_true, forall_const, true_implies, false_implies, implies_true, and_true, true_and, and_self, Nat.not_lt_zero, ne_eq, if_true, if_false, reduceIte, Nat.reduceAdd, Nat.reduceMul, Nat.reduceSub, Nat.reduceLT, Nat.reduceLeDiff, Nat.reduceEqDiff, Nat.add_sub_cancel, eq_self_iff_true, L_0, L_1, L_2, L_3, L_4, L_5, L_6, L_7, L_8, L_9, L_10, L_16, L_20, L_21, L_24, L_31, L_64, L_100, L_320, L_400, L_1000, L_256, nI_add, pk_mul, pk_sub, nI_clamp, vp_in_nI, nI_ge, nI_le, nI_lt, nI_nlt, qI_ne, qI_eq, qI_m1, q_all, qI_nm, qI_nm2]
    refine hk _ ⟨by omega, fun j hj => ⟨fun h9 => ?_, fun h9 => ?_, fun h9 h8 => ?_⟩⟩
    · rw [pk_un (by omega)]; exact (hI j hj).1 (by omega)
    · by_cases ej : j = i + 1
      · rw [ej, pk_us, show i + 1 - 1 = i from rfl]; exact (hI i (by omega)).1 (by omega)
      · rw [pk_un ej]; exact (hI j hj).2.1 (by omega)
    · rw [pk_un (by omega)]; exact (hI j hj).1 (by omega)
theorem m_dropR {Q : Int32 → (Nat → Int32) → Prop} {h : Nat} {H : List Nat} {f : Nat → Int32} (hH : HM f (h :: H)) (hl : H.length ≤ 390) (hq : ∀ f', HM f' H → Q (nI H.length) f') : wpX7_dropRound Q (nI (H.length + 1)) f := by
  unfold wpX7_dropRound
  simp (disch := omega) only [not_true_eq_false, not_false_eq_true, forall_const, true_implies, false_implies, implies_true, and_true, true_and, and_self, Nat.not_lt_zero, ne_eq, if_true, if_false, reduceIte, Nat.reduceAdd, Nat.reduceMul, Nat.reduceSub, Nat.reduceLT, Nat.reduceLeDiff, Nat.reduceEqDiff, Nat.add_sub_cancel, eq_self_iff_true, L_0, L_1, L_2, L_3, L_4, L_5, L_6, L_7, L_8, L_9, L_10, L_16, L_20, L_21, L_24, L_31, L_64, L_100, L_320, L_400, L_1000, L_256, nI_add, pk_mul, pk_sub, nI_clamp, vp_in_nI, nI_ge, nI_le, nI_lt, nI_nlt, qI_ne, qI_eq, qI_m1, q_all, qI_nm, qI_nm2]
  refine pk_loop (σ := Nat → Int32) (fun m i s => wpX7_dropRound_12 Q m (nI i) (nI H.length) s) (fun i s => ∀ j, j ≤ H.length → (j < i → s j = f (j + 1)) ∧ (i ≤ j → s j = f j)) H.length 0 f (Nat.zero_le _) (fun j _ => ⟨fun h9 => absurd h9 (Nat.not_lt_zero _), fun _ => rfl⟩) ?_ ?_
  · intro m s hI
    simp (disch := omega) only [wpX7_dropRound_12, wpX7_dropRound_12b, not_true_eq_false, not_false_eq_true, forall_const, true_implies, false_implies, implies_true, and_true, true_and, and_self, Nat.not_lt_zero, ne_eq, if_true, if_false, reduceIte, Nat.reduceAdd, Nat.reduceMul, Nat.reduceSub, Nat.reduceLT, Nat.reduceLeDiff, Nat.reduceEqDiff, Nat.add_sub_cancel, eq_self_iff_true, L_0, L_1, L_2, L_3, L_4, L_5, L_6, L_7, L_8, L_9, L_10, L_16, L_20, L_21, L_24, L_31, L_64, L_100, L_320, L_400, L_1000, L_256, nI_add, pk_mul, pk_sub, nI_clamp, vp_in_nI, nI_ge, nI_le, nI_lt, nI_nlt, qI_ne, qI_eq, qI_m1, q_all, qI_nm, qI_nm2]
    refine hq _ (fun j hj => ?_)
    rw [(hI j (by omega)).1 hj]
    exact hH (j + 1) (by simp; exact hj)
  · intro m i s hi hI hk
    simp (disch := omega) only [wpX7_dropRound_12, wpX7_dropRound_12b, not_true_eq_false, not_false_eq_true, forall_const, true_implies, false_implies, implies_true, and_true, true_and, and_self, Nat.not_lt_zero, ne_eq, if_true, if_false, reduceIte, Nat.reduceAdd, Nat.reduceMul, Nat.reduceSub, Nat.reduceLT, Nat.reduceLeDiff, Nat.reduceEqDiff, Nat.add_sub_cancel, eq_self_iff_true, L_0, L_1, L_2, L_3, L_4, L_5, L_6, L_7, L_8, L_9, L_10, L_16, L_20, L_21, L_24, L_31, L_64, L_100, L_320, L_400, L_1000, L_256, nI_add, pk_mul, pk_sub, nI_clamp, vp_in_nI, nI_ge, nI_le, nI_lt, nI_nlt, qI_ne, qI_eq, qI_m1, q_all, qI_nm, qI_nm2]
    refine hk _ (fun j hj => ⟨fun h9 => ?_, fun h9 => ?_⟩)
    · by_cases ej : j = i
      · rw [ej, pk_us]; exact (hI (i + 1) (by omega)).2 (by omega)
      · rw [pk_un ej]; exact (hI j hj).1 (by omega)
    · rw [pk_un (by omega)]; exact (hI j hj).2 (by omega)
theorem m_takeG {Q : Int32 → Int32 → Int32 → Int32 → Int32 → Int32 → Int32 → (Nat → Int32) → Prop} {k : Nat} {x : FS} {hx hz lx lz : Int32} {f : Nat → Int32} (hk : k < 10) (hok : okF x) (hH : HM f x.1) (hl : x.1.length ≤ 380)
    (hq : ∀ u1 u2 u3 u4 f', HM f' (lGN k x).1 → Q (nI (lGN k x).1.length) u1 u2 u3 u4 (sI ((lGN k x).2 / 100)) (sI ((lGN k x).2 % 10)) f') : wpX7_takeGate Q (nI k) (nI x.1.length) hx hz lx lz (sI (x.2 / 100)) (sI (x.2 % 10)) f := by
  obtain ⟨H, e⟩ := x
  obtain ⟨h1, h2⟩ := hok
  simp only at h1 h2 hH hl ⊢
  unfold wpX7_takeGate
  rw [show (nI k = 3) ↔ k = 3 from nI_eq (b := 3) (by omega) (by omega)]
  refine ⟨fun e3 => ?_, fun e3 => ?_⟩
  · unfold lGN at hq
    rw [if_pos e3] at hq
    cases H with
    | nil =>
      rw [lT_n (fun u h => by cases h)] at hq
      refine ⟨fun _ => m_addR hH (by simp) (fun f' h' => hq _ _ _ _ _ h'), fun h9 => absurd (by decide) h9⟩
    | cons h H =>
      have hH0 := hH 0 (by simp)
      have e0 : (h :: H).getD 0 0 = h := rfl
      rw [e0] at hH0
      refine ⟨fun h9 => absurd h9 (nI_nle (by simp) (by simp at hl ⊢; omega)), fun _ => ⟨vp_in_nI (n := 0) (by omega) (by omega), ?_⟩⟩
      rw [show (0 : Int32).toNatClampNeg = 0 from rfl, hH0.2, show (nI h = 0) ↔ h = 0 from nI_eq (b := 0) (by omega) (by omega)]
      refine ⟨fun h9 => ?_, fun h9 => ?_⟩
      · subst h9
        rw [lT_0] at hq
        refine m_dropR hH (by simp at hl; omega) (fun f' h' => ?_)
        refine m_setL (k := 2) (by omega) ?_
        have hlc : (lCN 132 (H, e)).1.length = H.length := (ca_ok S_el (fun z hz => h1 z (List.mem_cons_of_mem _ hz))).2.2
        refine m_carry (c := 132) S_el h2 h' (by simp at hl; omega) (fun u1 u2 u3 u4 f2 h2' => ?_)
        have h9 := hq u1 u2 u3 u4 f2 h2'
        rw [hlc] at h9; exact h9
      · rw [lT_n (fun u hu => h9 (List.cons.inj hu).1)] at hq
        exact m_addR hH (by omega) (fun f' h' => hq _ _ _ _ _ h')
  · unfold lGN at hq
    rw [if_neg e3] at hq
    refine m_setL hk ?_
    have hlc : (lCN (rhN k) (H, e)).1.length = H.length := (ca_ok (q_e4.1 k hk) h1).2.2
    refine m_carry (q_e4.1 k hk) h2 hH (by omega) (fun u1 u2 u3 u4 f2 h2' => ?_)
    have h9 := hq u1 u2 u3 u4 f2 h2'
    rw [hlc] at h9; exact h9
