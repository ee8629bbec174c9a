/-! The least form in numbers: 24 rotations, heads; acting from both sides. -/
def imN (r s : Nat) : Nat := if 3 ≤ s then ((if s % 3 = 0 then r / 100 else if s % 3 = 1 then r / 10 % 10 else r % 10) + 3) % 6 else (if s % 3 = 0 then r / 100 else if s % 3 = 1 then r / 10 % 10 else r % 10)
def prN (o i : Nat) : Nat := 100 * imN o (i / 100) + 10 * imN o (i / 10 % 10) + imN o (i % 10)
def EL : List Nat := [12, 240, 132, 201, 450, 342, 24, 213, 51, 510, 402, 120, 45, 234, 153, 531, 321, 105, 435, 354, 543, 504, 423, 315]
def heN (r : Nat) : Nat := if r % 10 % 3 = 2 then 0 else if r % 10 % 3 = 0 then 1 else 2
def baN (h : Nat) : Nat := if h = 0 then 12 else if h = 1 then 240 else prN 240 402
def roN (h : Nat) : Nat := if h = 0 then 12 else if h = 1 then 240 else prN 132 240
def inN (e : Nat) : Nat := if prN (baN (heN e)) e % 10 = 2 then prN (baN (heN e)) e else prN 402 (prN (baN (heN e)) e)
def rhN (k : Nat) : Nat := if k = 1 then 240 else if k = 2 then 132 else if k = 4 then 45 else if k = 5 then 342 else 12
def stpN (c h : Nat) : Nat × Nat := (heN (prN c (roN h)), inN (prN c (roN h)))
abbrev FS : Type := List Nat × Nat
def rTN (x : FS) : FS := if heN x.2 = 0 ∧ x.1 ≠ [] then (x.1.dropLast, prN (prN (roN (x.1.getLastD 0)) 132) (inN x.2)) else (x.1 ++ [heN x.2], inN x.2)
def rGN (k : Nat) (x : FS) : FS := if k = 3 then rTN x else (x.1, prN x.2 (rhN k))
def caN2 (c : Nat) : List Nat → List Nat × Nat
  | [] => ([], c)
  | h :: t => ((stpN c h).1 :: (caN2 (stpN c h).2 t).1, (caN2 (stpN c h).2 t).2)
def lCN (c : Nat) (x : FS) : FS := ((caN2 c x.1).1, prN (caN2 c x.1).2 x.2)
def lTN (x : FS) : FS := match x.1 with
  | 0 :: t => lCN 132 (t, x.2)
  | hs => (0 :: hs, x.2)
def lGN (k : Nat) (x : FS) : FS := if k = 3 then lTN x else lCN (rhN k) x
def takC (L : List Nat) : FS := L.reverse.foldl (fun s g => rGN (kN g) s) ([], 12)
def takM (L : List Nat) : FS := L.foldl (fun s g => lGN (kN g) s) ([], 12)
theorem ck1 : (EL.all (fun a => EL.all (fun b => EL.contains (prN a b) && (List.range 6).all (fun s => imN (prN a b) s == imN a (imN b s)) && heN (prN a b) == (stpN a (heN b)).1 && inN (prN a b) == prN (stpN a (heN b)).2 (inN b)))) = true := by decide +kernel
theorem ck2 : (EL.all (fun e => decide (heN e < 3) && EL.contains (inN e) && decide (e / 100 < 6) && decide (e / 10 % 10 < 6) && decide (e % 10 < 6) && decide (e < 1000) && prN 12 e == e && prN e 12 == e && (heN e != 0 || heN (prN 132 e) == 0 && inN (prN 132 e) == prN 132 (inN e)))) = true := by decide +kernel
theorem ck3 : (EL.all (fun c => (List.range 3).all (fun h => EL.contains (stpN c h).2 && decide ((stpN c h).1 < 3) && EL.all (fun e => (heN (prN (stpN c h).2 e) == 0) == (heN e == 0) && (heN e != 0 || prN c (prN (prN (roN h) 132) (inN e)) == prN (prN (roN (stpN c h).1) 132) (inN (prN (stpN c h).2 e))))))) = true := by decide +kernel
theorem ck4 : ((List.range 10).all (fun k => EL.contains (rhN k)) && (List.range 3).all (fun h => EL.contains (roN h) && EL.contains (baN h)) && EL.contains 132 && EL.contains 402 && EL.contains 12) = true := by decide +kernel
theorem q_e1 {a b : Nat} (ha : a ∈ EL) (hb : b ∈ EL) : prN a b ∈ EL ∧ (∀ s, s < 6 → imN (prN a b) s = imN a (imN b s)) ∧ heN (prN a b) = (stpN a (heN b)).1 ∧ inN (prN a b) = prN (stpN a (heN b)).2 (inN b) := by
  have h := List.all_eq_true.mp (List.all_eq_true.mp ck1 a ha) b hb
  simp only [Bool.and_eq_true, List.all_eq_true, List.mem_range, beq_iff_eq] at h
  exact ⟨by simpa using h.1.1.1, h.1.1.2, h.1.2, h.2⟩
theorem q_e2 {e : Nat} (he : e ∈ EL) : heN e < 3 ∧ inN e ∈ EL ∧ (e / 100 < 6 ∧ e / 10 % 10 < 6 ∧ e % 10 < 6 ∧ e < 1000) ∧ prN 12 e = e ∧ prN e 12 = e ∧ (heN e = 0 → heN (prN 132 e) = 0 ∧ inN (prN 132 e) = prN 132 (inN e)) := by
  have h := List.all_eq_true.mp ck2 e he
  simp only [Bool.and_eq_true, Bool.or_eq_true, decide_eq_true_eq, beq_iff_eq, bne_iff_ne] at h
  obtain ⟨⟨⟨⟨⟨⟨⟨⟨h1, h2⟩, h3⟩, h4⟩, h5⟩, h6⟩, h7⟩, h8⟩, h9⟩ := h
  exact ⟨h1, by simpa using h2, ⟨h3, h4, h5, h6⟩, h7, h8, fun h0 => h9.resolve_left (fun h => h h0)⟩
theorem q_e3 {c h : Nat} (hc : c ∈ EL) (hh : h < 3) : (stpN c h).2 ∈ EL ∧ (stpN c h).1 < 3 ∧ ∀ e, e ∈ EL → (heN (prN (stpN c h).2 e) = 0 ↔ heN e = 0) ∧ (heN e = 0 → prN c (prN (prN (roN h) 132) (inN e)) = prN (prN (roN (stpN c h).1) 132) (inN (prN (stpN c h).2 e))) := by
  have h1 := List.all_eq_true.mp (List.all_eq_true.mp ck3 c hc) h (List.mem_range.mpr hh)
  simp only [Bool.and_eq_true, List.all_eq_true, decide_eq_true_eq] at h1
  refine ⟨by simpa using h1.1.1, h1.1.2, fun e he => ?_⟩
  have h2 := h1.2 e he
  simp only [Bool.or_eq_true, beq_iff_eq, bne_iff_ne] at h2
  refine ⟨?_, fun h0 => h2.2.resolve_left (fun h => h h0)⟩
  have h3 := h2.1
  rw [Bool.eq_iff_iff] at h3; simpa using h3
theorem q_e4 : (∀ k, k < 10 → rhN k ∈ EL) ∧ (∀ h, h < 3 → roN h ∈ EL ∧ baN h ∈ EL) ∧ 132 ∈ EL ∧ 402 ∈ EL ∧ 12 ∈ EL := by
  have h := ck4
  simp only [Bool.and_eq_true, List.all_eq_true, List.mem_range] at h
  refine ⟨fun k hk => by simpa using h.1.1.1.1 k hk, fun k hk => ?_, by simpa using h.1.1.2, by simpa using h.1.2, by simpa using h.2⟩
  have := h.1.1.1.2 k hk
  exact ⟨by simpa using this.1, by simpa using this.2⟩
theorem im_lt : (EL.all (fun a => (List.range 6).all (fun s => decide (imN a s < 6)))) = true := by decide +kernel
theorem im6 {a s : Nat} (ha : a ∈ EL) (hs : s < 6) : imN a s < 6 := by
  have h := List.all_eq_true.mp im_lt a ha
  simp only [List.all_eq_true, List.mem_range, decide_eq_true_eq] at h
  exact h s hs
theorem pr_d {a b : Nat} (ha : a ∈ EL) (hb : b ∈ EL) : prN a b / 100 = imN a (b / 100) ∧ prN a b / 10 % 10 = imN a (b / 10 % 10) ∧ prN a b % 10 = imN a (b % 10) := by
  obtain ⟨-, -, ⟨b1, b2, b3, -⟩, -⟩ := q_e2 hb
  have i1 := im6 ha b1; have i2 := im6 ha b2; have i3 := im6 ha b3
  unfold prN; omega
theorem q_as {a b c : Nat} (ha : a ∈ EL) (hb : b ∈ EL) (hc : c ∈ EL) : prN (prN a b) c = prN a (prN b c) := by
  obtain ⟨-, -, ⟨c1, c2, c3, -⟩, -⟩ := q_e2 hc
  obtain ⟨d1, d2, d3⟩ := pr_d hb hc
  have h := (q_e1 ha hb).2.1
  show 100 * imN (prN a b) (c / 100) + 10 * imN (prN a b) (c / 10 % 10) + imN (prN a b) (c % 10) = 100 * imN a (prN b c / 100) + 10 * imN a (prN b c / 10 % 10) + imN a (prN b c % 10)
  rw [h _ c1, h _ c2, h _ c3, d1, d2, d3]
def okF (x : FS) : Prop := (∀ h ∈ x.1, h < 3) ∧ x.2 ∈ EL
theorem ca_ok : ∀ {t : List Nat} {c : Nat}, c ∈ EL → (∀ h ∈ t, h < 3) → (caN2 c t).2 ∈ EL ∧ (∀ h ∈ (caN2 c t).1, h < 3) ∧ (caN2 c t).1.length = t.length := by
  intro t
  induction t with
  | nil => intro c hc _; exact ⟨hc, fun h hh => by simp [caN2] at hh, rfl⟩
  | cons h t ih =>
    intro c hc ht
    obtain ⟨s1, s2, -⟩ := q_e3 hc (ht h List.mem_cons_self)
    obtain ⟨i1, i2, i3⟩ := ih s1 (fun x hx => ht x (List.mem_cons_of_mem _ hx))
    refine ⟨i1, fun x hx => ?_, ?_⟩
    · rcases List.mem_cons.mp hx with e | hx
      · rw [e]; exact s2
      · exact i2 x hx
    · show (caN2 _ t).1.length + 1 = _; rw [i3]; rfl
theorem ca_ap : ∀ {t : List Nat} {c h : Nat}, caN2 c (t ++ [h]) = ((caN2 c t).1 ++ [(stpN (caN2 c t).2 h).1], (stpN (caN2 c t).2 h).2) := by
  intro t
  induction t with
  | nil => intro c h; rfl
  | cons x t ih =>
    intro c h
    show ((stpN c x).1 :: (caN2 (stpN c x).2 (t ++ [h])).1, (caN2 (stpN c x).2 (t ++ [h])).2) = _
    rw [ih]; rfl
theorem ls_c {t : List Nat} (h : t ≠ []) : ∃ u x, t = u ++ [x] := by
  refine ⟨t.dropLast, t.getLast h, ?_⟩
  exact (List.dropLast_concat_getLast h).symm
theorem rT_pop {u : List Nat} {x e : Nat} (he : heN e = 0) : rTN (u ++ [x], e) = (u, prN (prN (roN x) 132) (inN e)) := by
  unfold rTN
  rw [if_pos ⟨he, by simp⟩]
  simp
theorem rT_push {t : List Nat} {e : Nat} (h : ¬ (heN e = 0 ∧ t ≠ [])) : rTN (t, e) = (t ++ [heN e], inN e) := by
  unfold rTN; rw [if_neg h]
theorem rT_ok {x : FS} (h : okF x) : okF (rTN x) := by
  obtain ⟨h1, h2⟩ := h
  obtain ⟨q1, q2, -⟩ := q_e2 h2
  by_cases hp : heN x.2 = 0 ∧ x.1 ≠ []
  · obtain ⟨u, y, e⟩ := ls_c hp.2
    have ex : x = (u ++ [y], x.2) := by rw [← e]
    rw [ex, rT_pop hp.1]
    refine ⟨fun z hz => h1 z (by rw [e]; exact List.mem_append_left _ hz), ?_⟩
    have hy := h1 y (by rw [e]; simp)
    exact (q_e1 (q_e1 (q_e4.2.1 y hy).1 q_e4.2.2.1).1 q2).1
  · rw [show rTN x = _ from rT_push (t := x.1) (e := x.2) hp]
    refine ⟨fun z hz => ?_, q2⟩
    rcases List.mem_append.mp hz with hz | hz
    · exact h1 z hz
    · rw [List.mem_singleton.mp hz]; exact q1
theorem rG_ok {x : FS} {k : Nat} (hk : k < 10) (h : okF x) : okF (rGN k x) := by
  unfold rGN
  split
  · exact rT_ok h
  · exact ⟨h.1, (q_e1 h.2 (q_e4.1 k hk)).1⟩
theorem lC_ok {x : FS} {c : Nat} (hc : c ∈ EL) (h : okF x) : okF (lCN c x) := by
  obtain ⟨a1, a2, -⟩ := ca_ok hc h.1
  exact ⟨a2, (q_e1 a1 h.2).1⟩
theorem lT_ok {x : FS} (h : okF x) : okF (lTN x) := by
  obtain ⟨hs, e⟩ := x
  unfold lTN
  split
  · rename_i t et
    simp only at et
    refine lC_ok q_e4.2.2.1 ⟨fun z hz => h.1 z ?_, h.2⟩
    show z ∈ hs
    rw [et]; exact List.mem_cons_of_mem _ hz
  · refine ⟨fun z hz => ?_, h.2⟩
    rcases List.mem_cons.mp hz with e | hz
    · rw [e]; omega
    · exact h.1 z hz
theorem lG_ok {x : FS} {k : Nat} (hk : k < 10) (h : okF x) : okF (lGN k x) := by
  unfold lGN
  split
  · exact lT_ok h
  · exact lC_ok (q_e4.1 k hk) h
theorem cm_CT {x : FS} {c : Nat} (hc : c ∈ EL) (h : okF x) : lCN c (rTN x) = rTN (lCN c x) := by
  obtain ⟨t, e⟩ := x
  obtain ⟨h1, h2⟩ := h
  simp only at h1 h2
  obtain ⟨q1, q2, -⟩ := q_e2 h2
  by_cases ht : t = []
  · subst ht
    rw [rT_push (fun h => h.2 rfl)]
    have g := q_e1 hc h2
    show ([(stpN c (heN e)).1], prN (stpN c (heN e)).2 (inN e)) = rTN ([], prN c e)
    rw [rT_push (fun h => h.2 rfl), ← g.2.2.1, ← g.2.2.2]; rfl
  · obtain ⟨u, y, et⟩ := ls_c ht
    subst et
    have hy := h1 y (by simp)
    obtain ⟨a1, a2, a3⟩ := ca_ok (t := u) hc (fun z hz => h1 z (List.mem_append_left _ hz))
    obtain ⟨s1, s2, s3⟩ := q_e3 a1 hy
    obtain ⟨s4, s5⟩ := s3 e h2
    have eL : lCN c (u ++ [y], e) = ((caN2 c u).1 ++ [(stpN (caN2 c u).2 y).1], prN (stpN (caN2 c u).2 y).2 e) := by
      unfold lCN; rw [ca_ap]
    by_cases he : heN e = 0
    · rw [rT_pop he, eL, rT_pop (s4.mpr he)]
      show ((caN2 c u).1, prN (caN2 c u).2 _) = _
      rw [s5 he]
    · rw [rT_push (fun h => he h.1), eL, rT_push (fun h => he (s4.mp h.1))]
      have g := q_e1 s1 h2
      unfold lCN
      rw [ca_ap, ca_ap]
      simp only
      rw [← g.2.2.1, ← g.2.2.2]
theorem cm_CC {x : FS} {c k : Nat} (hc : c ∈ EL) (hk : k ∈ EL) (h : okF x) : lCN c (x.1, prN x.2 k) = ((lCN c x).1, prN (lCN c x).2 k) := by
  obtain ⟨a1, -⟩ := ca_ok hc h.1
  unfold lCN
  simp only
  rw [q_as a1 h.2 hk]
theorem lT_0 {t : List Nat} {e : Nat} : lTN (0 :: t, e) = lCN 132 (t, e) := rfl
theorem lT_n {t : List Nat} {e : Nat} (h : ∀ u, t ≠ 0 :: u) : lTN (t, e) = (0 :: t, e) := by
  unfold lTN
  split
  · rename_i u eu; exact absurd eu (h u)
  · rfl
theorem cm_TT {x : FS} (h : okF x) : lTN (rTN x) = rTN (lTN x) := by
  obtain ⟨t, e⟩ := x
  obtain ⟨h1, h2⟩ := h
  simp only at h1 h2
  obtain ⟨q1, q2, -, q12, -, q0⟩ := q_e2 h2
  have S := q_e4.2.2.1
  have g := q_e1 S h2
  have i12 := (q_e2 q2).2.2.2.1
  cases t with
  | nil =>
    rw [rT_push (fun h => h.2 rfl), lT_n (t := []) (fun u h => by cases h)]
    by_cases he : heN e = 0
    · rw [he, show ([] : List Nat) ++ [0] = [] ++ [0] from rfl]
      rw [show ([0] : List Nat) = [] ++ [0] from rfl, rT_pop he]
      show ([], prN 132 (inN e)) = ([], prN (prN (roN 0) 132) (inN e))
      rw [show roN 0 = 12 from rfl, (q_e2 S).2.2.2.1]
    · rw [rT_push (fun h => he h.1)]
      rw [lT_n (fun u hu => he (by simpa using (List.cons.inj hu).1))]; rfl
  | cons y t =>
    by_cases hy : y = 0
    · subst hy
      rw [lT_0]
      by_cases ht : t = []
      · subst ht
        by_cases he : heN e = 0
        · rw [show ([0] : List Nat) = [] ++ [0] from rfl, rT_pop he, lT_n (fun u h => by cases h)]
          show ([0], prN (prN (roN 0) 132) (inN e)) = rTN ([], prN 132 e)
          rw [rT_push (fun h => h.2 rfl), (q0 he).1, (q0 he).2, show roN 0 = 12 from rfl, (q_e2 S).2.2.2.1]; rfl
        · rw [rT_push (fun h => he h.1)]
          show lCN 132 ([heN e], inN e) = rTN ([], prN 132 e)
          rw [rT_push (fun h => h.2 rfl), g.2.2.1, g.2.2.2]; rfl
      · have hok : okF (t, e) := ⟨fun z hz => h1 z (List.mem_cons_of_mem _ hz), h2⟩
        rw [← cm_CT S hok]
        obtain ⟨u, w, et⟩ := ls_c ht
        subst et
        by_cases he : heN e = 0
        · rw [rT_pop he, show (0 :: (u ++ [w])) = (0 :: u) ++ [w] from rfl, rT_pop he, lT_0]
        · rw [rT_push (fun h => he h.1), rT_push (fun h => he h.1)]
          show lTN (0 :: (u ++ [w] ++ [heN e]), inN e) = _
          rw [lT_0]
    · have n0 : ∀ v u, (y :: v : List Nat) ≠ 0 :: u := fun v u h => hy (List.cons.inj h).1
      rw [lT_n (n0 t)]
      obtain ⟨u, w, et⟩ := ls_c (t := y :: t) (by simp)
      by_cases he : heN e = 0
      · rw [et, rT_pop he, show (0 :: (u ++ [w])) = (0 :: u) ++ [w] from rfl, rT_pop he]
        refine lT_n (fun v hv => ?_)
        rw [hv] at et
        exact hy (List.cons.inj et).1
      · rw [rT_push (fun h => he h.1), rT_push (fun h => he h.1)]
        rw [show (y :: t) ++ [heN e] = y :: (t ++ [heN e]) from rfl, lT_n (n0 _)]; rfl
theorem cm_TC {x : FS} {k : Nat} (hk : k ∈ EL) (h : okF x) : lTN (x.1, prN x.2 k) = ((lTN x).1, prN (lTN x).2 k) := by
  obtain ⟨t, e⟩ := x
  by_cases h0 : ∃ u, t = 0 :: u
  · obtain ⟨u, eu⟩ := h0
    subst eu
    simp only
    rw [lT_0, lT_0]
    exact cm_CC q_e4.2.2.1 hk (x := (u, e)) ⟨fun z hz => h.1 z (List.mem_cons_of_mem _ hz), h.2⟩
  · have n0 : ∀ u, t ≠ 0 :: u := fun u hu => h0 ⟨u, hu⟩
    simp only
    rw [lT_n n0, lT_n n0]
theorem cm_G {x : FS} {j k : Nat} (hj : j < 10) (hk : k < 10) (h : okF x) : lGN j (rGN k x) = rGN k (lGN j x) := by
  unfold lGN rGN
  by_cases e : j = 3
  · by_cases e2 : k = 3
    · rw [if_pos e2, if_pos e, if_pos e, if_pos e2]; exact cm_TT h
    · rw [if_neg e2, if_pos e, if_pos e, if_neg e2]; exact cm_TC (q_e4.1 k hk) h
  · by_cases e2 : k = 3
    · rw [if_pos e2, if_neg e, if_neg e, if_pos e2]; exact cm_CT (q_e4.1 j hj) h
    · rw [if_neg e2, if_neg e, if_neg e, if_neg e2]; exact cm_CC (q_e4.1 j hj) (q_e4.1 k hk) h
theorem ok_0 : okF ([], 12) := ⟨fun _ h => by simp at h, q_e4.2.2.2.2⟩
theorem lr_0 : ∀ k, k < 10 → lGN k ([], 12) = rGN k ([], 12) := by decide +kernel
theorem fo_rG : ∀ (L : List Nat) {x : FS} {k : Nat}, k < 10 → okF x → L.foldl (fun s g => lGN (kN g) s) (rGN k x) = rGN k (L.foldl (fun s g => lGN (kN g) s) x) := by
  intro L
  induction L with
  | nil => intro x k _ _; rfl
  | cons g t ih =>
    intro x k hk h
    show t.foldl _ (lGN (kN g) (rGN k x)) = rGN k (t.foldl _ (lGN (kN g) x))
    rw [cm_G (kN_lt g) hk h, ih hk (lG_ok (kN_lt g) h)]
theorem tak_eq : ∀ (L : List Nat), takM L = takC L := by
  intro L
  induction L with
  | nil => rfl
  | cons g t ih =>
    have h1 : takM (g :: t) = t.foldl (fun s g => lGN (kN g) s) (lGN (kN g) ([], 12)) := rfl
    have h2 : takC (g :: t) = rGN (kN g) (takC t) := by unfold takC; rw [List.reverse_cons, List.foldl_append]; rfl
    rw [h1, h2, ← ih, lr_0 _ (kN_lt g), fo_rG t (kN_lt g) ok_0]; rfl
