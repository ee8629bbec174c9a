/-! Circuits on one wire: two by two matrices over the ring, in integers. -/
abbrev Q4 : Type := Int × Int × Int × Int
abbrev V8 : Type := Q4 × Q4
def qA (a b : Q4) : Q4 := (a.1 + b.1, a.2.1 + b.2.1, a.2.2.1 + b.2.2.1, a.2.2.2 + b.2.2.2)
def qN (a : Q4) : Q4 := (-a.1, -a.2.1, -a.2.2.1, -a.2.2.2)
def qM (c : Int) (a : Q4) : Q4 := (c * a.1, c * a.2.1, c * a.2.2.1, c * a.2.2.2)
def qW (a : Q4) : Q4 := (-a.2.2.2, a.1, a.2.1, a.2.2.1)
def qG (a : Q4) : Q4 := (a.2.1 - a.2.2.2, a.1 + a.2.2.1, a.2.1 + a.2.2.2, a.2.2.1 - a.1)
def vA (x y : V8) : V8 := (qA x.1 y.1, qA x.2 y.2)
def vM (c : Int) (x : V8) : V8 := (qM c x.1, qM c x.2)
def vW (x : V8) : V8 := (qW x.1, qW x.2)
def vG (x : V8) : V8 := (qG x.1, qG x.2)
def v1 (k : Nat) (x : V8) : V8 := if k = 1 then (qA x.1 x.2, qA x.1 (qN x.2)) else if k = 2 then (x.1, qW (qW x.2)) else if k = 3 then (x.1, qW x.2) else if k = 4 then (x.2, x.1) else (x.1, qN x.2)
def itV (f : V8 → V8) : Nat → V8 → V8
  | 0, x => x
  | n + 1, x => itV f n (f x)
def fdK (K : List Nat) (x : V8) : V8 := K.foldl (fun y k => v1 k y) x
def hK (K : List Nat) : Nat := K.countP (fun k => k = 1)
def LN (f : V8 → V8) : Prop := (∀ x y, f (vA x y) = vA (f x) (f y)) ∧ ∀ c x, f (vM c x) = vM c (f x)
theorem ln_id : LN (fun x => x) := ⟨fun _ _ => rfl, fun _ _ => rfl⟩
theorem ln_c {f g : V8 → V8} (hf : LN f) (hg : LN g) : LN (fun x => f (g x)) := ⟨fun x y => by show f (g (vA x y)) = vA (f (g x)) (f (g y)); rw [hg.1, hf.1], fun c x => by show f (g (vM c x)) = vM c (f (g x)); rw [hg.2, hf.2]⟩
theorem ln_it {f : V8 → V8} (hf : LN f) : ∀ n, LN (itV f n) := by
  intro n
  induction n with
  | zero => exact ln_id
  | succ n ih => exact ln_c (f := itV f n) (g := f) ih hf
theorem ln_W : LN vW := by
  refine ⟨fun x y => ?_, fun c x => ?_⟩
  · simp only [vW, vA, qW, qA, Prod.mk.injEq] <;> grind
  · simp only [vW, vM, qW, qM, Prod.mk.injEq] <;> grind
theorem ln_G : LN vG := by
  refine ⟨fun x y => ?_, fun c x => ?_⟩
  · simp only [vG, vA, qG, qA, Prod.mk.injEq] <;> grind
  · simp only [vG, vM, qG, qM, Prod.mk.injEq] <;> grind
theorem ln_1 (k : Nat) : LN (v1 k) := by
  refine ⟨fun x y => ?_, fun c x => ?_⟩
  · unfold v1
    split
    · simp only [vA, qW, qA, qN, Prod.mk.injEq] <;> grind
    · split
      · simp only [vA, qW, qA, qN, Prod.mk.injEq] <;> grind
      · split
        · simp only [vA, qW, qA, qN, Prod.mk.injEq] <;> grind
        · split
          · rfl
          · simp only [vA, qW, qA, qN, Prod.mk.injEq] <;> grind
  · unfold v1
    split
    · simp only [vM, qM, qW, qA, qN, Prod.mk.injEq] <;> grind
    · split
      · simp only [vM, qM, qW, qA, qN, Prod.mk.injEq] <;> grind
      · split
        · simp only [vM, qM, qW, qA, qN, Prod.mk.injEq] <;> grind
        · split
          · rfl
          · simp only [vM, qM, qW, qA, qN, Prod.mk.injEq] <;> grind
theorem ln_fd : ∀ (K : List Nat), LN (fdK K) := by
  intro K
  induction K with
  | nil => exact ln_id
  | cons k K ih => exact ln_c (f := fdK K) (g := v1 k) ih (ln_1 k)
def e8 : List V8 := [((1, 0, 0, 0), 0, 0, 0, 0), ((0, 1, 0, 0), 0, 0, 0, 0), ((0, 0, 1, 0), 0, 0, 0, 0), ((0, 0, 0, 1), 0, 0, 0, 0), ((0, 0, 0, 0), 1, 0, 0, 0), ((0, 0, 0, 0), 0, 1, 0, 0), ((0, 0, 0, 0), 0, 0, 1, 0), ((0, 0, 0, 0), 0, 0, 0, 1)]
theorem e8_x (x : V8) : x = vA (vM x.1.1 ((1, 0, 0, 0), 0, 0, 0, 0)) (vA (vM x.1.2.1 ((0, 1, 0, 0), 0, 0, 0, 0)) (vA (vM x.1.2.2.1 ((0, 0, 1, 0), 0, 0, 0, 0)) (vA (vM x.1.2.2.2 ((0, 0, 0, 1), 0, 0, 0, 0)) (vA (vM x.2.1 ((0, 0, 0, 0), 1, 0, 0, 0)) (vA (vM x.2.2.1 ((0, 0, 0, 0), 0, 1, 0, 0)) (vA (vM x.2.2.2.1 ((0, 0, 0, 0), 0, 0, 1, 0)) (vM x.2.2.2.2 ((0, 0, 0, 0), 0, 0, 0, 1)))))))) := by
  obtain ⟨⟨a, b, c, d⟩, e, f, g, h⟩ := x
  simp [vA, vM, qA, qM]
theorem ln_ext {f g : V8 → V8} (hf : LN f) (hg : LN g) (h : ∀ e ∈ e8, f e = g e) (x : V8) : f x = g x := by
  rw [e8_x x]
  simp only [hf.1, hf.2, hg.1, hg.2]
  rw [h _ (by simp [e8]), h _ (by simp [e8]), h _ (by simp [e8]), h _ (by simp [e8]), h _ (by simp [e8]), h _ (by simp [e8]), h _ (by simp [e8]), h _ (by simp [e8])]
/-- commuting with both the root of two and the turn -/
def CM (f : V8 → V8) : Prop := (∀ x, f (vG x) = vG (f x)) ∧ ∀ x, f (vW x) = vW (f x)
theorem cm_1 (k : Nat) : CM (v1 k) := by
  refine ⟨fun x => ?_, fun x => ?_⟩
  · unfold v1
    split
    · simp only [vG, qG, qW, qA, qN, Prod.mk.injEq] <;> grind
    · split
      · simp only [vG, qG, qW, qA, qN, Prod.mk.injEq] <;> grind
      · split
        · simp only [vG, qG, qW, qA, qN, Prod.mk.injEq] <;> grind
        · split
          · rfl
          · simp only [vG, qG, qW, qA, qN, Prod.mk.injEq] <;> grind
  · unfold v1
    split
    · simp only [vW, qG, qW, qA, qN, Prod.mk.injEq] <;> grind
    · split
      · simp only [vW, qG, qW, qA, qN, Prod.mk.injEq] <;> grind
      · split
        · simp only [vW, qG, qW, qA, qN, Prod.mk.injEq] <;> grind
        · split
          · rfl
          · simp only [vW, qG, qW, qA, qN, Prod.mk.injEq] <;> grind
theorem cm_fd : ∀ (K : List Nat), CM (fdK K) := by
  intro K
  induction K with
  | nil => exact ⟨fun _ => rfl, fun _ => rfl⟩
  | cons k K ih =>
    obtain ⟨h1, h2⟩ := ih
    obtain ⟨g1, g2⟩ := cm_1 k
    refine ⟨fun x => ?_, fun x => ?_⟩
    · show fdK K (v1 k (vG x)) = vG (fdK K (v1 k x)); rw [g1, h1]
    · show fdK K (v1 k (vW x)) = vW (fdK K (v1 k x)); rw [g2, h2]
theorem gw_c (x : V8) : vG (vW x) = vW (vG x) := by
  simp only [vW, vG, qG, qW, Prod.mk.injEq] <;> grind
theorem it_c {f g : V8 → V8} (h : ∀ x, f (g x) = g (f x)) : ∀ (n : Nat) (x : V8), f (itV g n x) = itV g n (f x) := by
  intro n
  induction n with
  | zero => intro x; rfl
  | succ n ih => intro x; show f (itV g n (g x)) = itV g n (g (f x)); rw [ih, h]
theorem it_cc {f g : V8 → V8} (h : ∀ x, f (g x) = g (f x)) (m n : Nat) (x : V8) : itV f m (itV g n x) = itV g n (itV f m x) := by
  have h1 : ∀ x, itV f m (g x) = g (itV f m x) := fun x => (it_c (f := g) (g := f) (fun y => (h y).symm) m x).symm
  exact it_c h1 n x
theorem it_a {f : V8 → V8} : ∀ (m n : Nat) (x : V8), itV f (m + n) x = itV f n (itV f m x) := by
  intro m
  induction m with
  | zero => intro n x; rw [Nat.zero_add]; rfl
  | succ m ih => intro n x; rw [show m + 1 + n = (m + n) + 1 by omega]; exact ih n (f x)
theorem vG_i {x y : V8} (h : vG x = vG y) : x = y := by
  obtain ⟨⟨a, b, c, d⟩, e, f, g, i⟩ := x
  obtain ⟨⟨a', b', c', d'⟩, e', f', g', i'⟩ := y
  simp only [vG, qG, Prod.mk.injEq] at h ⊢
  omega
theorem itG_i : ∀ {n : Nat} {x y : V8}, itV vG n x = itV vG n y → x = y := by
  intro n
  induction n with
  | zero => intro x y h; exact h
  | succ n ih => intro x y h; exact vG_i (ih h)
theorem w8 (x : V8) : itV vW 8 x = x := by
  simp [itV, vW, qW]
theorem itW_8 (r : Nat) (x : V8) : itV vW r x = itV vW (r % 8) x := by
  have h : ∀ k x, itV vW (8 * k) x = x := by
    intro k
    induction k with
    | zero => intro x; rfl
    | succ k ih => intro x; rw [show 8 * (k + 1) = 8 + 8 * k by omega, it_a, w8, ih]
  conv => lhs; rw [← Nat.div_add_mod r 8, it_a, h]
/-- one but for a turn and the scale -/
def R1 (L M : List Nat) : Prop := ∃ r, r < 8 ∧ ∀ x, itV vG (hK M) (fdK L x) = itV vW r (itV vG (hK L) (fdK M x))
theorem fd_ap (K M : List Nat) (x : V8) : fdK (K ++ M) x = fdK M (fdK K x) := by unfold fdK; rw [List.foldl_append]
theorem hK_ap (K M : List Nat) : hK (K ++ M) = hK K + hK M := by unfold hK; rw [List.countP_append]
theorem rl_rf (L : List Nat) : R1 L L := ⟨0, by omega, fun _ => rfl⟩
theorem rl_tr {L M N : List Nat} (h1 : R1 L M) (h2 : R1 M N) : R1 L N := by
  obtain ⟨r, hr, a⟩ := h1
  obtain ⟨s, hs, b⟩ := h2
  refine ⟨(r + s) % 8, Nat.mod_lt _ (by omega), fun x => ?_⟩
  refine itG_i (n := hK M) ?_
  rw [← itW_8, it_cc (fun _ => rfl) (hK M) (hK N), a, it_cc gw_c (hK N) r, it_cc (fun _ => rfl) (hK N) (hK L), b, it_cc gw_c (hK L) s, it_cc gw_c (hK M) (r + s), it_cc (fun _ => rfl) (hK M) (hK L), Nat.add_comm r s, it_a]
theorem rl_c {L M : List Nat} (h : R1 L M) (X Y : List Nat) : R1 (X ++ L ++ Y) (X ++ M ++ Y) := by
  obtain ⟨r, hr, a⟩ := h
  refine ⟨r, hr, fun x => ?_⟩
  have cg := (cm_fd Y).1; have cw := (cm_fd Y).2
  rw [hK_ap, hK_ap, hK_ap, hK_ap]
  simp only [fd_ap]
  rw [show hK X + hK M + hK Y = hK M + (hK X + hK Y) by omega, show hK X + hK L + hK Y = hK L + (hK X + hK Y) by omega, it_a, it_a, ← it_c cg, a, it_c cw, it_c cg, it_cc gw_c, it_cc gw_c, it_a (hK L), it_a (hK X)]
def ckR (L M : List Nat) : Bool := (List.range 8).any (fun r => e8.all (fun e => itV vG (hK M) (fdK L e) == itV vW r (itV vG (hK L) (fdK M e))))
theorem r1_ck {L M : List Nat} (h : ckR L M = true) : R1 L M := by
  unfold ckR at h
  rw [List.any_eq_true] at h
  obtain ⟨r, hr, h⟩ := h
  rw [List.all_eq_true] at h
  refine ⟨r, List.mem_range.mp hr, ln_ext (f := fun x => itV vG (hK M) (fdK L x)) (g := fun x => itV vW r (itV vG (hK L) (fdK M x))) (ln_c (f := itV vG (hK M)) (g := fdK L) (ln_it ln_G _) (ln_fd L)) (ln_c (f := itV vW r) (g := fun x => itV vG (hK L) (fdK M x)) (ln_it ln_W _) (ln_c (f := itV vG (hK L)) (g := fdK M) (ln_it ln_G _) (ln_fd M))) (fun e he => ?_)⟩
  have := h e he
  rw [beq_iff_eq] at this; exact this
def rdK (h : Nat) : List Nat := [3] ++ (if h = 0 then [] else [1]) ++ (if h = 2 then [2] else [])
def roK (H : List Nat) : List Nat := H.reverse.flatMap rdK
def fkK (x : FS) : List Nat := wdL (woN x.2) ++ roK x.1
theorem ok_c1 : (EL.all (fun e => [1, 2, 4, 5].all (fun k => ckR (k :: wdL (woN e)) (wdL (woN (prN e (rhN k))))))) = true := by decide +kernel
theorem ok_c2 : (EL.all (fun e => ckR (3 :: wdL (woN e)) (wdL (woN (inN e)) ++ rdK (heN e)))) = true := by decide +kernel
theorem ok_c3 : ([0, 1, 2].all (fun h => EL.all (fun e => heN e != 0 || ckR (3 :: wdL (woN e) ++ rdK h) (wdL (woN (prN (prN (roN h) 132) (inN e))))))) = true := by decide +kernel
theorem r1_step {x : FS} {k : Nat} (hk : 1 ≤ k) (hk5 : k ≤ 5) (hx : okF x) : R1 (k :: fkK x) (fkK (rGN k x)) := by
  obtain ⟨H, e⟩ := x
  obtain ⟨h3, he⟩ := hx
  simp only at h3 he
  by_cases e3 : k = 3
  · subst e3
    show R1 (3 :: fkK (H, e)) (fkK (rTN (H, e)))
    by_cases hp : heN e = 0 ∧ H ≠ []
    · obtain ⟨u, h, rfl⟩ := ls_c hp.2
      rw [rT_pop hp.1]
      have hh := h3 h (by simp)
      have c := List.all_eq_true.mp (List.all_eq_true.mp ok_c3 h (by rcases (show h = 0 ∨ h = 1 ∨ h = 2 by omega) with rfl | rfl | rfl <;> decide)) e he
      simp only [hp.1, bne_self_eq_false, Bool.false_or] at c
      have := rl_c (r1_ck c) [] (roK u)
      unfold fkK
      have er : roK (u ++ [h]) = rdK h ++ roK u := by unfold roK; simp
      show R1 (3 :: (wdL (woN e) ++ roK (u ++ [h]))) _
      rw [er]
      simpa [List.append_assoc] using this
    · rw [rT_push hp]
      have c := List.all_eq_true.mp ok_c2 e he
      have := rl_c (r1_ck c) [] (roK H)
      have er : roK (H ++ [heN e]) = rdK (heN e) ++ roK H := by unfold roK; simp
      unfold fkK
      show R1 (3 :: (wdL (woN e) ++ roK H)) (wdL (woN (inN e)) ++ roK (H ++ [heN e]))
      rw [er]
      simpa [List.append_assoc] using this
  · unfold rGN
    rw [if_neg e3]
    have c := List.all_eq_true.mp (List.all_eq_true.mp ok_c1 e he) k (by rcases (show k = 1 ∨ k = 2 ∨ k = 4 ∨ k = 5 by omega) with rfl | rfl | rfl | rfl <;> decide)
    have := rl_c (r1_ck c) [] (roK H)
    unfold fkK
    show R1 (k :: (wdL (woN e) ++ roK H)) (wdL (woN (prN e (rhN k))) ++ roK H)
    simpa [List.append_assoc] using this
theorem r1_all : ∀ (L : List Nat), (∀ g ∈ L, 1 ≤ kN g ∧ kN g ≤ 5) → okF (takC L) ∧ R1 (L.map kN) (fkK (takC L)) := by
  intro L
  induction L with
  | nil => intro _; exact ⟨ok_0, r1_ck (by decide +kernel)⟩
  | cons g L ih =>
    intro h
    obtain ⟨i1, i2⟩ := ih (fun x hx => h x (List.mem_cons_of_mem _ hx))
    obtain ⟨k1, k5⟩ := h g List.mem_cons_self
    have e : takC (g :: L) = rGN (kN g) (takC L) := by unfold takC; rw [List.reverse_cons, List.foldl_append]; rfl
    rw [e]
    refine ⟨rG_ok (kN_lt g) i1, ?_⟩
    have := rl_c i2 [kN g] []
    rw [List.append_nil, List.append_nil] at this
    exact rl_tr this (r1_step k1 k5 i1)
