/-! The norm of a column: sums of squares, in integers. -/
def sZ (F : Nat → Int) : Nat → Int
  | 0 => 0
  | n + 1 => sZ F n + F n
theorem sZ_c {F G : Nat → Int} : ∀ {N : Nat}, (∀ r, r < N → G r = F r) → sZ G N = sZ F N := by
  intro N
  induction N with
  | zero => intro _; rfl
  | succ N ih => intro h; show sZ G N + G N = sZ F N + F N; rw [ih (fun r hr => h r (by omega)), h N (by omega)]
theorem sZ_1 {F G : Nat → Int} {i : Nat} : ∀ {N : Nat}, i < N → (∀ r, r ≠ i → G r = F r) → sZ G N = sZ F N + (G i - F i) := by
  intro N
  induction N with
  | zero => intro h; exact absurd h (Nat.not_lt_zero _)
  | succ N ih =>
    intro hi h
    show sZ G N + G N = sZ F N + F N + (G i - F i)
    by_cases e : i = N
    · subst e; rw [sZ_c (fun r hr => h r (by omega))]; omega
    · rw [ih (by omega) h, h N (fun h9 => e h9.symm)]; omega
theorem sZ_2 {F G : Nat → Int} {i j N : Nat} (hij : i ≠ j) (hi : i < N) (hj : j < N) (h : ∀ r, r ≠ i → r ≠ j → G r = F r) (hs : G i + G j = F i + F j) : sZ G N = sZ F N := by
  have h1 := sZ_1 (F := F) (G := fun r => if r = i then G i else F r) hi (fun r hr => if_neg hr)
  have h2 := sZ_1 (F := fun r => if r = i then G i else F r) (G := G) hj (fun r hr => by
    by_cases e : r = i
    · rw [if_pos e, e]
    · rw [if_neg e]; exact h r e hr)
  rw [if_pos rfl] at h1
  rw [if_neg (fun e => hij e.symm)] at h2
  rw [h2, h1]; omega
theorem sZ_m {F : Nat → Int} {c : Int} : ∀ {N : Nat}, sZ (fun r => c * F r) N = c * sZ F N := by
  intro N
  induction N with
  | zero => simp [sZ]
  | succ N ih => show sZ (fun r => c * F r) N + c * F N = c * (sZ F N + F N); rw [ih, Int.mul_add]
theorem sZ_le {F : Nat → Int} {i : Nat} : ∀ {N : Nat}, (∀ r, r < N → 0 ≤ F r) → i < N → F i ≤ sZ F N ∧ 0 ≤ sZ F N := by
  have z : ∀ {N : Nat}, (∀ r, r < N → 0 ≤ F r) → 0 ≤ sZ F N := by
    intro N
    induction N with
    | zero => intro _; exact Int.le_refl 0
    | succ N ih => intro h; have := ih (fun r hr => h r (by omega)); have := h N (by omega); show 0 ≤ sZ F N + F N; omega
  intro N
  induction N with
  | zero => intro _ h; exact absurd h (Nat.not_lt_zero _)
  | succ N ih =>
    intro h hi
    have h0 := z (N := N) (fun r hr => h r (by omega))
    have hN := h N (by omega)
    show F i ≤ sZ F N + F N ∧ 0 ≤ sZ F N + F N
    by_cases e : i = N
    · subst e; omega
    · have := (ih (fun r hr => h r (by omega)) (by omega)).1; omega
def qR (V : Nat → Int64) (i : Nat) (q : Int) : Prop := ∃ c0 c1 c2 c3 : Int, V (4 * i) = Int64.ofInt c0 ∧ V (4 * i + 1) = Int64.ofInt c1 ∧ V (4 * i + 2) = Int64.ofInt c2 ∧ V (4 * i + 3) = Int64.ofInt c3 ∧ q = c0 * c0 + c1 * c1 + c2 * c2 + c3 * c3
theorem qR_e {V W : Nat → Int64} {i : Nat} {q : Int} (h : qR V i q) (e0 : W (4 * i) = V (4 * i)) (e1 : W (4 * i + 1) = V (4 * i + 1)) (e2 : W (4 * i + 2) = V (4 * i + 2)) (e3 : W (4 * i + 3) = V (4 * i + 3)) : qR W i q := by
  unfold qR; rw [e0, e1, e2, e3]; exact h
def NF (N : Nat) (V : Nat → Int64) (q : Nat → Int) : Prop := ∀ r, r < N → qR V r (q r)
theorem n_pr {F : Int64 → Int64 → Int64 × Int64} {V : Nat → Int64} {N i j : Nat} {c : Int} {q : Nat → Int} (hij : i ≠ j) (hi : i < N) (hj : j < N) (hF : ∀ a b : Int, ∃ a' b' : Int, F (Int64.ofInt a) (Int64.ofInt b) = (Int64.ofInt a', Int64.ofInt b') ∧ a' * a' + b' * b' = c * (a * a + b * b)) (h : NF N V q) : ∃ q', NF N (prV F i j V) q' ∧ (∀ r, r ≠ i → r ≠ j → q' r = q r) ∧ q' i + q' j = c * (q i + q j) := by
  obtain ⟨a0, a1, a2, a3, A0, A1, A2, A3, hqi⟩ := h i hi
  obtain ⟨b0, b1, b2, b3, B0, B1, B2, B3, hqj⟩ := h j hj
  obtain ⟨x0, y0, f0, s0⟩ := hF a0 b0
  obtain ⟨x1, y1, f1, s1⟩ := hF a1 b1
  obtain ⟨x2, y2, f2, s2⟩ := hF a2 b2
  obtain ⟨x3, y3, f3, s3⟩ := hF a3 b3
  refine ⟨fun r => if r = i then x0 * x0 + x1 * x1 + x2 * x2 + x3 * x3 else if r = j then y0 * y0 + y1 * y1 + y2 * y2 + y3 * y3 else q r, fun r hr => ?_, fun r h1 h2 => by show (if r = i then _ else if r = j then _ else q r) = q r; rw [if_neg h1, if_neg h2], ?_⟩
  · have t0 := prV_at F i j r 0 V (by omega); have t1 := prV_at F i j r 1 V (by omega); have t2 := prV_at F i j r 2 V (by omega); have t3 := prV_at F i j r 3 V (by omega)
    simp only [Nat.add_zero] at t0
    rw [A0, B0, f0] at t0; rw [A1, B1, f1] at t1; rw [A2, B2, f2] at t2; rw [A3, B3, f3] at t3
    show qR (prV F i j V) r (if r = i then x0 * x0 + x1 * x1 + x2 * x2 + x3 * x3 else if r = j then y0 * y0 + y1 * y1 + y2 * y2 + y3 * y3 else q r)
    by_cases e : r = i
    · rw [if_pos e] at t0 t1 t2 t3 ⊢; exact ⟨x0, x1, x2, x3, t0, t1, t2, t3, rfl⟩
    · rw [if_neg e] at t0 t1 t2 t3 ⊢
      by_cases e2 : r = j
      · rw [if_pos e2] at t0 t1 t2 t3 ⊢; exact ⟨y0, y1, y2, y3, t0, t1, t2, t3, rfl⟩
      · rw [if_neg e2] at t0 t1 t2 t3 ⊢; exact qR_e (h r hr) t0 t1 t2 t3
  · show (if i = i then _ else _) + (if j = i then _ else if j = j then _ else _) = _
    rw [if_pos rfl, if_neg (fun e => hij e.symm), if_pos rfl, hqi, hqj]
    grind
theorem n_mix (a b : Int) : ∃ a' b' : Int, mixF (Int64.ofInt a) (Int64.ofInt b) = (Int64.ofInt a', Int64.ofInt b') ∧ a' * a' + b' * b' = 2 * (a * a + b * b) :=
  ⟨a + b, a - b, by unfold mixF; rw [Int64.ofInt_add, Int64.ofInt_sub], by grind⟩
theorem n_ex (a b : Int) : ∃ a' b' : Int, exF (Int64.ofInt a) (Int64.ofInt b) = (Int64.ofInt a', Int64.ofInt b') ∧ a' * a' + b' * b' = 1 * (a * a + b * b) :=
  ⟨b, a, rfl, by grind⟩
theorem n_w1 {V : Nat → Int64} {N i : Nat} {q : Nat → Int} (h : NF N V q) : NF N (w1 i V) q := fun r hr => by
  have q0 := w1_at0 i r V; have q1 := w1_atp i r 0 V (by omega); have q2 := w1_atp i r 1 V (by omega); have q3 := w1_atp i r 2 V (by omega)
  simp only [Nat.add_zero, Nat.zero_add, Nat.reduceAdd] at q0 q1 q2 q3
  obtain ⟨a0, a1, a2, a3, A0, A1, A2, A3, hq⟩ := h r hr
  by_cases e : r = i
  · rw [if_pos e] at q0 q1 q2 q3
    rw [A3, ← Int64.ofInt_neg] at q0; rw [A0] at q1; rw [A1] at q2; rw [A2] at q3
    exact ⟨-a3, a0, a1, a2, q0, q1, q2, q3, by rw [hq]; grind⟩
  · rw [if_neg e] at q0 q1 q2 q3
    exact qR_e (h r hr) q0 q1 q2 q3
theorem n_tu {N i : Nat} {q : Nat → Int} : ∀ {t : Nat} {V : Nat → Int64}, NF N V q → NF N (tuV t i V) q := by
  intro t
  induction t with
  | zero => intro V h; exact h
  | succ t ih => intro V h; exact ih (n_w1 h)
theorem n_GR {V : Nat → Int64} {N : Nat} {q : Nat → Int} (h : NF N V q) : NF N (GR V) (fun r => 2 * q r) := fun r hr => by
  obtain ⟨a0, a1, a2, a3, A0, A1, A2, A3, hq⟩ := h r hr
  refine ⟨a1 - a3, a0 + a2, a1 + a3, a2 - a0, ?_, ?_, ?_, ?_, by show 2 * q r = _; rw [hq]; grind⟩
  · rw [GR0, A1, A3, Int64.ofInt_sub]
  · rw [GR1, A0, A2, Int64.ofInt_add]
  · rw [GR2, A1, A3, Int64.ofInt_add]
  · rw [GR3, A2, A0, Int64.ofInt_sub]
def NM (n : Nat) (V : Nat → Int64) (s : Int) : Prop := ∃ q, NF (2 ^ n) V q ∧ sZ q (2 ^ n) = s
theorem n_GRn {n : Nat} : ∀ {d : Nat} {V : Nat → Int64} {s : Int}, NM n V s → NM n (GRn d V) (2 ^ d * s) := by
  intro d
  induction d with
  | zero => intro V s h; simpa [GRn] using h
  | succ d ih =>
    intro V s ⟨q, h1, h2⟩
    have := ih (V := GR V) (s := 2 * s) ⟨_, n_GR h1, by rw [sZ_m, h2]⟩
    rw [show (2 : Int) ^ (d + 1) * s = 2 ^ d * (2 * s) by rw [Int.pow_succ]; grind]
    exact this
theorem n_fo {n : Nat} {s : Int} {st : Nat → (Nat → Int64) → Nat → Int64} : ∀ {m : Nat} {V : Nat → Int64}, (∀ i V, i < m → NM n V s → NM n (st i V) s) → NM n V s → NM n (foN st m V) s := by
  intro m
  induction m with
  | zero => intro V _ h; exact h
  | succ m ih => intro V hs h; exact hs m _ (by omega) (ih (fun i V hi => hs i V (by omega)) h)
theorem n_x {n i j : Nat} {V : Nat → Int64} {s : Int} (hij : i ≠ j) (hi : i < 2 ^ n) (hj : j < 2 ^ n) (h : NM n V s) : NM n (prV exF i j V) s := by
  obtain ⟨q, h1, h2⟩ := h
  obtain ⟨q', k1, k2, k3⟩ := n_pr hij hi hj n_ex h1
  exact ⟨q', k1, by rw [← h2]; exact sZ_2 hij hi hj k2 (by omega)⟩
/-- the bit taken away -/
def bsN (a r : Nat) : Nat := if r &&& 2 ^ a = 0 then r else r ^^^ 2 ^ a
theorem bs_ck : ∀ n, n < 5 → ∀ a, a < n → ∀ r, r < 2 ^ n → ∀ m, m < 2 ^ n → (decide (bsN a r < 2 ^ n) && (bsN a r == m) == (m &&& 2 ^ a == 0 && (r == m || r == m ||| 2 ^ a))) = true := by decide +kernel
theorem bs_i {n a r m : Nat} (hn : n < 5) (ha : a < n) (hr : r < 2 ^ n) (hm : m < 2 ^ n) : bsN a r < 2 ^ n ∧ (bsN a r = m ↔ m &&& 2 ^ a = 0 ∧ (r = m ∨ r = m ||| 2 ^ a)) := by
  have h := bs_ck n hn a ha r hr m hm
  simp only [Bool.and_eq_true, decide_eq_true_eq, beq_iff_eq] at h
  refine ⟨h.1, ?_⟩
  have h2 := h.2
  rw [Bool.eq_iff_iff] at h2; simpa using h2
def wtN (a m r : Nat) : Int := if bsN a r < m then 1 else 2
theorem n_H {n a : Nat} {V : Nat → Int64} {s : Int} (hn : n < 5) (ha : a < n) (h : NM n V s) : NM n (foN (fun i V => if i &&& 2 ^ a = 0 then prV mixF i (i ||| 2 ^ a) V else V) (2 ^ n) V) (2 * s) := by
  have key : ∀ m, m ≤ 2 ^ n → ∃ q, NF (2 ^ n) (foN (fun i V => if i &&& 2 ^ a = 0 then prV mixF i (i ||| 2 ^ a) V else V) m V) q ∧ sZ (fun r => wtN a m r * q r) (2 ^ n) = 2 * s := by
    intro m
    induction m with
    | zero =>
      intro _
      obtain ⟨q, h1, h2⟩ := h
      refine ⟨q, h1, ?_⟩
      rw [← h2, ← sZ_m]
      exact sZ_c (fun r _ => by unfold wtN; rw [if_neg (Nat.not_lt_zero _)])
    | succ m ih =>
      intro hm
      obtain ⟨q, h1, h2⟩ := ih (by omega)
      by_cases c : m &&& 2 ^ a = 0
      · obtain ⟨hj, hij⟩ := b_or n hn a ha m (by omega) c
        obtain ⟨q', k1, k2, k3⟩ := n_pr (i := m) (j := m ||| 2 ^ a) hij (by omega) hj n_mix h1
        refine ⟨q', ?_, ?_⟩
        · show NF (2 ^ n) (if m &&& 2 ^ a = 0 then _ else _) q'
          rw [if_pos c]; exact k1
        · rw [← h2]
          have w : ∀ r, r < 2 ^ n → (bsN a r = m ↔ r = m ∨ r = m ||| 2 ^ a) := fun r hr => by
            rw [(bs_i hn ha hr (show m < 2 ^ n by omega)).2]; exact ⟨fun h => h.2, fun h => ⟨c, h⟩⟩
          have wi := (w m (by omega)).mpr (Or.inl rfl)
          have wj := (w (m ||| 2 ^ a) hj).mpr (Or.inr rfl)
          have e1 : wtN a (m + 1) m = 1 := by unfold wtN; rw [if_pos (by omega)]
          have e2 : wtN a (m + 1) (m ||| 2 ^ a) = 1 := by unfold wtN; rw [if_pos (by omega)]
          have e3 : wtN a m m = 2 := by unfold wtN; rw [if_neg (by omega)]
          have e4 : wtN a m (m ||| 2 ^ a) = 2 := by unfold wtN; rw [if_neg (by omega)]
          have hc : sZ (fun r => wtN a (m + 1) r * q' r) (2 ^ n) = sZ (fun r => if r = m ∨ r = m ||| 2 ^ a then q' r else wtN a m r * q r) (2 ^ n) := sZ_c (fun r hr => by
            by_cases e : r = m ∨ r = m ||| 2 ^ a
            · rw [if_pos e]
              have : wtN a (m + 1) r = 1 := by
                rcases e with e | e
                · rw [e, e1]
                · rw [e, e2]
              rw [this, Int.one_mul]
            · rw [if_neg e, k2 r (fun h => e (Or.inl h)) (fun h => e (Or.inr h))]
              have : wtN a (m + 1) r = wtN a m r := by
                have hb : bsN a r ≠ m := fun h => e ((w r hr).mp h)
                unfold wtN
                by_cases e9 : bsN a r < m
                · rw [if_pos e9, if_pos (by omega)]
                · rw [if_neg e9, if_neg (by omega)]
              rw [this])
          rw [hc]
          refine sZ_2 hij (by omega) hj (fun r r1 r2 => by rw [if_neg (fun h => h.elim r1 r2)]) ?_
          show (if m = m ∨ m = m ||| 2 ^ a then q' m else wtN a m m * q m) + (if m ||| 2 ^ a = m ∨ m ||| 2 ^ a = m ||| 2 ^ a then q' (m ||| 2 ^ a) else wtN a m (m ||| 2 ^ a) * q (m ||| 2 ^ a)) = wtN a m m * q m + wtN a m (m ||| 2 ^ a) * q (m ||| 2 ^ a)
          rw [if_pos (Or.inl rfl), if_pos (Or.inr rfl), e3, e4, k3, Int.mul_add]
      · refine ⟨q, ?_, ?_⟩
        · show NF (2 ^ n) (if m &&& 2 ^ a = 0 then _ else _) q
          rw [if_neg c]; exact h1
        · rw [← h2]
          refine sZ_c (fun r hr => ?_)
          have hb : bsN a r ≠ m := fun h => c ((bs_i hn ha hr (show m < 2 ^ n by omega)).2.mp h).1
          show wtN a (m + 1) r * q r = wtN a m r * q r
          unfold wtN
          by_cases e9 : bsN a r < m
          · rw [if_pos e9, if_pos (by omega)]
          · rw [if_neg e9, if_neg (by omega)]
  obtain ⟨q, h1, h2⟩ := key (2 ^ n) (Nat.le_refl _)
  refine ⟨q, h1, ?_⟩
  rw [← h2]
  refine sZ_c (fun r hr => ?_)
  have := (bs_i hn ha hr hr).1
  show q r = wtN a (2 ^ n) r * q r
  unfold wtN
  rw [if_pos this, Int.one_mul]
theorem n_st {n g i : Nat} {V : Nat → Int64} {s : Int} (hn : n < 5) (hg : gv n g = true) (hi : i < 2 ^ n) (e1 : kN g ≠ 1) (h : NM n V s) : NM n (stG g i V) s := by
  obtain ⟨k1, k9, ha⟩ := gv_k hg
  have tb : (kN g = 4 ∨ kN g = 6 ∨ kN g = 9) → i &&& tbN g = 0 → i ||| tbN g < 2 ^ n ∧ i ≠ i ||| tbN g := fun hk h => by
    unfold tbN at h ⊢
    by_cases e9 : kN g = 9
    · rw [if_pos e9] at h ⊢; exact b_or n hn _ (gv_3 hg e9).1 i hi h
    · rw [if_neg e9] at h ⊢
      by_cases e6 : kN g = 6
      · rw [if_pos e6] at h ⊢; exact b_or n hn _ (gv_2 hg (by omega)).1 i hi h
      · rw [if_neg e6] at h ⊢; exact b_or n hn _ ha i hi h
  unfold stG
  rw [if_neg e1]
  by_cases e8 : kN g = 8
  · rw [if_pos e8]
    by_cases c : i &&& 2 ^ aN g ≠ 0 ∧ i &&& 2 ^ bN g = 0
    · rw [if_pos c]
      obtain ⟨j1, j2⟩ := b_sw n hn _ ha _ (gv_2 hg (by omega)).1 i hi c.1 c.2
      exact n_x j2 hi j1 h
    · rw [if_neg c]; exact h
  · rw [if_neg e8]
    by_cases e4 : kN g = 4 ∨ kN g = 6 ∨ kN g = 9
    · rw [if_pos e4]
      by_cases c : i &&& cbN g = cbN g ∧ i &&& tbN g = 0
      · rw [if_pos c]
        obtain ⟨j1, j2⟩ := tb e4 c.2
        exact n_x j2 hi j1 h
      · rw [if_neg c]; exact h
    · rw [if_neg e4]
      by_cases c : i &&& wbN g = wbN g
      · rw [if_pos c]
        obtain ⟨q, h1, h2⟩ := h
        exact ⟨q, n_tu h1, h2⟩
      · rw [if_neg c]; exact h
theorem n_act {n g : Nat} {V : Nat → Int64} {s : Int} (hn : n < 5) (hg : gv n g = true) (h : NM n V s) : NM n (actV n g V) (if kN g = 1 then 2 * s else s) := by
  unfold actV
  by_cases e1 : kN g = 1
  · rw [if_pos e1, foN_c (t := fun i V => if i &&& 2 ^ aN g = 0 then prV mixF i (i ||| 2 ^ aN g) V else V) (fun i V _ => by unfold stG; rw [if_pos e1])]
    exact n_H hn (gv_k hg).2.2 h
  · rw [if_neg e1]; exact n_fo (fun i V hi h => n_st hn hg hi e1 h) h
theorem n_acts {n : Nat} (hn : n < 5) : ∀ {L : List Nat} {V : Nat → Int64} {s : Int}, (∀ x ∈ L, gv n x = true) → NM n V s → NM n (acts n L V) (2 ^ hN L * s) := by
  intro L
  induction L with
  | nil => intro V s _ h; simpa [acts, hN] using h
  | cons g L ih =>
    intro V s hv h
    have h1 := ih (fun x hx => hv x (List.mem_cons_of_mem _ hx)) (n_act hn (hv g List.mem_cons_self) h)
    have e : hN (g :: L) = hN L + (if kN g = 1 then 1 else 0) := by
      unfold hN kN; rw [List.countP_cons]; simp
    rw [e]
    by_cases e1 : kN g = 1
    · rw [if_pos e1] at h1 ⊢
      rw [show (2 : Int) ^ (hN L + 1) * s = 2 ^ hN L * (2 * s) by rw [Int.pow_succ]; grind]
      exact h1
    · rw [if_neg e1] at h1 ⊢; exact h1
theorem n_eV {n b : Nat} (hb : b < 2 ^ n) : NM n (eV b) 1 := by
  refine ⟨fun r => if r = b then 1 else 0, fun r hr => ?_, ?_⟩
  · refine ⟨if r = b then 1 else 0, 0, 0, 0, ?_, ?_, ?_, ?_, ?_⟩
    · unfold eV
      by_cases e : r = b
      · rw [if_pos (by omega), if_pos e]; rfl
      · rw [if_neg (by omega), if_neg e]; rfl
    · unfold eV; rw [if_neg (by omega)]; rfl
    · unfold eV; rw [if_neg (by omega)]; rfl
    · unfold eV; rw [if_neg (by omega)]; rfl
    · show (if r = b then (1 : Int) else 0) = _
      by_cases e : r = b
      · rw [if_pos e]; rfl
      · rw [if_neg e]; rfl
  · have h := sZ_1 (F := fun _ => 0) (G := fun r => if r = b then (1 : Int) else 0) (i := b) hb (fun r hr => if_neg hr)
    have z : ∀ N, sZ (fun _ => 0) N = 0 := fun N => by
      induction N with
      | zero => rfl
      | succ N ih => show sZ (fun _ => 0) N + 0 = 0; rw [ih]; rfl
    rw [h, z, if_pos rfl]; rfl
theorem n_CV {n b d : Nat} {L : List Nat} (hn : n < 5) (hv : ∀ x ∈ L, gv n x = true) (hb : b < 2 ^ n) : NM n (CV n L b d) (2 ^ (d + hN L)) := by
  have h := n_GRn (d := d) (n_acts hn hv (n_eV hb))
  rw [Int.mul_one, ← Int.pow_add] at h
  exact h
theorem n_nz {c : Int} (h2 : Int64.ofInt c + Int64.ofInt c = 0) (hb : c * c ≤ 2 ^ 64) : c = 0 := by
  have l1 : c < 2 ^ 33 := by
    by_cases h : c < 2 ^ 33
    · exact h
    · have : (2 : Int) ^ 33 * 2 ^ 33 ≤ c * c := Int.mul_le_mul (by omega) (by omega) (by decide) (by omega)
      have e : (2 : Int) ^ 33 * 2 ^ 33 = 2 ^ 66 := by decide
      omega
  have l2 : -(2 ^ 33) < c := by
    by_cases h : -(2 ^ 33) < c
    · exact h
    · have : (2 : Int) ^ 33 * 2 ^ 33 ≤ (-c) * (-c) := Int.mul_le_mul (by omega) (by omega) (by decide) (by omega)
      rw [Int.neg_mul_neg] at this
      have e : (2 : Int) ^ 33 * 2 ^ 33 = 2 ^ 66 := by decide
      omega
  rw [← Int64.ofInt_add] at h2
  have h3 := congrArg Int64.toInt h2
  rw [Int64.toInt_ofInt_of_le (by omega) (by omega)] at h3
  have e : (0 : Int64).toInt = 0 := by decide
  omega
/-- a column does not vanish, not even doubled -/
theorem n_some {n b d : Nat} {L : List Nat} (hn : n < 5) (hv : ∀ x ∈ L, gv n x = true) (hb : b < 2 ^ n) (hd : d + hN L ≤ 64) : ∃ k, k < 4 * 2 ^ n ∧ CV n L b d k + CV n L b d k ≠ 0 := by
  obtain ⟨q, h1, h2⟩ := n_CV (d := d) hn hv hb
  by_cases hall : ∀ k, k < 4 * 2 ^ n → CV n L b d k + CV n L b d k = 0
  · exfalso
    have hp : (2 : Int) ^ (d + hN L) ≤ 2 ^ 64 := by
      have := Nat.pow_le_pow_right (n := 2) (by omega) hd
      exact_mod_cast this
    have hp0 : (0 : Int) < 2 ^ (d + hN L) := Int.pow_pos (by decide)
    have sq : ∀ x : Int, 0 ≤ x * x := fun x => by
      rcases Int.le_total 0 x with h | h
      · exact Int.mul_nonneg h h
      · rw [← Int.neg_mul_neg]; exact Int.mul_nonneg (by omega) (by omega)
    have nn : ∀ r, r < 2 ^ n → 0 ≤ q r := fun r hr => by
      obtain ⟨a0, a1, a2, a3, -, -, -, -, hq⟩ := h1 r hr
      have := sq a0; have := sq a1; have := sq a2; have := sq a3
      omega
    have z : ∀ r, r < 2 ^ n → q r = 0 := fun r hr => by
      have hle := (sZ_le nn hr).1
      obtain ⟨a0, a1, a2, a3, A0, A1, A2, A3, hq⟩ := h1 r hr
      have p0 := sq a0; have p1 := sq a1; have p2 := sq a2; have p3 := sq a3
      have v0 := hall (4 * r) (by omega); have v1 := hall (4 * r + 1) (by omega); have v2 := hall (4 * r + 2) (by omega); have v3 := hall (4 * r + 3) (by omega)
      rw [A0] at v0; rw [A1] at v1; rw [A2] at v2; rw [A3] at v3
      have z0 := n_nz v0 (by omega); have z1 := n_nz v1 (by omega); have z2 := n_nz v2 (by omega); have z3 := n_nz v3 (by omega)
      rw [hq, z0, z1, z2, z3]; rfl
    have : sZ q (2 ^ n) = 0 := by
      rw [sZ_c (F := fun _ => 0) (fun r hr => z r hr)]
      have z : ∀ N, sZ (fun _ => 0) N = 0 := fun N => by
        induction N with
        | zero => rfl
        | succ N ih => show sZ (fun _ => 0) N + 0 = 0; rw [ih]; rfl
      exact z _
    omega
  · by_cases he : ∃ k, k < 4 * 2 ^ n ∧ CV n L b d k + CV n L b d k ≠ 0
    · exact he
    · exact absurd (fun k hk => Classical.byContradiction (fun h => he ⟨k, hk, h⟩)) hall
