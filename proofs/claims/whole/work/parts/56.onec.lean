/-! The columns of circuits on one wire. -/
def Qr (V : Nat → Int64) (r : Nat) (a : Q4) : Prop := V (4 * r) = Int64.ofInt a.1 ∧ V (4 * r + 1) = Int64.ofInt a.2.1 ∧ V (4 * r + 2) = Int64.ofInt a.2.2.1 ∧ V (4 * r + 3) = Int64.ofInt a.2.2.2
theorem Qr_pn {F : Int64 → Int64 → Int64 × Int64} {V : Nat → Int64} {i j r : Nat} {a : Q4} (h : Qr V r a) (hi : r ≠ i) (hj : r ≠ j) : Qr (prV F i j V) r a := by
  have t0 := prV_at F i j r 0 V (by omega); have t1 := prV_at F i j r 1 V (by omega); have t2 := prV_at F i j r 2 V (by omega); have t3 := prV_at F i j r 3 V (by omega)
  simp only [Nat.add_zero] at t0
  rw [if_neg hi, if_neg hj] at t0 t1 t2 t3
  unfold Qr; rw [t0, t1, t2, t3]; exact h
theorem Qr_mix {V : Nat → Int64} {i j : Nat} {a b : Q4} (hij : i ≠ j) (h : Qr V i a) (h2 : Qr V j b) : Qr (prV mixF i j V) i (qA a b) ∧ Qr (prV mixF i j V) j (qA a (qN b)) := by
  obtain ⟨a0, a1, a2, a3⟩ := h
  obtain ⟨b0, b1, b2, b3⟩ := h2
  have t0 := fun r => prV_at mixF i j r 0 V (by omega); have t1 := fun r => prV_at mixF i j r 1 V (by omega); have t2 := fun r => prV_at mixF i j r 2 V (by omega); have t3 := fun r => prV_at mixF i j r 3 V (by omega)
  simp only [Nat.add_zero, a0, a1, a2, a3, b0, b1, b2, b3, mixF, ← Int64.ofInt_add, ← Int64.ofInt_sub] at t0 t1 t2 t3
  refine ⟨?_, ?_⟩
  · unfold Qr; rw [t0, t1, t2, t3, if_pos rfl, if_pos rfl, if_pos rfl, if_pos rfl]; exact ⟨rfl, rfl, rfl, rfl⟩
  · unfold Qr
    rw [t0, t1, t2, t3, if_neg (fun e => hij e.symm), if_pos rfl, if_neg (fun e => hij e.symm), if_pos rfl, if_neg (fun e => hij e.symm), if_pos rfl, if_neg (fun e => hij e.symm), if_pos rfl]
    exact ⟨rfl, rfl, rfl, rfl⟩
theorem Qr_ex {V : Nat → Int64} {i j : Nat} {a b : Q4} (hij : i ≠ j) (h : Qr V i a) (h2 : Qr V j b) : Qr (prV exF i j V) i b ∧ Qr (prV exF i j V) j a := by
  obtain ⟨a0, a1, a2, a3⟩ := h
  obtain ⟨b0, b1, b2, b3⟩ := h2
  have t0 := fun r => prV_at exF i j r 0 V (by omega); have t1 := fun r => prV_at exF i j r 1 V (by omega); have t2 := fun r => prV_at exF i j r 2 V (by omega); have t3 := fun r => prV_at exF i j r 3 V (by omega)
  simp only [Nat.add_zero, a0, a1, a2, a3, b0, b1, b2, b3, exF] at t0 t1 t2 t3
  refine ⟨?_, ?_⟩
  · unfold Qr; rw [t0, t1, t2, t3, if_pos rfl, if_pos rfl, if_pos rfl, if_pos rfl]; exact ⟨rfl, rfl, rfl, rfl⟩
  · unfold Qr
    rw [t0, t1, t2, t3, if_neg (fun e => hij e.symm), if_pos rfl, if_neg (fun e => hij e.symm), if_pos rfl, if_neg (fun e => hij e.symm), if_pos rfl, if_neg (fun e => hij e.symm), if_pos rfl]
    exact ⟨rfl, rfl, rfl, rfl⟩
theorem Qr_w1n {V : Nat → Int64} {i r : Nat} {a : Q4} (h : Qr V r a) (hi : r ≠ i) : Qr (w1 i V) r a := by
  have q0 := w1_at0 i r V; have q1 := w1_atp i r 0 V (by omega); have q2 := w1_atp i r 1 V (by omega); have q3 := w1_atp i r 2 V (by omega)
  simp only [Nat.add_zero, Nat.zero_add, Nat.reduceAdd] at q0 q1 q2 q3
  rw [if_neg hi] at q0 q1 q2 q3
  unfold Qr; rw [q0, q1, q2, q3]; exact h
theorem Qr_w1 {V : Nat → Int64} {i : Nat} {a : Q4} (h : Qr V i a) : Qr (w1 i V) i (qW a) := by
  have q0 := w1_at0 i i V; have q1 := w1_atp i i 0 V (by omega); have q2 := w1_atp i i 1 V (by omega); have q3 := w1_atp i i 2 V (by omega)
  simp only [Nat.add_zero, Nat.zero_add, Nat.reduceAdd] at q0 q1 q2 q3
  rw [if_pos trivial] at q0 q1 q2 q3
  obtain ⟨a0, a1, a2, a3⟩ := h
  unfold Qr; rw [q0, q1, q2, q3, a0, a1, a2, a3, ← Int64.ofInt_neg]; exact ⟨rfl, rfl, rfl, rfl⟩
theorem Qr_tun {i r : Nat} {a : Q4} (hi : r ≠ i) : ∀ {t : Nat} {V : Nat → Int64}, Qr V r a → Qr (tuV t i V) r a := by
  intro t
  induction t with
  | zero => intro V h; exact h
  | succ t ih => intro V h; exact ih (Qr_w1n h hi)
theorem Qr_GR {V : Nat → Int64} {i : Nat} {a : Q4} (h : Qr V i a) : Qr (GR V) i (qG a) := by
  obtain ⟨a0, a1, a2, a3⟩ := h
  unfold Qr; rw [GR0, GR1, GR2, GR3, a0, a1, a2, a3]
  simp only [← Int64.ofInt_add, ← Int64.ofInt_sub]
  exact ⟨rfl, rfl, rfl, rfl⟩
def PR (V : Nat → Int64) (r s : Nat) (x : V8) : Prop := Qr V r x.1 ∧ Qr V s x.2
theorem pr_GRn {r s : Nat} : ∀ {d : Nat} {V : Nat → Int64} {x : V8}, PR V r s x → PR (GRn d V) r s (itV vG d x) := by
  intro d
  induction d with
  | zero => intro V x h; exact h
  | succ d ih => intro V x h; exact ih (V := GR V) (x := vG x) ⟨Qr_GR h.1, Qr_GR h.2⟩
theorem pr_fo {st : Nat → (Nat → Int64) → Nat → Int64} {N r s m0 : Nat} {V : Nat → Int64} {x y : V8} (hm : m0 < N) (h1 : ∀ i V z, i < N → i ≠ m0 → PR V r s z → PR (st i V) r s z) (h2 : ∀ V, PR V r s x → PR (st m0 V) r s y) (h : PR V r s x) : PR (foN st N V) r s y := by
  have key : ∀ m, m ≤ N → PR (foN st m V) r s (if m0 < m then y else x) := by
    intro m
    induction m with
    | zero => intro _; rw [if_neg (Nat.not_lt_zero _)]; exact h
    | succ m ih =>
      intro hm
      have i := ih (by omega)
      show PR (st m (foN st m V)) r s _
      by_cases e : m = m0
      · subst e
        rw [if_neg (Nat.lt_irrefl _)] at i
        rw [if_pos (by omega)]
        exact h2 _ i
      · have := h1 m _ _ (by omega) e i
        by_cases c : m0 < m
        · rw [if_pos c] at this; rw [if_pos (by omega)]; exact this
        · rw [if_neg c] at this; rw [if_neg (by omega)]; exact this
  have := key N (Nat.le_refl _)
  rw [if_pos hm] at this; exact this
theorem bp_ck : ∀ n, n < 5 → ∀ a, a < n → ∀ r, r < 2 ^ n → ∀ i, i < 2 ^ n → (r &&& 2 ^ a != 0 || (decide (r ||| 2 ^ a < 2 ^ n) && r != r ||| 2 ^ a && ((r ||| 2 ^ a) &&& 2 ^ a == 2 ^ a) && (r &&& 2 ^ a != 2 ^ a)) && (i &&& 2 ^ a != 0 || i == r || (r != i && r != i ||| 2 ^ a && (r ||| 2 ^ a) != i && (r ||| 2 ^ a) != i ||| 2 ^ a))) = true := by decide +kernel
theorem bp_1 {n a r : Nat} (hn : n < 5) (ha : a < n) (hr : r < 2 ^ n) (hb : r &&& 2 ^ a = 0) : r ||| 2 ^ a < 2 ^ n ∧ r ≠ r ||| 2 ^ a ∧ (r ||| 2 ^ a) &&& 2 ^ a = 2 ^ a ∧ r &&& 2 ^ a ≠ 2 ^ a := by
  have h := bp_ck n hn a ha r hr r hr
  simp only [Bool.and_eq_true, Bool.or_eq_true, decide_eq_true_eq, beq_iff_eq, bne_iff_ne] at h
  rcases h with h | h
  · exact absurd hb h
  · exact ⟨h.1.1.1.1, h.1.1.1.2, h.1.1.2, h.1.2⟩
theorem bp_2 {n a r i : Nat} (hn : n < 5) (ha : a < n) (hr : r < 2 ^ n) (hi : i < 2 ^ n) (hb : r &&& 2 ^ a = 0) (hc : i &&& 2 ^ a = 0) (hne : i ≠ r) : r ≠ i ∧ r ≠ i ||| 2 ^ a ∧ r ||| 2 ^ a ≠ i ∧ r ||| 2 ^ a ≠ i ||| 2 ^ a := by
  have h := bp_ck n hn a ha r hr i hi
  simp only [Bool.and_eq_true, Bool.or_eq_true, decide_eq_true_eq, beq_iff_eq, bne_iff_ne] at h
  rcases h with h | h
  · exact absurd hb h
  · rcases h.2 with (h | h) | h
    · exact absurd hc h
    · exact absurd h hne
    · exact ⟨h.1.1.1, h.1.1.2, h.1.2, h.2⟩
theorem gi_tb : ∀ k, k < 6 → ∀ w, w < 4 → tbN (gi k w) = 2 ^ w ∧ cbN (gi k w) = (if k = 4 then 0 else cbN (gi k w)) ∧ wbN (gi k w) = 2 ^ w ∧ aN (gi k w) = w ∧ kN (gi k w) = k ∧ tuN (gi k w) = (if k = 3 then 1 else if k = 2 then 2 else if k = 5 then 4 else 0) := by decide +kernel
theorem pr_gate {n w k r : Nat} {V : Nat → Int64} {x : V8} (hn : n < 5) (hw : w < n) (k1 : 1 ≤ k) (k5 : k ≤ 5) (hr : r < 2 ^ n) (hb : r &&& 2 ^ w = 0) (h : PR V r (r ||| 2 ^ w) x) : PR (actV n (gi k w) V) r (r ||| 2 ^ w) (v1 k x) := by
  obtain ⟨t1, t2, t3, t4, t5, t6⟩ := gi_tb k (by omega) w (by omega)
  obtain ⟨s1, s2, s3, s4⟩ := bp_1 hn hw hr hb
  unfold actV
  by_cases e1 : k = 1
  · refine pr_fo (m0 := r) hr (fun i V z hi hne hz => ?_) (fun V hx => ?_) h
    · unfold stG
      rw [t5, if_pos e1, t4]
      by_cases c : i &&& 2 ^ w = 0
      · rw [if_pos c]
        obtain ⟨b1, b2, b3, b4⟩ := bp_2 hn hw hr hi hb c hne
        exact ⟨Qr_pn hz.1 b1 b2, Qr_pn hz.2 b3 b4⟩
      · rw [if_neg c]; exact hz
    · unfold stG v1
      rw [t5, if_pos e1, t4, if_pos hb, if_pos e1]
      exact Qr_mix s2 hx.1 hx.2
  · by_cases e4 : k = 4
    · rw [if_pos e4] at t2
      refine pr_fo (m0 := r) hr (fun i V z hi hne hz => ?_) (fun V hx => ?_) h
      · unfold stG
        rw [t5, if_neg e1, if_neg (by omega), if_pos (Or.inl e4), t1, t2]
        by_cases c : i &&& 2 ^ w = 0
        · rw [if_pos ⟨Nat.and_zero _, c⟩]
          obtain ⟨b1, b2, b3, b4⟩ := bp_2 hn hw hr hi hb c hne
          exact ⟨Qr_pn hz.1 b1 b2, Qr_pn hz.2 b3 b4⟩
        · rw [if_neg (fun h => c h.2)]; exact hz
      · unfold stG v1
        rw [t5, if_neg e1, if_neg (by omega), if_pos (Or.inl e4), t1, t2, if_pos ⟨Nat.and_zero _, hb⟩, if_neg e1, if_neg (by omega), if_neg (by omega), if_pos e4]
        exact Qr_ex s2 hx.1 hx.2
    · refine pr_fo (m0 := r ||| 2 ^ w) s1 (fun i V z hi hne hz => ?_) (fun V hx => ?_) h
      · unfold stG
        rw [t5, if_neg e1, if_neg (by omega), if_neg (by omega), t3]
        by_cases c : i &&& 2 ^ w = 2 ^ w
        · rw [if_pos c]
          exact ⟨Qr_tun (fun e : r = i => s4 (by rw [e]; exact c)) hz.1, Qr_tun (fun e => hne e.symm) hz.2⟩
        · rw [if_neg c]; exact hz
      · unfold stG v1
        rw [t5, if_neg e1, if_neg (by omega), if_neg (by omega), t3, if_pos s3, if_neg (by omega), t6, if_neg e1]
        rcases (show k = 2 ∨ k = 3 ∨ k = 5 by omega) with e | e | e
        · subst e
          exact ⟨Qr_tun s2 hx.1, Qr_w1 (Qr_w1 hx.2)⟩
        · subst e
          exact ⟨Qr_tun s2 hx.1, Qr_w1 hx.2⟩
        · subst e
          refine ⟨Qr_tun s2 hx.1, ?_⟩
          have := Qr_w1 (Qr_w1 (Qr_w1 (Qr_w1 hx.2)))
          exact this
theorem pr_acts {n w r : Nat} (hn : n < 5) (hw : w < n) (hr : r < 2 ^ n) (hb : r &&& 2 ^ w = 0) : ∀ {K : List Nat} {V : Nat → Int64} {x : V8}, (∀ k ∈ K, 1 ≤ k ∧ k ≤ 5) → PR V r (r ||| 2 ^ w) x → PR (acts n (K.map (fun k => gi k w)) V) r (r ||| 2 ^ w) (fdK K x) := by
  intro K
  induction K with
  | nil => intro V x _ h; exact h
  | cons k K ih =>
    intro V x hk h
    obtain ⟨k1, k5⟩ := hk k List.mem_cons_self
    exact ih (fun y hy => hk y (List.mem_cons_of_mem _ hy)) (pr_gate hn hw k1 k5 hr hb h)
theorem pr_CV {n w r d b : Nat} (hn : n < 5) (hw : w < n) (hr : r < 2 ^ n) (hb : r &&& 2 ^ w = 0) {K : List Nat} (hk : ∀ k ∈ K, 1 ≤ k ∧ k ≤ 5) : PR (CV n (K.map (fun k => gi k w)) b d) r (r ||| 2 ^ w) (itV vG d (fdK K ((if r = b then 1 else 0, 0, 0, 0), (if r ||| 2 ^ w = b then 1 else 0, 0, 0, 0)))) := by
  refine pr_GRn (pr_acts hn hw hr hb hk ?_)
  have z : ∀ r, Qr (eV b) r (if r = b then 1 else 0, 0, 0, 0) := fun r => by
    unfold Qr eV
    refine ⟨?_, ?_, ?_, ?_⟩
    · by_cases e : r = b
      · rw [if_pos (by omega), if_pos e]; rfl
      · rw [if_neg (by omega), if_neg e]; rfl
    · rw [if_neg (by omega)]; rfl
    · rw [if_neg (by omega)]; rfl
    · rw [if_neg (by omega)]; rfl
  exact ⟨z _, z _⟩
theorem tw_q {W : Nat → Int64} {i : Nat} {q : Q4} (h : Qr W i q) : ∀ r, r < 8 → ∀ x y : V8, (x = itV vW r y) → (y.1 = q → Qr (fun j => twP r W j) i x.1) ∧ (y.2 = q → Qr (fun j => twP r W j) i x.2) := by
  obtain ⟨h0, h1, h2, h3⟩ := h
  intro r hr x y e
  have t0 := xt_tw W i 0 r (by omega) hr; have t1 := xt_tw W i 1 r (by omega) hr; have t2 := xt_tw W i 2 r (by omega) hr; have t3 := xt_tw W i 3 r (by omega) hr
  simp only [Nat.add_zero, Nat.zero_add] at t0
  subst e
  unfold Qr
  simp only [t0, t1, t2, t3]
  refine ⟨fun eq => ?_, fun eq => ?_⟩
  · subst eq
    rcases (show r = 0 ∨ r = 1 ∨ r = 2 ∨ r = 3 ∨ r = 4 ∨ r = 5 ∨ r = 6 ∨ r = 7 by omega) with rfl | rfl | rfl | rfl | rfl | rfl | rfl | rfl <;> simp [xtV, itV, vW, qW, h0, h1, h2, h3, Int64.ofInt_neg]
  · subst eq
    rcases (show r = 0 ∨ r = 1 ∨ r = 2 ∨ r = 3 ∨ r = 4 ∨ r = 5 ∨ r = 6 ∨ r = 7 by omega) with rfl | rfl | rfl | rfl | rfl | rfl | rfl | rfl <;> simp [xtV, itV, vW, qW, h0, h1, h2, h3, Int64.ofInt_neg]
theorem ro_K (w : Nat) (H : List Nat) : roL w H = (roK H).map (fun k => gi k w) := by
  unfold roL roK
  rw [List.map_flatMap]
  congr 1
  funext h
  unfold rdG rdK
  by_cases e0 : h = 0
  · subst e0; rfl
  · by_cases e2 : h = 2
    · subst e2; rfl
    · rw [if_neg e0, if_neg e2, if_neg e0, if_neg e2]; rfl
theorem fm_K (w : Nat) (x : FS) : fmL w x = (fkK x).map (fun k => gi k w) := by
  unfold fmL fkK; rw [ro_K, List.map_append]
theorem fk_15 (x : FS) : ∀ k ∈ fkK x, 1 ≤ k ∧ k ≤ 5 := by
  intro k hk
  unfold fkK at hk
  rcases List.mem_append.mp hk with h | h
  · have h1 := List.all_eq_true.mp (wd_12 _ (wo_lt x.2)).1 k h
    simp only [Bool.or_eq_true, beq_iff_eq] at h1
    omega
  · unfold roK at h
    obtain ⟨y, -, hy⟩ := List.mem_flatMap.mp h
    unfold rdK at hy
    rcases List.mem_append.mp hy with h | h
    · rcases List.mem_append.mp h with h | h
      · have := List.mem_singleton.mp h; omega
      · split at h
        · cases h
        · have := List.mem_singleton.mp h; omega
    · split at h
      · have := List.mem_singleton.mp h; omega
      · cases h
theorem hN_K (w : Nat) : ∀ (K : List Nat), (∀ k ∈ K, 1 ≤ k ∧ k ≤ 5) → hN (K.map (fun k => gi k w)) = hK K := by
  intro K
  induction K with
  | nil => intro _; rfl
  | cons k K ih =>
    intro h
    have h1 := ih (fun y hy => h y (List.mem_cons_of_mem _ hy))
    have h2 := h k List.mem_cons_self
    unfold hN hK at h1 ⊢
    rw [List.map_cons, List.countP_cons, List.countP_cons, h1]
    have e : gi k w % 10 = k := by unfold gi; omega
    rw [e]
theorem K_of {n w : Nat} {L : List Nat} (h : ∀ g ∈ L, gv n g = true ∧ kN g ≤ 5 ∧ aN g = w) : (L.map kN).map (fun k => gi k w) = L := by
  rw [List.map_map]
  conv => rhs; rw [← List.map_id L]
  refine List.map_congr_left (fun g hg => ?_)
  obtain ⟨h1, h2, h3⟩ := h g hg
  have := gv1 h1 (by omega)
  show gi (kN g) w = g
  rw [← h3]; exact this.symm
/-- the least form is the circuit but for a turn -/
theorem one_ok {n w : Nat} {L : List Nat} (hn : n < 5) (hw : w < n) (h : ∀ g ∈ L, gv n g = true ∧ kN g ≤ 5 ∧ aN g = w) : okF (takC L) ∧ ∃ r, r < 8 ∧ trA n r L (fmL w (takC L)) = true := by
  obtain ⟨i1, r, hr, i2⟩ := r1_all L (fun g hg => ⟨(gv_k (h g hg).1).1, (h g hg).2.1⟩)
  refine ⟨i1, r, hr, ?_⟩
  have k1 : ∀ k ∈ L.map kN, 1 ≤ k ∧ k ≤ 5 := fun k hk => by
    obtain ⟨g, hg, rfl⟩ := List.mem_map.mp hk
    exact ⟨(gv_k (h g hg).1).1, (h g hg).2.1⟩
  have k2 := fk_15 (takC L)
  have eL := K_of h
  generalize L.map kN = K at i2 k1 eL
  rw [fm_K]
  generalize fkK (takC L) = M at i2 k2
  rw [← eL]
  unfold trA
  have em : mxH (K.map (fun k => gi k w)) (M.map (fun k => gi k w)) = if hK K < hK M then hK M else hK K := by unfold mxH; rw [hN_K w K k1, hN_K w M k2]
  rw [em, hN_K w K k1, hN_K w M k2]
  obtain ⟨m, hm⟩ : ∃ m, m = if hK K < hK M then hK M else hK K := ⟨_, rfl⟩
  rw [← hm]
  have hm2 : hK K ≤ m ∧ hK M ≤ m ∧ m ≤ hK K + hK M := by rw [hm]; split <;> omega
  have red : ∀ x, itV vG (m - hK K) (fdK K x) = itV vW r (itV vG (m - hK M) (fdK M x)) := fun x => by
    have e := i2 x
    obtain ⟨c, hc⟩ : ∃ c, c = hK K + hK M - m := ⟨_, rfl⟩
    have e1 : hK M = (m - hK K) + c := by omega
    have e2 : hK K = (m - hK M) + c := by omega
    have g1 : itV vG (hK M) (fdK K x) = itV vG c (itV vG (m - hK K) (fdK K x)) := by
      conv => lhs; rw [e1]
      exact it_a _ _ _
    have g2 : itV vG (hK K) (fdK M x) = itV vG c (itV vG (m - hK M) (fdK M x)) := by
      conv => lhs; rw [e2]
      exact it_a _ _ _
    rw [g1, g2] at e
    refine itG_i (n := c) ?_
    rw [e, it_cc gw_c]
  rw [allN_t]
  intro b _
  unfold trB
  rw [allN_t]
  intro j hj
  rw [beq_iff_eq]
  obtain ⟨b1, b2⟩ := bs_i hn hw (show j / 4 < 2 ^ n by omega) (show j / 4 < 2 ^ n by omega)
  obtain ⟨-, b4⟩ := bs_i hn hw (show j / 4 < 2 ^ n by omega) b1
  obtain ⟨b5, b6⟩ := b4.mp rfl
  generalize bsN w (j / 4) = q at b1 b5 b6
  have pV := pr_CV (d := m - hK K) (b := b) hn hw b1 b5 k1
  have pW := pr_CV (d := m - hK M) (b := b) hn hw b1 b5 k2
  have hx := red ((if q = b then 1 else 0, 0, 0, 0), (if q ||| 2 ^ w = b then 1 else 0, 0, 0, 0))
  have tW1 := (tw_q pW.1 r hr _ _ hx).1 rfl
  have tW2 := (tw_q pW.2 r hr _ _ hx).2 rfl
  have fin : ∀ (A B : Nat → Int64) (i : Nat) (a : Q4), Qr A i a → Qr B i a → ∀ p, p < 4 → A (4 * i + p) = B (4 * i + p) := fun A B i a h1 h2 p hp => by
    rcases (show p = 0 ∨ p = 1 ∨ p = 2 ∨ p = 3 by omega) with rfl | rfl | rfl | rfl
    · exact h1.1.trans h2.1.symm
    · exact h1.2.1.trans h2.2.1.symm
    · exact h1.2.2.1.trans h2.2.2.1.symm
    · exact h1.2.2.2.trans h2.2.2.2.symm
  have ej : j = 4 * (j / 4) + j % 4 := by omega
  rcases b6 with e | e
  · have := fin _ _ _ _ pV.1 tW1 (j % 4) (by omega)
    rw [← e, ← ej] at this; exact this
  · have := fin _ _ _ _ pV.2 tW2 (j % 4) (by omega)
    rw [← e, ← ej] at this; exact this
