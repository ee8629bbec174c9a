/-! Columns that agree on the rows that there are; the root of two goes through gates. -/
def AG (n : Nat) (V W : Nat → Int64) : Prop := ∀ k, k < 4 * 2 ^ n → V k = W k
theorem AG.rf {n : Nat} {V : Nat → Int64} : AG n V V := fun _ _ => rfl
theorem AG.sy {n : Nat} {V W : Nat → Int64} (h : AG n V W) : AG n W V := fun k hk => (h k hk).symm
theorem AG.tr {n : Nat} {U V W : Nat → Int64} (h : AG n U V) (h2 : AG n V W) : AG n U W := fun k hk => (h k hk).trans (h2 k hk)
theorem ag_pr {n i j : Nat} {F : Int64 → Int64 → Int64 × Int64} {V W : Nat → Int64} (hi : i < 2 ^ n) (hj : j < 2 ^ n) (h : AG n V W) : AG n (prV F i j V) (prV F i j W) := fun k hk => by
  unfold prV
  rw [h k hk, h (4 * j + k % 4) (by omega), h (4 * i + k % 4) (by omega)]
theorem ag_w1 {n i : Nat} {V W : Nat → Int64} (h : AG n V W) : AG n (w1 i V) (w1 i W) := fun k hk => by
  unfold w1
  by_cases e : k / 4 = i
  · rw [if_pos e, if_pos e]
    by_cases e0 : k % 4 = 0
    · rw [if_pos e0, if_pos e0, h (4 * i + 3) (by omega)]
    · rw [if_neg e0, if_neg e0, h (k - 1) (by omega)]
  · rw [if_neg e, if_neg e, h k hk]
theorem ag_tu {n i : Nat} {V W : Nat → Int64} (t : Nat) (h : AG n V W) : AG n (tuV t i V) (tuV t i W) := by
  induction t generalizing V W with
  | zero => exact h
  | succ t ih => exact ih (ag_w1 h)
theorem ag_gr {n i : Nat} {V W : Nat → Int64} (h : AG n V W) : AG n (grV i V) (grV i W) := fun k hk => by
  unfold grV
  by_cases e : k / 4 = i
  · rw [if_pos e, if_pos e, h (4 * i) (by omega), h (4 * i + 1) (by omega), h (4 * i + 2) (by omega), h (4 * i + 3) (by omega)]
  · rw [if_neg e, if_neg e, h k hk]
theorem ag_fo {n : Nat} {st : Nat → (Nat → Int64) → Nat → Int64} : ∀ {m : Nat} {V W : Nat → Int64}, (∀ i V W, i < m → AG n V W → AG n (st i V) (st i W)) → AG n V W → AG n (foN st m V) (foN st m W) := by
  intro m
  induction m with
  | zero => intro V W _ h; exact h
  | succ m ih => intro V W hs h; exact hs m _ _ (by omega) (ih (fun i V W hi => hs i V W (by omega)) h)
theorem st_j {n g i : Nat} (hn : n < 5) (hg : gv n g = true) (hi : i < 2 ^ n) : (kN g = 1 → i &&& 2 ^ aN g = 0 → i ||| 2 ^ aN g < 2 ^ n) ∧ (kN g = 8 → i &&& 2 ^ aN g ≠ 0 → i &&& 2 ^ bN g = 0 → i ^^^ 2 ^ aN g ^^^ 2 ^ bN g < 2 ^ n) ∧ (kN g = 4 ∨ kN g = 6 ∨ kN g = 9 → i &&& tbN g = 0 → i ||| tbN g < 2 ^ n) := by
  obtain ⟨k1, k9, ha⟩ := gv_k hg
  refine ⟨fun _ h => (b_or n hn _ ha i hi h).1, fun h8 h h2 => (b_sw n hn _ ha _ (gv_2 hg (by omega)).1 i hi h h2).1, fun hk h => ?_⟩
  unfold tbN at h ⊢
  by_cases e9 : kN g = 9
  · rw [if_pos e9] at h ⊢; exact (b_or n hn _ (gv_3 hg e9).1 i hi h).1
  · rw [if_neg e9] at h ⊢
    by_cases e6 : kN g = 6
    · rw [if_pos e6] at h ⊢; exact (b_or n hn _ (gv_2 hg (by omega)).1 i hi h).1
    · rw [if_neg e6] at h ⊢; exact (b_or n hn _ ha i hi h).1
theorem ag_st {n g i : Nat} {V W : Nat → Int64} (hn : n < 5) (hg : gv n g = true) (hi : i < 2 ^ n) (h : AG n V W) : AG n (stG g i V) (stG g i W) := by
  obtain ⟨j1, j2, j3⟩ := st_j hn hg hi
  unfold stG
  by_cases e1 : kN g = 1
  · rw [if_pos e1, if_pos e1]
    by_cases c : i &&& 2 ^ aN g = 0
    · rw [if_pos c, if_pos c]; exact ag_pr hi (j1 e1 c) h
    · rw [if_neg c, if_neg c]; exact h
  · rw [if_neg e1, if_neg e1]
    by_cases e8 : kN g = 8
    · rw [if_pos e8, if_pos e8]
      by_cases c : i &&& 2 ^ aN g ≠ 0 ∧ i &&& 2 ^ bN g = 0
      · rw [if_pos c, if_pos c]; exact ag_pr hi (j2 e8 c.1 c.2) h
      · rw [if_neg c, if_neg c]; exact h
    · rw [if_neg e8, if_neg e8]
      by_cases e4 : kN g = 4 ∨ kN g = 6 ∨ kN g = 9
      · rw [if_pos e4, if_pos e4]
        by_cases c : i &&& cbN g = cbN g ∧ i &&& tbN g = 0
        · rw [if_pos c, if_pos c]; exact ag_pr hi (j3 e4 c.2) h
        · rw [if_neg c, if_neg c]; exact h
      · rw [if_neg e4, if_neg e4]
        by_cases c : i &&& wbN g = wbN g
        · rw [if_pos c, if_pos c]; exact ag_tu _ h
        · rw [if_neg c, if_neg c]; exact h
theorem ag_act {n g : Nat} {V W : Nat → Int64} (hn : n < 5) (hg : gv n g = true) (h : AG n V W) : AG n (actV n g V) (actV n g W) :=
  ag_fo (fun i V W hi h => ag_st hn hg hi h) h
theorem ag_acts {n : Nat} (hn : n < 5) : ∀ {L : List Nat} {V W : Nat → Int64}, (∀ x ∈ L, gv n x = true) → AG n V W → AG n (acts n L V) (acts n L W) := by
  intro L
  induction L with
  | nil => intro V W _ h; exact h
  | cons g t ih => intro V W hv h; exact ih (fun x hx => hv x (List.mem_cons_of_mem _ hx)) (ag_act hn (hv g List.mem_cons_self) h)
def GR (V : Nat → Int64) : Nat → Int64 := fun k => grV (k / 4) V k
def GRn : Nat → (Nat → Int64) → Nat → Int64
  | 0, V => V
  | d + 1, V => GRn d (GR V)
theorem gr_at {i k : Nat} {V W : Nat → Int64} (hk : k / 4 = i) (h : ∀ p, p < 4 → V (4 * i + p) = W (4 * i + p)) : grV i V k = grV i W k := by
  unfold grV
  have h0 := h 0 (by omega); have h1 := h 1 (by omega); have h2 := h 2 (by omega); have h3 := h 3 (by omega)
  simp only [Nat.add_zero] at h0
  rw [if_pos hk, if_pos hk, h0, h1, h2, h3]
theorem fo_gr (m : Nat) (V : Nat → Int64) (k : Nat) : foN grV m V k = if k / 4 < m then GR V k else V k := by
  induction m generalizing k with
  | zero => rw [if_neg (by omega)]; rfl
  | succ m ih =>
    show grV m (foN grV m V) k = _
    by_cases e : k / 4 = m
    · rw [if_pos (by omega), gr_at (W := V) e (fun p hp => by rw [ih]; rw [if_neg (by omega)])]
      unfold GR; rw [e]
    · rw [show grV m (foN grV m V) k = foN grV m V k from by unfold grV; rw [if_neg e], ih]
      by_cases e2 : k / 4 < m
      · rw [if_pos e2, if_pos (by omega)]
      · rw [if_neg e2, if_neg (by omega)]
theorem ag_GR {n : Nat} {V W : Nat → Int64} (h : AG n V W) : AG n (GR V) (GR W) := fun k hk => by
  unfold GR
  exact gr_at rfl (fun p hp => h _ (by omega))
theorem ag_GRn {n : Nat} : ∀ {d : Nat} {V W : Nat → Int64}, AG n V W → AG n (GRn d V) (GRn d W) := by
  intro d
  induction d with
  | zero => intro V W h; exact h
  | succ d ih => intro V W h; exact ih (ag_GR h)
theorem ag_fgr {n m : Nat} (hm : n ≤ m) (V : Nat → Int64) : AG n (foN grV (2 ^ m) V) (GR V) := fun k hk => by
  have : 2 ^ n ≤ 2 ^ m := Nat.pow_le_pow_right (n := 2) (by omega) hm
  rw [fo_gr, if_pos (by omega)]
theorem ag_rt {n m : Nat} (hm : n ≤ m) : ∀ (d : Nat) (V : Nat → Int64), AG n (rtV m d V) (GRn d V) := by
  intro d
  induction d with
  | zero => intro V; exact AG.rf
  | succ d ih => intro V; exact (ih _).tr (ag_GRn (ag_fgr hm V))
theorem r0 (i : Nat) : (4 * i) / 4 = i := by omega
theorem r1 (i : Nat) : (4 * i + 1) / 4 = i := by omega
theorem r2 (i : Nat) : (4 * i + 2) / 4 = i := by omega
theorem r3 (i : Nat) : (4 * i + 3) / 4 = i := by omega
theorem s0 (i : Nat) : (4 * i) % 4 = 0 := by omega
theorem s1 (i : Nat) : (4 * i + 1) % 4 = 1 := by omega
theorem s2 (i : Nat) : (4 * i + 2) % 4 = 2 := by omega
theorem s3 (i : Nat) : (4 * i + 3) % 4 = 3 := by omega
theorem GR0 (V : Nat → Int64) (i : Nat) : GR V (4 * i) = V (4 * i + 1) - V (4 * i + 3) := by unfold GR grV; rw [r0, if_pos rfl, s0, if_pos rfl]
theorem GR1 (V : Nat → Int64) (i : Nat) : GR V (4 * i + 1) = V (4 * i) + V (4 * i + 2) := by unfold GR grV; rw [r1, if_pos rfl, s1, if_neg (by decide), if_pos rfl]
theorem GR2 (V : Nat → Int64) (i : Nat) : GR V (4 * i + 2) = V (4 * i + 1) + V (4 * i + 3) := by unfold GR grV; rw [r2, if_pos rfl, s2, if_neg (by decide), if_neg (by decide), if_pos rfl]
theorem GR3 (V : Nat → Int64) (i : Nat) : GR V (4 * i + 3) = V (4 * i + 2) - V (4 * i) := by unfold GR grV; rw [r3, if_pos rfl, s3, if_neg (by decide), if_neg (by decide), if_neg (by decide)]
theorem ext4 {V W : Nat → Int64} (h : ∀ i, V (4 * i) = W (4 * i) ∧ V (4 * i + 1) = W (4 * i + 1) ∧ V (4 * i + 2) = W (4 * i + 2) ∧ V (4 * i + 3) = W (4 * i + 3)) : V = W := by
  funext k
  obtain ⟨h0, h1, h2, h3⟩ := h (k / 4)
  rcases row4 (k := k) rfl with e | e | e | e
  · rw [e]; exact h0
  · rw [e]; exact h1
  · rw [e]; exact h2
  · rw [e]; exact h3
theorem prV_at (F : Int64 → Int64 → Int64 × Int64) (i j r p : Nat) (V : Nat → Int64) (hp : p < 4) : prV F i j V (4 * r + p) = if r = i then (F (V (4 * i + p)) (V (4 * j + p))).1 else if r = j then (F (V (4 * i + p)) (V (4 * j + p))).2 else V (4 * r + p) := by
  unfold prV
  rw [show (4 * r + p) / 4 = r by omega, show (4 * r + p) % 4 = p by omega]
  by_cases e : r = i
  · rw [if_pos e, if_pos e, e]
  · rw [if_neg e, if_neg e]
    by_cases e2 : r = j
    · rw [if_pos e2, if_pos e2, e2]
    · rw [if_neg e2, if_neg e2]
theorem w1_at0 (i r : Nat) (V : Nat → Int64) : w1 i V (4 * r) = if r = i then -V (4 * r + 3) else V (4 * r) := by
  unfold w1; rw [r0, s0]
  by_cases e : r = i
  · rw [if_pos e, if_pos e, if_pos rfl, e]
  · rw [if_neg e, if_neg e]
theorem w1_atp (i r p : Nat) (V : Nat → Int64) (hp : p < 3) : w1 i V (4 * r + (p + 1)) = if r = i then V (4 * r + p) else V (4 * r + (p + 1)) := by
  unfold w1; rw [show (4 * r + (p + 1)) / 4 = r by omega, show (4 * r + (p + 1)) % 4 = p + 1 by omega]
  by_cases e : r = i
  · rw [if_pos e, if_pos e, if_neg (by omega)]; rfl
  · rw [if_neg e, if_neg e]
theorem GR_pr {F : Int64 → Int64 → Int64 × Int64} (hF : ∀ a b c d, (F (a + b) (c + d)).1 = (F a c).1 + (F b d).1 ∧ (F (a + b) (c + d)).2 = (F a c).2 + (F b d).2 ∧ (F (a - b) (c - d)).1 = (F a c).1 - (F b d).1 ∧ (F (a - b) (c - d)).2 = (F a c).2 - (F b d).2) (i j : Nat) (V : Nat → Int64) : prV F i j (GR V) = GR (prV F i j V) := by
  refine ext4 (fun r => ?_)
  have q0 := prV_at F i j r 0 (GR V) (by omega); have q1 := prV_at F i j r 1 (GR V) (by omega); have q2 := prV_at F i j r 2 (GR V) (by omega); have q3 := prV_at F i j r 3 (GR V) (by omega)
  have t0 := prV_at F i j r 0 V (by omega); have t1 := prV_at F i j r 1 V (by omega); have t2 := prV_at F i j r 2 V (by omega); have t3 := prV_at F i j r 3 V (by omega)
  simp only [Nat.add_zero] at q0 t0
  rw [q0, q1, q2, q3]
  simp only [GR0, GR1, GR2, GR3, t0, t1, t2, t3]
  by_cases e : r = i
  · simp only [if_pos e]
    exact ⟨(hF _ _ _ _).2.2.1, (hF _ _ _ _).1, (hF _ _ _ _).1, (hF _ _ _ _).2.2.1⟩
  · simp only [if_neg e]
    by_cases e2 : r = j
    · simp only [if_pos e2]
      exact ⟨(hF _ _ _ _).2.2.2, (hF _ _ _ _).2.1, (hF _ _ _ _).2.1, (hF _ _ _ _).2.2.2⟩
    · simp only [if_neg e2, GR0, GR1, GR2, GR3, and_self]
theorem lin_ex : ∀ a b c d, (exF (a + b) (c + d)).1 = (exF a c).1 + (exF b d).1 ∧ (exF (a + b) (c + d)).2 = (exF a c).2 + (exF b d).2 ∧ (exF (a - b) (c - d)).1 = (exF a c).1 - (exF b d).1 ∧ (exF (a - b) (c - d)).2 = (exF a c).2 - (exF b d).2 := fun _ _ _ _ => ⟨rfl, rfl, rfl, rfl⟩
theorem lin_mix : ∀ a b c d, (mixF (a + b) (c + d)).1 = (mixF a c).1 + (mixF b d).1 ∧ (mixF (a + b) (c + d)).2 = (mixF a c).2 + (mixF b d).2 ∧ (mixF (a - b) (c - d)).1 = (mixF a c).1 - (mixF b d).1 ∧ (mixF (a - b) (c - d)).2 = (mixF a c).2 - (mixF b d).2 := fun a b c d => by
  unfold mixF
  refine ⟨?_, ?_, ?_, ?_⟩
  · show a + b + (c + d) = (a + c) + (b + d); grind
  · show a + b - (c + d) = (a - c) + (b - d); grind
  · show a - b + (c - d) = (a + c) - (b + d); grind
  · show a - b - (c - d) = (a - c) - (b - d); grind
theorem GR_w1 (i : Nat) (V : Nat → Int64) : w1 i (GR V) = GR (w1 i V) := by
  refine ext4 (fun r => ?_)
  have q0 := w1_at0 i r (GR V); have q1 := w1_atp i r 0 (GR V) (by omega); have q2 := w1_atp i r 1 (GR V) (by omega); have q3 := w1_atp i r 2 (GR V) (by omega)
  have t0 := w1_at0 i r V; have t1 := w1_atp i r 0 V (by omega); have t2 := w1_atp i r 1 V (by omega); have t3 := w1_atp i r 2 V (by omega)
  simp only [Nat.add_zero, Nat.zero_add, Nat.reduceAdd] at q0 q1 q2 q3 t0 t1 t2 t3
  rw [q0, q1, q2, q3]
  simp only [GR0, GR1, GR2, GR3, t0, t1, t2, t3]
  by_cases e : r = i
  · simp only [if_pos e]
    refine ⟨?_, ?_, ?_, ?_⟩ <;> grind
  · simp only [if_neg e, GR0, GR1, GR2, GR3, and_self]
theorem GR_tu (t i : Nat) (V : Nat → Int64) : tuV t i (GR V) = GR (tuV t i V) := by
  induction t generalizing V with
  | zero => rfl
  | succ t ih => show tuV t i (w1 i (GR V)) = GR (tuV t i (w1 i V)); rw [GR_w1, ih]
theorem GR_st (g i : Nat) (V : Nat → Int64) : stG g i (GR V) = GR (stG g i V) := by
  unfold stG
  split
  · split
    · exact GR_pr lin_mix _ _ _
    · rfl
  · split
    · split
      · exact GR_pr lin_ex _ _ _
      · rfl
    · split
      · split
        · exact GR_pr lin_ex _ _ _
        · rfl
      · split
        · exact GR_tu _ _ _
        · rfl
theorem GR_act (n g : Nat) (V : Nat → Int64) : actV n g (GR V) = GR (actV n g V) := by
  unfold actV
  generalize 2 ^ n = m
  induction m with
  | zero => rfl
  | succ m ih => show stG g m (foN (stG g) m (GR V)) = GR (stG g m (foN (stG g) m V)); rw [ih, GR_st]
theorem GR_acts (n : Nat) (L : List Nat) (V : Nat → Int64) : acts n L (GR V) = GR (acts n L V) := by
  induction L generalizing V with
  | nil => rfl
  | cons g t ih => show acts n t (actV n g (GR V)) = GR (acts n t (actV n g V)); rw [GR_act, ih]
theorem GRn_acts (n : Nat) (L : List Nat) (d : Nat) (V : Nat → Int64) : acts n L (GRn d V) = GRn d (acts n L V) := by
  induction d generalizing V with
  | zero => rfl
  | succ d ih => show acts n L (GRn d (GR V)) = GRn d (GR (acts n L V)); rw [ih, GR_acts]
def eV (b : Nat) : Nat → Int64 := fun k => if k = 4 * b then 1 else 0
/-- the column b of the matrix of L, d times the root of two -/
def CV (n : Nat) (L : List Nat) (b d : Nat) : Nat → Int64 := GRn d (acts n L (eV b))
theorem ag_ini {n : Nat} (hn : n < 5) (f : Nat → Int64) (b : Nat) : AG n (iniV f b) (eV b) := fun k hk => by
  have := p16 (n := n) (by omega)
  unfold iniV eV
  by_cases e : k = 4 * b
  · rw [if_pos e, if_pos e]
  · rw [if_neg e, if_neg e, if_pos (by omega)]
theorem ag_C {n : Nat} {L : List Nat} (hn : n < 5) (hv : ∀ x ∈ L, gv n x = true) (f : Nat → Int64) (b d : Nat) : AG n (acts n L (rtV n d (iniV f b))) (CV n L b d) := by
  have h1 := ag_acts hn hv ((ag_rt (Nat.le_refl n) d (iniV f b)).tr (ag_GRn (ag_ini hn f b)))
  unfold CV; rw [← GRn_acts]; exact h1
theorem ag_M {n : Nat} {L : List Nat} (hn : n < 5) (hv : ∀ x ∈ L, gv n x = true) (f : Nat → Int64) (b d : Nat) : AG n (rtV 4 d (acts n L (iniV f b))) (CV n L b d) := by
  exact (ag_rt (by omega) d _).tr (ag_GRn (ag_acts hn hv (ag_ini hn f b)))
