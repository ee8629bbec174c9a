/-! The turn between two columns is one. -/
def xtV (W : Nat → Int64) (i j : Nat) : Int64 := if j % 8 < 4 then W (4 * i + j % 8) else -W (4 * i + (j % 8 - 4))
theorem xt_8 (W : Nat → Int64) (i j : Nat) : xtV W i (j + 8) = xtV W i j := by
  unfold xtV; rw [show (j + 8) % 8 = j % 8 by omega]
theorem xt_4 (W : Nat → Int64) (i j : Nat) : xtV W i (j + 4) = -xtV W i j := by
  unfold xtV
  by_cases h : j % 8 < 4
  · rw [if_pos h, if_neg (by omega), show (j + 4) % 8 - 4 = j % 8 by omega]
  · rw [if_neg h, if_pos (by omega), show (j + 4) % 8 = j % 8 - 4 by omega, Int64.neg_neg]
theorem xt_tw (W : Nat → Int64) (i p t : Nat) (hp : p < 4) (ht : t < 8) : twP t W (4 * i + p) = xtV W i (p + 8 - t) := by
  unfold twP xtV frN
  rw [show (4 * i + p) % 4 = p by omega, show (4 * i + p) / 4 = i by omega]
theorem xt_all {W : Nat → Int64} {i s t : Nat} (hst : s < t) (ht : t < 8) (h : ∀ p, p < 4 → xtV W i (p + 8 - s) = xtV W i (p + 8 - t)) : ∀ m, xtV W i (m + (t - s)) = xtV W i m := by
  have a : ∀ j, xtV W i (j + 8 - s) = xtV W i (j + 8 - t) := by
    intro j
    induction j using Nat.strongRecOn with
    | ind j ih =>
      by_cases h4 : j < 4
      · exact h j h4
      · have := ih (j - 4) (by omega)
        have e1 := xt_4 W i (j - 4 + 8 - s)
        have e2 := xt_4 W i (j - 4 + 8 - t)
        rw [show j - 4 + 8 - s + 4 = j + 8 - s by omega] at e1
        rw [show j - 4 + 8 - t + 4 = j + 8 - t by omega] at e2
        rw [e1, e2, this]
  intro m
  have := a (m + t)
  rw [show m + t + 8 - s = m + (t - s) + 8 by omega, show m + t + 8 - t = m + 8 by omega, xt_8, xt_8] at this
  exact this
theorem xt_nil {W : Nat → Int64} {i s t : Nat} (hst : s < t) (ht : t < 8) (h : ∀ p, p < 4 → xtV W i (p + 8 - s) = xtV W i (p + 8 - t)) (m : Nat) : xtV W i m + xtV W i m = 0 := by
  have a := xt_all hst ht h
  obtain ⟨d, hd⟩ : ∃ d, d = t - s := ⟨_, rfl⟩
  rw [← hd] at a
  have e4 : xtV W i (m + 4) = xtV W i m := by
    have a2 : ∀ m, xtV W i (m + 2 * d) = xtV W i m := fun m => by rw [show m + 2 * d = (m + d) + d by omega, a, a]
    have a4 : ∀ m, xtV W i (m + 4 * d) = xtV W i m := fun m => by rw [show m + 4 * d = (m + 2 * d) + 2 * d by omega, a2, a2]
    have b : ∀ k m, xtV W i (m + 8 * k) = xtV W i m := by
      intro k
      induction k with
      | zero => intro m; rfl
      | succ k ih => intro m; rw [show m + 8 * (k + 1) = (m + 8 * k) + 8 by omega, xt_8, ih]
    rcases (show d = 1 ∨ d = 2 ∨ d = 3 ∨ d = 4 ∨ d = 5 ∨ d = 6 ∨ d = 7 by omega) with e | e | e | e | e | e | e
    · have := a4 m; rw [e] at this; exact this
    · have := a2 m; rw [e] at this; exact this
    · have := a4 m; rw [e, show m + 4 * 3 = (m + 4) + 8 * 1 by omega, b] at this; exact this
    · have := a m; rw [e] at this; exact this
    · have := a4 m; rw [e, show m + 4 * 5 = (m + 4) + 8 * 2 by omega, b] at this; exact this
    · have := a2 m; rw [e, show m + 2 * 6 = (m + 4) + 8 * 1 by omega, b] at this; exact this
    · have := a4 m; rw [e, show m + 4 * 7 = (m + 4) + 8 * 3 by omega, b] at this; exact this
  rw [xt_4] at e4
  grind
theorem tr_lt {n s t : Nat} {V W : Nat → Int64} (h1 : trB n s V W = true) (h2 : trB n t V W = true) (hst : s < t) (ht : t < 8) {k : Nat} (hk : k < 4 * 2 ^ n) : V k + V k = 0 := by
  unfold trB at h1 h2
  rw [allN_t] at h1 h2
  have hx : ∀ p, p < 4 → V (4 * (k / 4) + p) = xtV W (k / 4) (p + 8 - s) ∧ V (4 * (k / 4) + p) = xtV W (k / 4) (p + 8 - t) := fun p hp => by
    have a1 := h1 (4 * (k / 4) + p) (by omega)
    have a2 := h2 (4 * (k / 4) + p) (by omega)
    rw [beq_iff_eq] at a1 a2
    rw [← xt_tw W _ p s hp (by omega), ← xt_tw W _ p t hp ht]
    exact ⟨a1, a2⟩
  have z := xt_nil hst ht (fun p hp => (hx p hp).1.symm.trans (hx p hp).2) (k % 4 + 8 - s)
  have e := (hx (k % 4) (by omega)).1
  rw [show 4 * (k / 4) + k % 4 = k by omega] at e
  rw [e]; exact z
theorem tr_u {n s t : Nat} {V W : Nat → Int64} (h1 : trB n s V W = true) (h2 : trB n t V W = true) (hs : s < 8) (ht : t < 8) (hz : ∃ k, k < 4 * 2 ^ n ∧ V k + V k ≠ 0) : s = t := by
  obtain ⟨k, hk, hz⟩ := hz
  rcases Nat.lt_trichotomy s t with h | h | h
  · exact absurd (tr_lt h1 h2 h ht hk) hz
  · exact h
  · exact absurd (tr_lt h2 h1 h hs hk) hz
theorem fk_n {p : Nat → Bool} : ∀ {m k : Nat}, (∀ j, k ≤ j → j < k + m → p j = false) → firK p m k = none := by
  intro m
  induction m with
  | zero => intro k _; rfl
  | succ m ih =>
    intro k h
    unfold firK
    rw [h k (Nat.le_refl _) (by omega)]
    exact ih (fun j h1 h2 => h j (by omega) (by omega))
theorem fk_s {p : Nat → Bool} {t : Nat} : ∀ {m k : Nat}, k ≤ t → t < k + m → p t = true → (∀ j, k ≤ j → j < t → p j = false) → firK p m k = some t := by
  intro m
  induction m with
  | zero => intro k h1 h2; omega
  | succ m ih =>
    intro k h1 h2 h3 h4
    unfold firK
    by_cases e : k = t
    · subst e; rw [h3]; rfl
    · rw [h4 k (Nat.le_refl _) (by omega)]
      exact ih (by omega) (by omega) h3 (fun j a b => h4 j (by omega) b)
theorem fk_c {p : Nat → Bool} : ∀ {m k : Nat}, (∃ t, firK p m k = some t ∧ k ≤ t ∧ t < k + m ∧ p t = true ∧ ∀ j, k ≤ j → j < t → p j = false) ∨ (firK p m k = none ∧ ∀ j, k ≤ j → j < k + m → p j = false) := by
  intro m
  induction m with
  | zero => intro k; exact Or.inr ⟨rfl, fun j h1 h2 => by omega⟩
  | succ m ih =>
    intro k
    cases e : p k with
    | true =>
      refine Or.inl ⟨k, ?_, Nat.le_refl _, by omega, e, fun j h1 h2 => by omega⟩
      unfold firK; rw [e]; rfl
    | false =>
      have e2 : firK p (m + 1) k = firK p m (k + 1) := by
        show (if p k = true then some k else firK p m (k + 1)) = _
        rw [e]; rfl
      rw [e2]
      rcases ih (k := k + 1) with ⟨t, h1, h2, h3, h4, h5⟩ | ⟨h1, h2⟩
      · refine Or.inl ⟨t, h1, by omega, by omega, h4, fun j a b => ?_⟩
        by_cases ej : j = k
        · rw [ej]; exact e
        · exact h5 j (by omega) b
      · refine Or.inr ⟨h1, fun j a b => ?_⟩
        by_cases ej : j = k
        · rw [ej]; exact e
        · exact h2 j (by omega) (by omega)
/-- by the first columns alone -/
def c0B (n : Nat) (L M : List Nat) (t : Nat) : Bool := trB n t (CV n L 0 (mxH L M - hN L)) (CV n M 0 (mxH L M - hN M))
theorem mx_le (L M : List Nat) : hN L ≤ mxH L M ∧ hN M ≤ mxH L M ∧ (mxH L M = hN L ∨ mxH L M = hN M) := by
  unfold mxH; split <;> omega
theorem c0_u {n s t : Nat} {L M : List Nat} (hn : n < 5) (hv : ∀ x ∈ L, gv n x = true) (hl : L.length ≤ 64) (hl2 : M.length ≤ 64) (h1 : c0B n L M s = true) (h2 : c0B n L M t = true) (hs : s < 8) (ht : t < 8) : s = t := by
  refine tr_u h1 h2 hs ht (n_some hn hv (Nat.two_pow_pos n) ?_)
  have := mx_le L M; have := hN_le L; have := hN_le M
  omega
theorem trA_0 {n t : Nat} {L M : List Nat} (h : trA n t L M = true) : c0B n L M t = true := by
  unfold trA at h
  rw [allN_t] at h
  exact h 0 (Nat.two_pow_pos n)
/-- whether the circuits are one but for a turn, and which -/
def eqT (n : Nat) (L M : List Nat) : Option Nat := match firK (c0B n L M) 8 0 with | none => none | some t => if trA n t L M then some t else none
theorem eqT_v {n : Nat} {L M : List Nat} (hn : n < 5) (hv : ∀ x ∈ L, gv n x = true) (hl : L.length ≤ 64) (hl2 : M.length ≤ 64) : firK (fun r => trA n r L M) 8 0 = eqT n L M := by
  unfold eqT
  rcases fk_c (p := c0B n L M) (m := 8) (k := 0) with ⟨t, h1, h2, h3, h4, h5⟩ | ⟨h1, h2⟩
  · rw [h1]
    show _ = if trA n t L M then some t else none
    by_cases ht : trA n t L M = true
    · rw [if_pos ht]
      refine fk_s h2 h3 ht (fun j a b => ?_)
      cases e : trA n j L M with
      | false => rfl
      | true => have := h5 j a b; rw [trA_0 e] at this; exact absurd this (by decide)
    · rw [if_neg ht]
      refine fk_n (fun j a b => ?_)
      cases e : trA n j L M with
      | false => rfl
      | true =>
        have := c0_u hn hv hl hl2 (trA_0 e) h4 (by omega) (by omega)
        rw [this] at e; exact absurd e ht
  · rw [h1]
    refine fk_n (fun j a b => ?_)
    cases e : trA n j L M with
    | false => rfl
    | true => have := h2 j a b; rw [trA_0 e] at this; exact absurd this (by decide)
/-- the least form's turn, both ways -/
theorem ph_v {n r : Nat} {L F : List Nat} (hn : n < 5) (hv : ∀ x ∈ L, gv n x = true) (hl : L.length ≤ 64) (hl2 : F.length ≤ 64) (hr : r < 8) (h : trA n r L F = true) : phN n L F = r ∧ firK (c0B n L F) 8 0 = some r := by
  have u : ∀ j, j < 8 → c0B n L F j = true → j = r := fun j hj hc => c0_u hn hv hl hl2 hc (trA_0 h) hj hr
  have f : ∀ j, j < r → c0B n L F j = false := fun j hj => by
    cases e : c0B n L F j with
    | false => rfl
    | true => have := u j (by omega) e; omega
  refine ⟨?_, fk_s (Nat.zero_le _) (by omega) (trA_0 h) (fun j _ b => f j b)⟩
  have g : ∀ j, j < r → trA n j L F = false := fun j hj => by
    cases e : trA n j L F with
    | false => rfl
    | true => have := f j hj; rw [trA_0 e] at this; exact absurd this (by decide)
  unfold phN
  by_cases e7 : r = 7
  · rw [fk_n (fun j _ b => g j (by omega)), e7]; rfl
  · rw [fk_s (t := r) (Nat.zero_le _) (by omega) h (fun j _ b => g j b)]; rfl
