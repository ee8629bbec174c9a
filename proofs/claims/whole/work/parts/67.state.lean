/-! One row an operation: state, amplitude, scale, weight, measure. -/
def ST (n : Nat) (hs st ex : Int32) (V : Nat → Int64) (hS sc : Int32) (W : Nat → Int64) : Prop := (hs = 0 ∧ hS = 0) ∨ (hs = 1 ∧ hS = 1 ∧ st = nI (2 ^ n) ∧ ∃ e, e ≤ 64 ∧ ex = nI e ∧ sc = nI e ∧ AG n V W)
theorem rng (x : Int32) {m : Nat} (hm : m < 1000) : (x < 0 ∧ zvX7_in x.toInt64 0 (nI m).toInt64 = 0) ∨ ∃ j, j < 2 ^ 31 ∧ x = nI j ∧ zvX7_in x.toInt64 0 (nI m).toInt64 = if j ≤ m then 1 else 0 := by
  have e := mz_in (x := x) (lo := 0) (hi := nI m)
  have e : zvX7_in x.toInt64 0 (nI m).toInt64 = if 0 ≤ x ∧ x ≤ nI m then 1 else 0 := e
  by_cases h : x < 0
  · refine Or.inl ⟨h, ?_⟩
    rw [e, if_neg (fun h2 => by
      have h1 := h2.1
      rw [Int32.le_iff_toInt_le] at h1
      rw [Int32.lt_iff_toInt_lt] at h
      omega)]
  · obtain ⟨j, hj, rfl⟩ := nI_of h
    refine Or.inr ⟨j, hj, rfl, ?_⟩
    rw [e]
    by_cases h2 : j ≤ m
    · rw [if_pos h2, if_pos ⟨nI_pos' hj, nI_le h2 (by omega)⟩]
    · rw [if_neg h2, if_neg (fun h => h2 ((nI_leI hj (by omega)).mp h.2))]
theorem r_bit (x : Int32) : (x < 0 ∧ zvX7_in x.toInt64 0 1 = 0) ∨ (¬ x < 0 ∧ 1 < x ∧ ¬ x ≤ 1 ∧ zvX7_in x.toInt64 0 1 = 0) ∨ ∃ v, v < 2 ∧ x = nI v ∧ ¬ x < 0 ∧ ¬ 1 < x ∧ x ≤ 1 ∧ zvX7_in x.toInt64 0 1 = 1 := by
  rcases rng x (m := 1) (by omega) with ⟨h, e⟩ | ⟨j, hj, rfl, e⟩
  · exact Or.inl ⟨h, e⟩
  · have e : zvX7_in (nI j).toInt64 0 1 = if j ≤ 1 then 1 else 0 := e
    by_cases h : j ≤ 1
    · rw [if_pos h] at e
      exact Or.inr (Or.inr ⟨j, by omega, rfl, nI_pos hj, nI_nlt (b := j) (a := 1) (by omega) (by omega), nI_le (b := 1) h (by omega), e⟩)
    · rw [if_neg h] at e
      exact Or.inr (Or.inl ⟨nI_pos hj, nI_lt (a := 1) (by omega) hj, nI_ge (a := 1) (by omega) hj, e⟩)
theorem r_wire (x : Int32) {n : Nat} (h1 : 1 ≤ n) (hn : n < 5) : (zvX6_isWire x (nI n) = 0 ∧ zvX7_isWire x (nI n) = 0) ∨ ∃ w, w < n ∧ x = nI w ∧ zvX6_isWire x (nI n) = 1 ∧ zvX7_isWire x (nI n) = 1 := by
  have eh : (nI n).toInt64 - 1 = (nI (n - 1)).toInt64 := by
    rw [hi_l n (by omega), show nI n - nI 1 = nI (n - 1) by rw [show n = (n - 1) + 1 by omega, sub1]; rfl]
  unfold zvX7_isWire zvX6_isWire
  rw [eh]
  rcases rng x (m := n - 1) (by omega) with ⟨h, e⟩ | ⟨j, hj, rfl, e⟩
  · exact Or.inl ⟨by rw [if_pos h], e⟩
  · rw [if_neg (nI_pos hj), e]
    by_cases h : j < n
    · exact Or.inr ⟨j, h, rfl, by rw [if_neg (nI_ge h (by omega))], by rw [if_pos (by omega)]⟩
    · exact Or.inl ⟨by rw [if_pos (nI_le (by omega) hj)], by rw [if_neg (by omega)]⟩
section
variable {n : Nat} {c1 c2 c3 : Int32} {g1 g2 g3 z k a b c : Nat → Int32} {Ls Ls' : Nat → List Nat}
theorem o_state {x ft hs st ex hS sc : Int32} {o V W : Nat → Int64} (hn : n < 5) (h : C3 n c1 c2 c3 g1 g2 g3 z k a b c) (hST : ST n hs st ex V hS sc W) : wpL_state (fun K hs' o st' ex' V' => wpX7_state (fun B F hS' sc' W' => AN K o F B.toInt64 ∧ ST n hs' st' ex' V' hS' sc' W') x (nI n) z k a b c ft hS sc W) x (nI n) c1 c2 c3 g1 g2 g3 hs o st ex V := by
  obtain ⟨Ls, hM, hs⟩ := h
  rcases sl_c x with ⟨s, h3, rfl⟩ | hx
  · have hv := (hs s h3).2
    have hl := (hs s h3).1.2.1
    have hh := hN_le (Ls s)
    have key : ∀ f : Nat → Int64, vp_in 0 1 ∧ wpX7_state (fun B F hS' sc' W' => AN 0 (vp_updL o (0 : Int32).toNatClampNeg (nI (lowV n (hN (Ls s)) (acts n (Ls s) (rtV n (hN (Ls s) - hN (Ls s)) (iniV f 0)))).1).toInt64) F B.toInt64 ∧ ST n 1 (nI (2 ^ n)) (nI (lowV n (hN (Ls s)) (acts n (Ls s) (rtV n (hN (Ls s) - hN (Ls s)) (iniV f 0)))).1) (lowV n (hN (Ls s)) (acts n (Ls s) (rtV n (hN (Ls s) - hN (Ls s)) (iniV f 0)))).2 hS' sc' W') (nI s) (nI n) z k a b c ft hS sc W := fun f => by
      refine ⟨vp_in_nI (n := 0) (by omega) (by omega), ?_⟩
      rw [Nat.sub_self]
      unfold wpX7_state
      rw [slot_t h3]
      refine ⟨fun h => absurd h (by decide), fun _ => ⟨fun _ => ?_, fun h => absurd (by decide) h⟩⟩
      refine m_column hn hM (by omega) (i := 0) (by omega) hv (m_lower hn (by omega) ?_)
      have ag : AG n (acts n (Ls s) (rtV n 0 (iniV f 0))) (acts n (Ls s) (iniV W 0)) := ag_acts hn hv ((ag_ini hn f 0).tr (ag_ini hn W 0).sy)
      obtain ⟨l1, l2⟩ := ag_low (e := hN (Ls s)) ag
      have l3 := low_le n (hN (Ls s)) (acts n (Ls s) (iniV W 0))
      rw [l1]
      exact ⟨⟨rfl, fun _ => rfl⟩, Or.inr ⟨rfl, rfl, rfl, _, by omega, rfl, rfl, l2⟩⟩
    rcases (show s = 0 ∨ s = 1 ∨ s = 2 by omega) with rfl | rfl | rfl
    · refine ⟨fun _ => ?_, fun h => absurd rfl h⟩
      refine y_countKind (k := 1) (by omega) (hs 0 (by omega)).1 ?_
      refine y_run (b := 0) (due := hN (Ls 0)) hn (Nat.two_pow_pos n) (hs 0 (by omega)).1 hv (Nat.le_refl _) (by omega) ?_
      exact y_lower hn (by omega) (key V)
    · refine ⟨fun h => absurd h (by decide), fun _ => ⟨fun _ => ?_, fun h => absurd rfl h⟩⟩
      refine y_countKind (k := 1) (by omega) (hs 1 (by omega)).1 ?_
      refine y_run (b := 0) (due := hN (Ls 1)) hn (Nat.two_pow_pos n) (hs 1 (by omega)).1 hv (Nat.le_refl _) (by omega) ?_
      exact y_lower hn (by omega) (key V)
    · refine ⟨fun h => absurd h (by decide), fun _ => ⟨fun h => absurd h (by decide), fun _ => ⟨fun _ => ?_, fun h => absurd rfl h⟩⟩⟩
      refine y_countKind (k := 1) (by omega) (hs 2 (by omega)).1 ?_
      refine y_run (b := 0) (due := hN (Ls 2)) hn (Nat.two_pow_pos n) (hs 2 (by omega)).1 hv (Nat.le_refl _) (by omega) ?_
      exact y_lower hn (by omega) (key V)
  · have e := slot_f hx
    have h0 : ¬ x = 0 := fun h => hx (Or.inl h)
    have h1 : ¬ x = 1 := fun h => hx (Or.inr (Or.inl h))
    have h2 : ¬ x = 2 := fun h => hx (Or.inr (Or.inr h))
    refine ⟨fun h => absurd h h0, fun _ => ⟨fun h => absurd h h1, fun _ => ⟨fun h => absurd h h2, fun _ => ⟨rfl, ?_⟩⟩⟩⟩
    unfold wpX7_state
    rw [e]
    exact ⟨fun _ => ⟨fun h => absurd h (by decide), fun _ => ⟨an_1, hST⟩⟩, fun h => absurd rfl h⟩
end
theorem o_scale {n : Nat} {hs st ex hS sc ft : Int32} {V W : Nat → Int64} (hST : ST n hs st ex V hS sc W) : wpX7_scale (fun B F => zvX6_scale hs ex = B) hS sc ft := by
  rcases hST with ⟨rfl, rfl⟩ | ⟨rfl, rfl, -, e, -, rfl, rfl, -⟩
  · exact ⟨fun _ => rfl, fun h => absurd rfl h⟩
  · exact ⟨fun h => absurd h (by decide), fun _ => rfl⟩
theorem o_amplitude {n : Nat} {x y hs st ex hS sc ft : Int32} {o V W : Nat → Int64} (h1n : 1 ≤ n) (hn : n < 5) (hST : ST n hs st ex V hS sc W) : wpL_amplitude (fun K o => wpX7_amplitude (fun B F => AN K o F B) x y (nI n) hS W ft) x y (nI n) hs V o := by
  have hb := p16 (n := n) (by omega)
  have hp : 1 ≤ 2 ^ n := Nat.one_le_two_pow
  have bad : hS = 1 → (zvX7_in x.toInt64 0 ((zvX7_basis (nI n)).toInt64 - 1) = 0 ∨ zvX7_in y.toInt64 0 3 = 0) → wpX7_amplitude (fun B F => AN 2 o F B) x y (nI n) hS W ft := fun h1 h2 => by
    have f : wpX7_amplitude_40 (fun B F => AN 2 o F B) (nI n) hS W x y ft := ⟨fun h => absurd h (by decide), fun _ => an_2⟩
    subst h1
    refine ⟨fun h => absurd h (by decide), fun _ => ?_⟩
    by_cases e1 : zvX7_in x.toInt64 0 ((zvX7_basis (nI n)).toInt64 - 1) = 0
    · exact ⟨fun _ => f, fun h => absurd e1 h⟩
    · exact ⟨fun h => absurd h e1, fun _ => ⟨fun _ => f, fun h => absurd (h2.resolve_left e1) h⟩⟩
  have eb : zvX6_basisStates (nI n) = nI (2 ^ n) := z6_basis hn
  have eh : (zvX7_basis (nI n)).toInt64 - 1 = (nI (2 ^ n - 1)).toInt64 := by
    rw [z_basis hn, hi_l (2 ^ n) (by omega), show nI (2 ^ n) - nI 1 = nI (2 ^ n - 1) by rw [show 2 ^ n = (2 ^ n - 1) + 1 by omega, sub1]; rfl]
  rcases hST with ⟨rfl, rfl⟩ | ⟨rfl, rfl, -, e, -, rfl, rfl, ag⟩
  · refine ⟨fun _ => Or.inl ⟨rfl, ?_⟩, fun h => absurd rfl h⟩
    exact ⟨fun _ => ⟨fun h => absurd h (by decide), fun _ => an_1⟩, fun h => absurd rfl h⟩
  · refine ⟨fun h => absurd h (by decide), fun _ => ?_⟩
    rcases rng x (m := 2 ^ n - 1) (by omega) with ⟨h, e⟩ | ⟨i, hi, rfl, e⟩
    · exact ⟨fun _ => Or.inr ⟨rfl, bad rfl (Or.inl (by rw [eh]; exact e))⟩, fun h9 => absurd h h9⟩
    · refine ⟨fun h => absurd h (nI_pos hi), fun _ => ?_⟩
      by_cases h : i < 2 ^ n
      · rw [if_pos (by omega)] at e
        refine ⟨fun h9 => absurd h9 (by rw [eb]; exact nI_ge h (by omega)), fun _ => ?_⟩
        rcases rng y (m := 3) (by omega) with ⟨h', e'⟩ | ⟨j, hj, rfl, e'⟩
        · exact ⟨fun _ => Or.inr ⟨rfl, bad rfl (Or.inr e')⟩, fun h9 => absurd h' h9⟩
        · refine ⟨fun h => absurd h (nI_pos hj), fun _ => ?_⟩
          by_cases h' : j ≤ 3
          · rw [if_pos h'] at e'
            refine ⟨fun _ => ?_, fun h9 => absurd (nI_lt (b := 4) (by omega) (by omega)) h9⟩
            refine y_part (by omega) (by omega) ?_
            refine ⟨vp_in_nI (n := 0) (by omega) (by omega), ?_⟩
            refine ⟨fun h => absurd h (by decide), fun _ => ⟨fun h9 => absurd (by rw [eh] at h9; exact h9) (by rw [e]; decide), fun _ => ⟨fun h9 => absurd h9 (by rw [show (3 : Int64) = (nI 3).toInt64 from rfl, e']; decide), fun _ => ?_⟩⟩⟩
            refine ⟨fun _ => ?_, fun h => absurd (by decide) h⟩
            have e4 : (4 : Int32) * nI i + nI j = nI (4 * i + j) := by rw [L_4, pk_mul, nI_add]
            rw [e4]
            refine ⟨vp_in_nI (by omega) (by omega), ⟨rfl, fun _ => ?_⟩⟩
            rw [nI_clamp (by omega)]
            exact ag _ (by omega)
          · rw [if_neg h'] at e'
            exact ⟨fun h9 => absurd h9 (nI_nlt (b := 4) (by omega) hj), fun _ => Or.inr ⟨rfl, bad rfl (Or.inr e')⟩⟩
      · rw [if_neg (by omega)] at e
        exact ⟨fun _ => Or.inr ⟨rfl, bad rfl (Or.inl (by rw [eh]; exact e))⟩, fun h9 => absurd (by rw [eb]; exact nI_le (by omega) hi) h9⟩
