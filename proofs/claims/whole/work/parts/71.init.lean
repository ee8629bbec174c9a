/-! What holds when both have just been made. -/
theorem c3_init (g1 g2 g3 k a b c : Nat → Int32) : C3 1 0 0 0 g1 g2 g3 (fun _ => 0) k a b c := by
  refine ⟨fun _ => [], fun s _ => ⟨rfl, Nat.zero_le _, fun i hi => absurd hi (Nat.not_lt_zero _)⟩, fun s h3 => ⟨?_, fun x hx => by cases hx⟩⟩
  rcases (show s = 0 ∨ s = 1 ∨ s = 2 by omega) with rfl | rfl | rfl
  · exact CR_0 _
  · exact CR_0 _
  · exact CR_0 _
theorem tt_init (tf tb : Nat → Int32) : TT 0 tf 0 tb := ⟨[], ⟨rfl, by decide, fun i hi => absurd hi (Nat.not_lt_zero _)⟩, ⟨rfl, by decide, fun i hi => absurd hi (Nat.not_lt_zero _)⟩⟩
theorem st_init (n : Nat) (st ex sc : Int32) (V W : Nat → Int64) : ST n 0 st ex V 0 sc W := Or.inl ⟨rfl, rfl⟩
/-- a new number of wires leaves no state -/
theorem st_wires {m : Nat} (st ex sc : Int32) (V W : Nat → Int64) : ST m 0 st ex V 0 sc W := Or.inl ⟨rfl, rfl⟩
/-- all that holds between two operations -/
def RRx (wc hs ph pl c1 c2 c3 st ex tc : Int32) (g1 g2 g3 tf : Nat → Int32) (V : Nat → Int64) (wi hS mp ml sc ln : Int32) (z k a b c tb : Nat → Int32) (W : Nat → Int64) : Prop :=
  ∃ n, 1 ≤ n ∧ n < 5 ∧ wc = nI n ∧ wi = nI n ∧ C3 n c1 c2 c3 g1 g2 g3 z k a b c ∧ ST n hs st ex V hS sc W ∧ TT tc tf ln tb ∧ ph = mp ∧ pl = ml
theorem rr_init (st ex sc : Int32) (g1 g2 g3 tf k a b c tb : Nat → Int32) (V W : Nat → Int64) : RRx 1 0 0 (-1) 0 0 0 st ex 0 g1 g2 g3 tf V 1 0 0 (-1) sc 0 (fun _ => 0) k a b c tb W :=
  ⟨1, by omega, by omega, rfl, rfl, c3_init g1 g2 g3 k a b c, st_init 1 st ex sc V W, tt_init tf tb, rfl, rfl⟩
