/-! One row an operation: weight, measure. -/
theorem o_weight {n : Nat} {x y p hs st ex hS sc ft : Int32} {o V W : Nat → Int64} (h1n : 1 ≤ n) (hn : n < 5) (hST : ST n hs st ex V hS sc W) : wpL_weight (fun K o => wpX7_weight (fun B F => AN K o F B) x y p (nI n) hS W ft) x y p (nI n) hs st V o := by
  have bad : hS = 1 → (zvX7_isWire x (nI n) = 0 ∨ zvX7_in y.toInt64 0 1 = 0 ∨ zvX7_in p.toInt64 0 1 = 0) → wpX7_weight (fun B F => AN 2 o F B) x y p (nI n) hS W ft := fun h1 h2 => by
    have f : wpX7_weight_40 (fun B F => AN 2 o F B) (nI n) hS W x y p ft := m_w45f hn (by decide) an_2
    subst h1
    refine ⟨fun h => absurd h (by decide), fun _ => ?_⟩
    by_cases e1 : zvX7_isWire x (nI n) = 0
    · exact ⟨fun _ => f, fun h => absurd e1 h⟩
    · refine ⟨fun h => absurd h e1, fun _ => ?_⟩
      by_cases e2 : zvX7_in y.toInt64 0 1 = 0
      · exact ⟨fun _ => f, fun h => absurd e2 h⟩
      · exact ⟨fun h => absurd h e2, fun _ => ⟨fun _ => f, fun h => absurd ((h2.resolve_left e1).resolve_left e2) h⟩⟩
  rcases hST with ⟨rfl, rfl⟩ | ⟨rfl, rfl, rfl, e, -, rfl, rfl, ag⟩
  · refine ⟨fun _ => Or.inl ⟨rfl, ?_⟩, fun h => absurd rfl h⟩
    exact ⟨fun _ => m_w45f hn (by decide) an_1, fun h => absurd rfl h⟩
  · refine ⟨fun h => absurd h (by decide), fun _ => ?_⟩
    rcases r_wire x h1n hn with ⟨w1, w2⟩ | ⟨w, hw, rfl, w1, w2⟩
    · rw [w1]; exact ⟨fun _ => Or.inr ⟨rfl, bad rfl (Or.inl w2)⟩, fun h => absurd rfl h⟩
    · rw [w1]
      refine ⟨fun h => absurd h (by decide), fun _ => ?_⟩
      rcases r_bit y with ⟨v1, v2⟩ | ⟨v0, v1, v3, v2⟩ | ⟨v, hv, rfl, v0, v1, v3, v2⟩
      · exact ⟨fun _ => Or.inr ⟨rfl, bad rfl (Or.inr (Or.inl v2))⟩, fun h => absurd v1 h⟩
      · exact ⟨fun h => absurd h v0, fun _ => ⟨fun _ => Or.inr ⟨rfl, bad rfl (Or.inr (Or.inl v2))⟩, fun h => absurd v1 h⟩⟩
      · refine ⟨fun h => absurd h v0, fun _ => ⟨fun h => absurd h v1, fun _ => ?_⟩⟩
        rcases r_bit p with ⟨p1, p2⟩ | ⟨p0, p1, p3, p2⟩ | ⟨q, hq, rfl, p0, p1, p3, p2⟩
        · exact ⟨fun _ => Or.inr ⟨rfl, bad rfl (Or.inr (Or.inr p2))⟩, fun h => absurd p1 h⟩
        · exact ⟨fun h => absurd h p0, fun _ => ⟨fun h => absurd h p3, fun _ => Or.inr ⟨rfl, bad rfl (Or.inr (Or.inr p2))⟩⟩⟩
        · refine ⟨fun h => absurd h p0, fun _ => ⟨fun _ => ?_, fun h => absurd p3 h⟩⟩
          have fin : ∀ t, t = smW (fun i => bitN i w == v) (if q = 0 then whT V else roT V) (2 ^ n) → vp_in 0 1 ∧ wpX7_weight (fun B F => AN 0 (vp_updL o (0 : Int32).toNatClampNeg t) F B) (nI w) (nI v) (nI q) (nI n) 1 W ft := fun t et => by
            refine ⟨vp_in_nI (n := 0) (by omega) (by omega), ?_⟩
            unfold wpX7_weight
            rw [w2, v2, p2]
            refine ⟨fun h => absurd h (by decide), fun _ => ⟨fun h => absurd h (by decide), fun _ => ⟨fun h => absurd h (by decide), fun _ => ⟨fun h => absurd h (by decide), fun _ => ?_⟩⟩⟩⟩
            refine m_w45 hn (by omega) hv hq ⟨rfl, fun _ => ?_⟩
            show t = _
            rw [et]
            by_cases e0 : q = 0
            · rw [if_pos e0, if_pos e0]; exact ag_sm (fun i hi => (ag_wh ag hi).1)
            · rw [if_neg e0, if_neg e0]; exact ag_sm (fun i hi => (ag_wh ag hi).2)
          by_cases e0 : q = 0
          · subst e0
            refine ⟨fun _ => ?_, fun h => absurd rfl h⟩
            exact y_whole hn (by omega) hv (fin _ (by rw [if_pos rfl]))
          · refine ⟨fun h => absurd h (nI_ne0 (by omega) (by omega)), fun _ => ?_⟩
            exact y_root hn (by omega) hv (fin _ (by rw [if_neg e0]))
theorem o_measure {n : Nat} {x y hs st ex hS sc ft : Int32} {o V W : Nat → Int64} (h1n : 1 ≤ n) (hn : n < 5) (hST : ST n hs st ex V hS sc W) : wpL_measure (fun K o ex' V' => wpX7_measure (fun B F sc' W' => AN K o F (if B = 0 then 0 else 1) ∧ ST n hs st ex' V' hS sc' W') x y (nI n) hS ft sc W) x y (nI n) hs st o ex V := by
  have hST0 := hST
  have bad : hS = 1 → (zvX7_isWire x (nI n) = 0 ∨ zvX7_in y.toInt64 0 1 = 0) → wpX7_measure (fun B F sc' W' => AN 2 o F (if B = 0 then 0 else 1) ∧ ST n hs st ex V hS sc' W') x y (nI n) hS ft sc W := fun h1 h2 => by
    have f : wpX7_measure_30 (fun B F sc' W' => AN 2 o F (if B = 0 then 0 else 1) ∧ ST n hs st ex V hS sc' W') (nI n) hS x y ft sc W := m_me35f hn (by decide) ⟨an_2, hST0⟩
    subst h1
    refine ⟨fun h => absurd h (by decide), fun _ => ?_⟩
    by_cases e1 : zvX7_isWire x (nI n) = 0
    · exact ⟨fun _ => f, fun h => absurd e1 h⟩
    · exact ⟨fun h => absurd h e1, fun _ => ⟨fun _ => f, fun h => absurd (h2.resolve_left e1) h⟩⟩
  rcases hST with ⟨rfl, rfl⟩ | ⟨rfl, rfl, rfl, e, he, rfl, rfl, ag⟩
  · refine ⟨fun _ => Or.inl ⟨rfl, ?_⟩, fun h => absurd rfl h⟩
    exact ⟨fun _ => m_me35f hn (by decide) ⟨an_1, hST0⟩, fun h => absurd rfl h⟩
  · refine ⟨fun h => absurd h (by decide), fun _ => ?_⟩
    rcases r_wire x h1n hn with ⟨w1, w2⟩ | ⟨w, hw, rfl, w1, w2⟩
    · rw [w1]; exact ⟨fun _ => Or.inr ⟨rfl, bad rfl (Or.inl w2)⟩, fun h => absurd rfl h⟩
    · rw [w1]
      refine ⟨fun h => absurd h (by decide), fun _ => ?_⟩
      rcases r_bit y with ⟨v1, v2⟩ | ⟨v0, v1, v3, v2⟩ | ⟨v, hv, rfl, v0, v1, v3, v2⟩
      · exact ⟨fun _ => Or.inr ⟨rfl, bad rfl (Or.inr v2)⟩, fun h => absurd v1 h⟩
      · exact ⟨fun h => absurd h v0, fun _ => ⟨fun h => absurd h v3, fun _ => Or.inr ⟨rfl, bad rfl (Or.inr v2)⟩⟩⟩
      · refine ⟨fun h => absurd h v0, fun _ => ⟨fun _ => ?_, fun h => absurd v3 h⟩⟩
        have open7 : ∀ {Q : Int32 → Int32 → Int32 → (Nat → Int64) → Prop}, wpX7_measure_35 Q (nI n) 1 (nI w) (nI v) 0 ft (nI e) W → wpX7_measure Q (nI w) (nI v) (nI n) 1 ft (nI e) W := fun h => by
          unfold wpX7_measure
          rw [w2, v2]
          exact ⟨fun h => absurd h (by decide), fun _ => ⟨fun h => absurd h (by decide), fun _ => ⟨fun h => absurd h (by decide), fun _ => h⟩⟩⟩
        refine y_any hn (by omega) hv ?_
        have ea := ag_any (w := w) (v := v) ag
        cases c : anyV n w v V with
        | false =>
          rw [c] at ea
          refine ⟨fun _ => ⟨fun _ => ⟨vp_in_nI (n := 0) (by omega) (by omega), open7 ?_⟩, fun h => absurd rfl h⟩, fun h => absurd rfl h⟩
          refine m_me35 hn (by omega) hv (by omega) (fun _ => ⟨⟨rfl, fun _ => rfl⟩, hST0⟩) (fun h => absurd (ea.trans h) (by decide))
        | true =>
          rw [c] at ea
          refine ⟨fun h => absurd h (by decide), fun _ => ?_⟩
          refine y_keep hn (by omega) hv (y_lower hn (by omega) ?_)
          refine ⟨fun h => absurd h (by decide), fun _ => ⟨vp_in_nI (n := 0) (by omega) (by omega), open7 ?_⟩⟩
          obtain ⟨l1, l2⟩ := ag_low (e := e) (ag_kp (w := w) (v := v) ag)
          have l3 := low_le n e (kpV n w v W)
          refine m_me35 hn (by omega) hv (by omega) (fun h => absurd (ea.trans h) (by decide)) (fun _ => ⟨⟨rfl, fun _ => rfl⟩, ?_⟩)
          rw [l1]
          exact Or.inr ⟨rfl, rfl, rfl, _, by omega, rfl, rfl, l2⟩
