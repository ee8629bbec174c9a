/-! Reading, the program's side. -/
def kiN (c : Nat) : Nat := if c = 104 then 1 else if c = 115 then 2 else if c = 116 then 3 else if c = 120 then 4 else if c = 122 then 5 else if c = 99 then 6 else if c = 100 then 7 else if c = 119 then 8 else if c = 111 then 9 else 0
def wiN (n : Nat) (T : List Nat) (i : Nat) : Option Nat := if i < T.length ∧ 48 ≤ T.getD i 0 ∧ T.getD i 0 - 48 < n then some (T.getD i 0 - 48) else none
def pg3 (n : Nat) (T : List Nat) (i k a b : Nat) : Nat × Option Nat := match wiN n T (i + 3) with | none => (i + 3, none) | some c => if c = a ∨ c = b then (i + 3, none) else (i + 4, some (encG k a b c))
def pg2 (n : Nat) (T : List Nat) (i k a : Nat) : Nat × Option Nat := match wiN n T (i + 2) with | none => (i + 2, none) | some b => if b = a then (i + 2, none) else if k < 9 then (i + 3, some (encG k a b 0)) else pg3 n T i k a b
def pg1 (n : Nat) (T : List Nat) (i k : Nat) : Nat × Option Nat := match wiN n T (i + 1) with | none => (i + 1, none) | some a => if k < 6 then (i + 2, some (encG k a 0 0)) else pg2 n T i k a
/-- a gate from the place i on: where it is wrong, or the place behind it and the gate -/
def pgN (n : Nat) (T : List Nat) (i : Nat) : Nat × Option Nat := if (if i < T.length then kiN (T.getD i 0) else 0) = 0 then (i, none) else pg1 n T i (kiN (T.getD i 0))
def paT (n : Nat) (T : List Nat) : Nat → Nat → List Nat → Option Nat × List Nat
  | 0, i, L => (some i, L)
  | m + 1, i, L => match pgN n T i with
    | (j, none) => (some j, L)
    | (j, some g) => if j = T.length then (none, L ++ [g]) else if T.getD j 0 = 32 then paT n T m (j + 1) (L ++ [g]) else (some j, L ++ [g])
theorem ki_i : ∀ c, c < 127 → zvS_indexOf (((nI c).toUInt32 % 65536).toInt32) + 1 = nI (kiN c) := by decide +kernel
theorem kiN_lt (c : Nat) : kiN c < 10 := by
  unfold kiN
  repeat' split
  all_goals omega
theorem wiN_lt {n : Nat} {T : List Nat} {i w : Nat} (h : wiN n T i = some w) : w < n ∧ i < T.length ∧ T.getD i 0 = 48 + w := by
  unfold wiN at h
  split at h
  · rename_i e; cases h; exact ⟨e.2.2, e.1, by omega⟩
  · cases h
def ogI (o : Option Nat) : Int32 := match o with | none => -1 | some g => nI g
theorem bt_1 : ∀ a, a < 4 → ∀ b, b < 4 → ((bitN (2 ^ a) b == 1) == (b == a)) = true := by decide +kernel
theorem bt_2 : ∀ a, a < 4 → ∀ b, b < 4 → ∀ c, c < 4 → ((bitN (2 ^ a ||| 2 ^ b) c == 1) == (c == a || c == b)) = true := by decide +kernel
section
variable {c : Int32} {f : Nat → Int32} {T : List Nat} {n : Nat}
theorem y_pgS {Q : Int32 → Int32 → Prop} {k ga te ta ix W r m : Nat} (hT : TX c f T) (hn : n < 5) (hw : zvX2_wiresOf (nI k) = nI W) (hix : ix < W) (hW : W ≤ 3) (hr : r ≤ 330) (hta : ta < 16)
    (hf : wiN n T r = none → Q (-1) (nI r))
    (hs : ∀ w, wiN n T r = some w → (bitN ta w = 1 → Q (-1) (nI r)) ∧ (¬ bitN ta w = 1 → wpX5_parseGate_60 Q c f m (nI n) (nI k) (nI (ga + te * w)) (nI (te * 10)) (nI (ta ||| 2 ^ w)) (nI (ix + 1)) (nI (r + 1)))) : wpX5_parseGate_60 Q c f (m + 1) (nI n) (nI k) (nI ga) (nI te) (nI ta) (nI ix) (nI r) := by
  show wpX5_parseGate_60b Q (wpX5_parseGate_60 Q c f m) c f (nI n) (nI k) (nI ga) (nI te) (nI ta) (nI ix) (nI r)
  unfold wpX5_parseGate_60b
  rw [hw]
  refine ⟨fun h9 => absurd h9 (nI_ge hix (by omega)), fun _ => ?_⟩
  by_cases hl : r < T.length
  · refine t_at hT hl ?_
    have ht := (hT.2.2 r hl).1
    rw [show (48 : Int32) = nI 48 from rfl]
    by_cases h48 : 48 ≤ T.getD r 0
    · rw [pk_sub h48]
      refine ⟨fun h9 => absurd h9 (nI_pos (by omega)), fun _ => ?_⟩
      rw [nI_leI (by omega) (by omega)]
      by_cases hlt : T.getD r 0 - 48 < n
      · have hs := hs (T.getD r 0 - 48) (by unfold wiN; rw [if_pos ⟨hl, h48, hlt⟩])
        refine ⟨fun h9 => by omega, fun _ => ?_⟩
        have eb := q_bit (i := ta) (w := T.getD r 0 - 48) (by omega) (by omega)
        have eb : (nI ta >>> (nI (T.getD r 0 - 48) &&& 31)) &&& 1 = nI (bitN ta (T.getD r 0 - 48)) := eb
        rw [eb]
        have e1 : (nI (bitN ta (T.getD r 0 - 48)) = 1) ↔ bitN ta (T.getD r 0 - 48) = 1 := q_biteq (v := 1) (by omega)
        rw [e1]
        refine ⟨hs.1, fun h9 => ?_⟩
        intro x3 hx3 x5 hx5
        have e2 : ((1 : Int32) <<< (nI (T.getD r 0 - 48) &&& 31)) = nI (2 ^ (T.getD r 0 - 48)) := q_shl1 (by omega)
        rw [hx3, hx5, e2, pk_mul, nI_add, q_or]
        rw [show nI te * 10 = nI (te * 10) from pk_mul te 10, nI_1, nI_1]
        exact hs.2 h9
      · refine ⟨fun _ => hf (by unfold wiN; rw [if_neg (by omega)]), fun h9 => by omega⟩
    · refine ⟨fun _ => hf (by unfold wiN; rw [if_neg (by omega)]), fun h9 => absurd (pk_sneg (by omega) (by omega)) h9⟩
  · refine t_atf hT (Or.inr (nI_le (by omega) (by omega))) ?_
    exact ⟨fun _ => hf (by unfold wiN; rw [if_neg (by omega)]), fun h9 => absurd (by decide) h9⟩
theorem y_pgE {Q : Int32 → Int32 → Prop} {k ga te ta W r m : Nat} (hw : zvX2_wiresOf (nI k) = nI W) (h : Q (nI ga) (nI r)) : wpX5_parseGate_60 Q c f (m + 1) (nI n) (nI k) (nI ga) (nI te) (nI ta) (nI W) (nI r) := by
  show wpX5_parseGate_60b Q (wpX5_parseGate_60 Q c f m) c f (nI n) (nI k) (nI ga) (nI te) (nI ta) (nI W) (nI r)
  unfold wpX5_parseGate_60b
  rw [hw]
  exact ⟨fun _ => h, fun h9 => absurd (by rw [Int32.le_iff_toInt_le]; exact Int.le_refl _) h9⟩
theorem y_pg {Q : Int32 → Int32 → Prop} {i : Nat} (hT : TX c f T) (hn : n < 5) (hi : i ≤ T.length) (h : Q (ogI (pgN n T i).2) (nI (pgN n T i).1)) : wpX5_parseGate Q (nI n) c f (nI i) := by
  have hc := hT.1
  have hl := hT.2.1
  rw [hc] at hT ⊢
  unfold wpX5_parseGate
  by_cases hil : i < T.length
  · refine ⟨fun h9 => absurd h9 (nI_ge hil (by omega)), fun _ => ?_⟩
    refine t_at hT hil ?_
    rw [ki_i _ (hT.2.2 i hil).1]
    unfold wpX5_parseGate_31
    unfold pgN at h
    rw [if_pos hil] at h
    by_cases h0 : kiN (T.getD i 0) = 0
    · rw [if_pos h0] at h
      rw [h0]
      exact ⟨fun _ => h, fun h9 => absurd rfl h9⟩
    · rw [if_neg h0] at h
      have hk := kiN_lt (T.getD i 0)
      generalize kiN (T.getD i 0) = k at h h0 hk
      refine ⟨fun h9 => absurd ((nI_eq (b := 0) (by omega) (by omega)).mp h9) h0, fun _ => ?_⟩
      rw [nI_1]
      have ew := y_ws k hk
      refine ⟨4, ?_⟩
      unfold pg1 at h
      refine y_pgS (W := wsN k) (ga := k) (te := 10) (ta := 0) (ix := 0) hT hn ew (by rcases wsN_3 k with e | e | e <;> omega) (by rcases wsN_3 k with e | e | e <;> omega) (by omega) (by omega) (fun e => by rw [e] at h; exact h) (fun a ea => ?_)
      have ha := (wiN_lt ea).1
      rw [ea] at h
      refine ⟨fun h9 => absurd h9 (by unfold bitN; simp), fun _ => ?_⟩
      rw [Nat.zero_or]
      simp only at h
      by_cases h6 : k < 6
      · rw [if_pos h6] at h
        have e1 : wsN k = 1 := by unfold wsN; rw [if_neg (by omega), if_pos h6]
        rw [e1] at ew
        refine y_pgE ew ?_
        unfold encG at h; rw [if_pos h6] at h; exact h
      · rw [if_neg h6] at h
        unfold pg2 at h
        refine y_pgS (W := wsN k) (te := 100) hT hn ew (by unfold wsN; split <;> (try split) <;> omega) (by rcases wsN_3 k with e | e | e <;> omega) (by omega) (by have := p_lt (k := a) (by omega); have : 2 ^ a < 2 ^ 4 := Nat.pow_lt_pow_right (by omega) (by omega); omega) (fun e => by rw [e] at h; exact h) (fun b eb => ?_)
        have hb := (wiN_lt eb).1
        rw [eb] at h
        simp only at h
        have b1 : bitN (2 ^ a) b = 1 ↔ b = a := by
          have := bt_1 a (by omega) b (by omega)
          simp only [beq_iff_eq] at this
          rw [Bool.eq_iff_iff] at this; simpa using this
        rw [b1]
        refine ⟨fun h9 => by rw [if_pos h9] at h; exact h, fun h9 => ?_⟩
        rw [if_neg h9] at h
        have hta : 2 ^ a ||| 2 ^ b < 16 := Nat.or_lt_two_pow (n := 4) (Nat.pow_lt_pow_right (by omega) (by omega)) (Nat.pow_lt_pow_right (by omega) (by omega))
        by_cases k9 : k < 9
        · rw [if_pos k9] at h
          have e2 : wsN k = 2 := by unfold wsN; rw [if_neg (by omega), if_neg h6]
          rw [e2] at ew
          refine y_pgE ew ?_
          unfold encG at h; rw [if_neg h6, if_pos k9] at h; exact h
        · rw [if_neg k9] at h
          unfold pg3 at h
          have e3 : wsN k = 3 := by unfold wsN; rw [if_pos (by omega)]
          rw [e3] at ew
          refine y_pgS (W := 3) (te := 1000) hT hn ew (by omega) (by omega) (by omega) hta (fun e => by rw [e] at h; exact h) (fun d ed => ?_)
          have hd := (wiN_lt ed).1
          rw [ed] at h
          simp only at h
          have b2 : bitN (2 ^ a ||| 2 ^ b) d = 1 ↔ d = a ∨ d = b := by
            have := bt_2 a (by omega) b (by omega) d (by omega)
            simp only [beq_iff_eq] at this
            rw [Bool.eq_iff_iff] at this; simpa using this
          rw [b2]
          refine ⟨fun h8 => by rw [if_pos h8] at h; exact h, fun h8 => ?_⟩
          rw [if_neg h8] at h
          refine y_pgE ew ?_
          unfold encG at h; rw [if_neg h6, if_neg k9] at h; exact h
  · refine ⟨fun _ => ?_, fun h9 => absurd (nI_le (by omega) (by omega)) h9⟩
    unfold wpX5_parseGate_31
    unfold pgN at h
    rw [if_neg hil, if_pos rfl] at h
    exact ⟨fun _ => h, fun h9 => absurd rfl h9⟩
theorem pg_g {i j g : Nat} (hn : n < 5) (h : pgN n T i = (j, some g)) : gv n g = true ∧ j ≤ T.length ∧ i < j := by
  unfold pgN at h
  by_cases hil : i < T.length
  case neg => rw [if_neg hil, if_pos rfl] at h; cases h
  rw [if_pos hil] at h
  by_cases h0 : kiN (T.getD i 0) = 0
  · rw [if_pos h0] at h; cases h
  · rw [if_neg h0] at h
    have hk := kiN_lt (T.getD i 0)
    generalize kiN (T.getD i 0) = k at h h0 hk
    unfold pg1 at h
    cases ea : wiN n T (i + 1) with
    | none => rw [ea] at h; cases h
    | some a =>
      rw [ea] at h
      obtain ⟨la, pa, -⟩ := wiN_lt ea
      simp only at h
      split at h
      · cases h
        exact ⟨encG_v (by omega) hk hn la (by omega) (by omega) (by omega) (by omega), by omega, by omega⟩
      · unfold pg2 at h
        cases eb : wiN n T (i + 2) with
        | none => rw [eb] at h; cases h
        | some b =>
          rw [eb] at h
          obtain ⟨lb, pb9, -⟩ := wiN_lt eb
          simp only at h
          split at h
          · cases h
          · rename_i hba
            split at h
            · cases h
              exact ⟨encG_v (by omega) hk hn la (by omega) (by omega) (fun _ => ⟨lb, hba⟩) (by omega), by omega, by omega⟩
            · unfold pg3 at h
              cases ec : wiN n T (i + 3) with
              | none => rw [ec] at h; cases h
              | some d =>
                rw [ec] at h
                obtain ⟨lc, pc, -⟩ := wiN_lt ec
                simp only at h
                split at h
                · cases h
                · rename_i hd
                  cases h
                  exact ⟨encG_v (by omega) hk hn la (by omega) (by omega) (fun _ => ⟨lb, hba⟩) (fun _ => ⟨lc, fun e => hd (Or.inl e), fun e => hd (Or.inr e)⟩), by omega, by omega⟩
theorem y_parse {Q : Int32 → Int32 → Int32 → (Nat → Int32) → Prop} {c2 re : Int32} {f2 : Nat → Int32} (hT : TX c f T) (hn : n < 5)
    (h0 : T = [] → ∀ re c' f', CR c' f' [] → Q (-1) re c' f')
    (hb : T ≠ [] → ∀ p L, paT n T 64 0 [] = (some p, L) → ∀ re c' f', Q (nI p) re c' f')
    (hg : T ≠ [] → ∀ L, paT n T 64 0 [] = (none, L) → ∀ re c' f', CR c' f' L → Q (-1) re c' f') : wpX5_parse Q (nI n) c f re c2 f2 := by
  have hc := hT.1
  have hl := hT.2.1
  rw [hc] at hT ⊢
  unfold wpX5_parse wpX0_removeAll
  by_cases hE : T = []
  · subst hE
    exact ⟨fun _ => h0 rfl _ _ _ (CR_0 f2), fun h9 => absurd rfl h9⟩
  · have hlen : 0 < T.length := Nat.pos_of_ne_zero (fun h => hE (List.eq_nil_of_length_eq_zero h))
    refine ⟨fun h9 => absurd ((nI_eq (b := 0) (by omega) (by omega)).mp h9) (by omega), fun _ => ?_⟩
    have hb := hb hE; have hg := hg hE
    refine pk_loop (σ := Nat × Int32 × (Nat → Int32)) (fun m k s => wpX5_parse_20 Q (nI T.length) f m (nI n) (nI k) (nI s.1) s.2.1 s.2.2) (fun k s => s.1 ≤ T.length ∧ ∃ L, CR s.2.1 s.2.2 L ∧ L.length = k ∧ paT n T (64 - k) s.1 L = paT n T 64 0 []) 64 0 (0, 0, f2) (by omega) ⟨by omega, [], CR_0 f2, rfl, rfl⟩ ?_ ?_
    · intro m s hI
      obtain ⟨hs, L, hL, hLl, hp⟩ := hI
      simp (disch := omega) only [wpX5_parse_20, wpX5_parse_20b, not_true_eq_false, not_false_eq_true, forall_const, true_implies, false_implies, implies_true, and_true, true_and, and_self, Nat.not_lt_zero, ne_eq, if_true, if_false, reduceIte, Nat.reduceAdd, Nat.reduceMul, Nat.reduceSub, Nat.reduceLT, Nat.reduceLeDiff, Nat.reduceEqDiff, Nat.add_sub_cancel, eq_self_iff_true, L_0, L_1, L_2, L_3, L_4, L_5, L_6, L_7, L_8, L_9, L_10, L_16, L_20, L_21, L_24, L_31, L_64, L_100, L_320, L_400, L_1000, L_256, nI_add, pk_mul, pk_sub, nI_clamp, vp_in_nI, nI_ge, nI_le, nI_lt, nI_nlt, qI_ne, qI_eq, qI_m1, q_all, qI_nm, qI_nm2]
      exact hb _ _ hp.symm _ _ _
    · intro m k s hk9 hI hk
      obtain ⟨hs, L, hL, hLl, hp⟩ := hI
      rw [show 64 - k = (64 - (k + 1)) + 1 by omega] at hp
      unfold paT at hp
      simp (disch := omega) only [wpX5_parse_20, wpX5_parse_20b, not_true_eq_false, not_false_eq_true, forall_const, true_implies, false_implies, implies_true, and_true, true_and, and_self, Nat.not_lt_zero, ne_eq, if_true, if_false, reduceIte, Nat.reduceAdd, Nat.reduceMul, Nat.reduceSub, Nat.reduceLT, Nat.reduceLeDiff, Nat.reduceEqDiff, Nat.add_sub_cancel, eq_self_iff_true, L_0, L_1, L_2, L_3, L_4, L_5, L_6, L_7, L_8, L_9, L_10, L_16, L_20, L_21, L_24, L_31, L_64, L_100, L_320, L_400, L_1000, L_256, nI_add, pk_mul, pk_sub, nI_clamp, vp_in_nI, nI_ge, nI_le, nI_lt, nI_nlt, qI_ne, qI_eq, qI_m1, q_all, qI_nm, qI_nm2]
      refine y_pg hT hn hs ?_
      cases e : pgN n T s.1 with
      | mk j o =>
        rw [e] at hp
        cases o with
        | none =>
          exact ⟨fun _ => hb _ _ hp.symm _ _ _, fun h9 => absurd rfl h9⟩
        | some g =>
          obtain ⟨g1, g2, g3⟩ := pg_g hn e
          simp only at hp
          refine ⟨fun h9 => absurd h9 (qI_nm (by have := gv_lt g1; omega)), fun _ => ?_⟩
          refine y_add hL (by omega) (gv_lt g1) (fun c' f' h' => ?_)
          rw [nI_eq (by omega) (by omega)]
          refine ⟨fun h9 => ?_, fun h9 => ?_⟩
          · rw [if_pos h9] at hp
            exact hg _ hp.symm _ _ _ h'
          · rw [if_neg h9] at hp
            refine t_at hT (by omega) ?_
            have ht := (hT.2.2 j (by omega)).1
            have e32 : (nI (T.getD j 0) = 32) ↔ T.getD j 0 = 32 := nI_eq (b := 32) (by omega) (by omega)
            rw [e32]
            refine ⟨fun h8 => ?_, fun h8 => ?_⟩
            · rw [if_pos h8] at hp
              rw [show nI (j, some g).fst + nI 1 = nI (j + 1) from nI_add j 1]
              exact hk (j + 1, c', f') ⟨by show j + 1 ≤ _; omega, L ++ [g], h', by simp; omega, hp⟩
            · rw [if_neg h8] at hp
              exact hb _ _ hp.symm _ _ _
theorem pa_v (hn : n < 5) : ∀ (m i : Nat) (L M : List Nat), (∀ x ∈ L, gv n x = true) → paT n T m i L = (none, M) → (∀ x ∈ M, gv n x = true) ∧ M.length ≤ L.length + m := by
  intro m
  induction m with
  | zero => intro i L M _ h; cases h
  | succ m ih =>
    intro i L M hv h
    unfold paT at h
    cases e : pgN n T i with
    | mk j o =>
      rw [e] at h
      cases o with
      | none => cases h
      | some g =>
        have g1 := (pg_g hn e).1
        have hv2 : ∀ x ∈ L ++ [g], gv n x = true := fun x hx => by
          rcases List.mem_append.mp hx with h9 | h9
          · exact hv x h9
          · rw [List.mem_singleton.mp h9]; exact g1
        simp only at h
        split at h
        · cases h; exact ⟨hv2, by simp⟩
        · split at h
          · obtain ⟨a1, a2⟩ := ih _ _ _ hv2 h
            refine ⟨a1, ?_⟩
            simp at a2; omega
          · cases h
end
