/-! Walks, written by wip/whole/gen.py out of the listing of the class. -/
def zvX1_exponent  (v_t_exponent : Int32) : Int32 := v_t_exponent
abbrev zrX1_exponent : Room := { frames := 0, cells := 0, slots := 0, locals := 0 }
set_option maxHeartbeats 4000000 in
set_option maxRecDepth 100000 in
theorem zkX1_exponent (l : Launch) (D : va_G) (cI cJ cC : ClassId) (q_t q_t_parts : Nat)  (v_t_states : Int32) (v_t_exponent : Int32) : Met l yX1_exponent wmX1_exponent zrX1_exponent (zPreR D (zT cI cJ cC) [(q_t, zX1 q_t_parts v_t_states v_t_exponent)] [.ref q_t]) (vp_Si (fun r => r = zvX1_exponent v_t_exponent)) 0 0 (fun _ => False) := by
  refine Met.ofW (cc := cX1_exponent) (maxL := 1) (ret := (some .int)) (by decide) rfl ?_
  intro p e s m args below meth c s₁ B hml hv
  obtain ⟨rfl, hP, hK⟩ := hv
  have hx := B.exec
  have hb := B.bytes
  have hr := B.returns
  have hts := atoms_spec (ws := wmX1_exponent) B.pre
  have hown : s.vm.findClass RX1 = some m.cls := findClass_of_methodNamed B.named
  have hlocks := B.notSynchronized
  have hw_1 := hts _ (z_in wm_124)
  have hw_2 : ∀ w ∈ u_ws RX1 TX1 3, w ∈ wmX1_exponent := fun w h => z_in (wi_wsX10 w h)
  have hl := lv_entry ([.ref q_t]) (n := 1) (Nat.le_of_ble_eq_true rfl)
  rw [lg_entry_eq]
  generalize (lg_sl ([.ref q_t]) ++ List.replicate (1 - (lg_sl ([.ref q_t])).length) Slot.unset).toArray = ls at hl ⊢
  have hl : lv_has ls 1 [(0, .ref q_t)] := hl
  refine lv_aload_n hx hb dX1_exponent_0 rfl (lv_at hl 0 rfl) ?_
  refine va_get (D := D) (ci := 1) (v := .int v_t_exponent) (C := RX1) (T := TX1) (N := 3) hx hb hts hw_2 hown hK hP 0 rfl rfl 2 (by decide) hw_1 (fun _ h9 => h9) rfl dX1_exponent_1 ?_
  exact W.iret (v := v_t_exponent) hx hb hr (fun t ht hW => ⟨_, rfl, (by rw [zvX1_exponent]), ht⟩) (fun _ h => by cases h) dX1_exponent_4

def wpX1_part (Q : Int64 → Prop) (a1 : Int32) (a2 : Int32) (f_t_parts : Nat → Int64)  : Prop := ∀ x3_1 : Int32, x3_1 = ((4 * a1) + a2) → ((x3_1 < 0 → Q 0) ∧ (¬ x3_1 < 0 → ((64 ≤ x3_1 → Q 0) ∧ (¬ 64 ≤ x3_1 → vp_in x3_1 64 ∧ Q (f_t_parts x3_1.toNatClampNeg)))))
abbrev zrX1_part : Room := { frames := 0, cells := 0, slots := 0, locals := 0 }
set_option maxHeartbeats 4000000 in
set_option maxRecDepth 100000 in
theorem zkX1_part (l : Launch) (D : va_G) (cI cJ cC : ClassId) (q_t q_t_parts : Nat) (a1 : Int32) (a2 : Int32) (v_t_states : Int32) (v_t_exponent : Int32) (f_t_parts : Nat → Int64) {Q : Int64 → Prop} (hw : wpX1_part Q a1 a2 f_t_parts) : Met l yX1_part wmX1_part zrX1_part (zPreR D (zT cI cJ cC) [(q_t, zX1 q_t_parts v_t_states v_t_exponent), (q_t_parts, zJ cJ 64 f_t_parts)] [.ref q_t, .int a1, .int a2]) (vp_Sl (fun r => Q r)) 0 0 (fun _ => False) := by
  refine Met.ofW (cc := cX1_part) (maxL := 4) (ret := (some .long)) (by decide) rfl ?_
  intro p e s m args below meth c s₁ B hml hv
  obtain ⟨rfl, hP, hK⟩ := hv
  have hx := B.exec
  have hb := B.bytes
  have hr := B.returns
  have hts := atoms_spec (ws := wmX1_part) B.pre
  have hown : s.vm.findClass RX1 = some m.cls := findClass_of_methodNamed B.named
  have hlocks := B.notSynchronized
  have hw_1 := hts _ (z_in wm_122)
  have hw_2 : ∀ w ∈ u_ws RX1 TX1 3, w ∈ wmX1_part := fun w h => z_in (wi_wsX10 w h)
  have hl := lv_entry ([.ref q_t, .int a1, .int a2]) (n := 4) (Nat.le_of_ble_eq_true rfl)
  rw [lg_entry_eq]
  generalize (lg_sl ([.ref q_t, .int a1, .int a2]) ++ List.replicate (4 - (lg_sl ([.ref q_t, .int a1, .int a2])).length) Slot.unset).toArray = ls at hl ⊢
  have hl : lv_has ls 4 [(0, .ref q_t), (1, .int a1), (2, .int a2)] := hl
  refine lv_iconst (v := 4) hx hb dX1_part_0 (by decide) ?_
  refine lv_iload_n hx hb dX1_part_1 rfl (lv_at hl 1 rfl) ?_
  refine lv_imul hx hb dX1_part_2 ?_
  refine lv_iload_n hx hb dX1_part_3 rfl (lv_at hl 2 rfl) ?_
  refine lv_iadd hx hb dX1_part_4 ?_
  refine lv_topi (fun x3_1 ex3_1 => ?_)
  have hw := hw x3_1 ex3_1
  refine lv_istore_n (lv' := [(3, .int x3_1), (0, .ref q_t), (1, .int a1), (2, .int a2)]) hx hb dX1_part_5 rfl hl (by decide) rfl (fun ls hl => ?_)
  refine lv_iload_n hx hb dX1_part_6 rfl (lv_at hl 0 rfl) ?_
  refine lv_if_lt (tgt := 28) hx hb dX1_part_7 (by decide) (fun c2 => ?_) (fun c2 => ?_)
  · have hw := hw.1 c2
    refine lv_lconst (v := 0) hx hb dX1_part_28 (by decide) ?_
    exact W.lret (v := 0) hx hb hr (fun t ht hW => ⟨_, rfl, hw, ht⟩) (fun _ h => by cases h) dX1_part_29
  · have hw := hw.2 c2
    refine lv_iload_n hx hb dX1_part_10 rfl (lv_at hl 0 rfl) ?_
    refine lv_aload_n hx hb dX1_part_11 rfl (lv_at hl 1 rfl) ?_
    refine va_get (D := D) (ci := 1) (v := .ref q_t_parts) (C := RX1) (T := TX1) (N := 3) hx hb hts hw_2 hown hK hP 0 rfl rfl 0 (by decide) hw_1 (fun _ h9 => h9) rfl dX1_part_12 ?_
    refine va_alen (v := 64) hx hb hK hP 1 1 rfl rfl rfl dX1_part_15 ?_
    refine lv_icmp_ge (tgt := 28) hx hb dX1_part_16 (by decide) (fun c3 => ?_) (fun c3 => ?_)
    · have hw := hw.1 c3
      refine lv_lconst (v := 0) hx hb dX1_part_28 (by decide) ?_
      exact W.lret (v := 0) hx hb hr (fun t ht hW => ⟨_, rfl, hw, ht⟩) (fun _ h => by cases h) dX1_part_29
    · have hw := hw.2 c3
      refine lv_aload_n hx hb dX1_part_19 rfl (lv_at hl 1 rfl) ?_
      refine va_get (D := D) (ci := 1) (v := .ref q_t_parts) (C := RX1) (T := TX1) (N := 3) hx hb hts hw_2 hown hK hP 0 rfl rfl 0 (by decide) hw_1 (fun _ h9 => h9) rfl dX1_part_20 ?_
      refine lv_iload_n hx hb dX1_part_23 rfl (lv_at hl 0 rfl) ?_
      obtain ⟨h4, hw⟩ := hw
      refine va_lald hx hb hK hP 1 1 rfl rfl h4 dX1_part_24 ?_
      refine lv_goto (tgt := 29) hx hb dX1_part_25 (by decide) ?_
      exact W.lret (v := (f_t_parts x3_1.toNatClampNeg)) hx hb hr (fun t ht hW => ⟨_, rfl, hw, ht⟩) (fun _ h => by cases h) dX1_part_29

def wpJ7_fill_d0a16_6b (Q : (Nat → Int64) → Prop)  (R_6 : (Int64) → (Int32) → (Int32) → (Nat → Int64) → Prop)  (x1 : Int64) (x3 : Int32) (x4 : Int32) (f_a0 : Nat → Int64) : Prop := ((x4 ≤ x3 → Q f_a0) ∧ (¬ x4 ≤ x3 → vp_in x3 64 ∧ R_6 x1 (x3 + 1) x4 (vp_updL f_a0 x3.toNatClampNeg x1)))
def wpJ7_fill_d0a16_6 (Q : (Nat → Int64) → Prop)   : Nat → (Int64) → (Int32) → (Int32) → (Nat → Int64) → Prop
  | 0 => fun _ _ _ _ => False
  | n + 1 => fun x1 x3 x4 f_a0 => wpJ7_fill_d0a16_6b Q  (wpJ7_fill_d0a16_6 Q   n)  x1 x3 x4 f_a0
def wpJ7_fill_d0a16 (Q : (Nat → Int64) → Prop) (a1 : Int64)  (f_a0 : Nat → Int64) : Prop := ∃ n : Nat, wpJ7_fill_d0a16_6 Q   n a1 0 64 f_a0
abbrev zrJ7_fill_d0a16 : Room := { frames := 0, cells := 0, slots := 0, locals := 0 }
set_option maxHeartbeats 4000000 in
set_option maxRecDepth 100000 in
theorem zkJ7_fill_d0a16 (l : Launch) (D : va_G) (cI cJ cC : ClassId) (q_a0 : Nat) (sz : Nat) (a1 : Int64) (f_a0 : Nat → Int64) {Q : (Nat → Int64) → Prop} (hw : wpJ7_fill_d0a16 Q a1 f_a0) : Met l yJ7_fill_d0a16 wmJ7_fill_d0a16 zrJ7_fill_d0a16 (zPreW D (zT cI cJ cC) [(q_a0, zJ cJ 64 f_a0)] sz [.ref q_a0, .long a1]) (va_Qv (fun u : (Nat → Int64) => Q u) (fun u t => zAt D (va_A [(q_a0, zJ cJ 64 f_a0)] sz) [(q_a0, zJ cJ 64 u)] t) (va_A [(q_a0, zJ cJ 64 f_a0)] sz)) 0 0 (va_A [(q_a0, zJ cJ 64 f_a0)] sz) := by
  refine Met.ofW (cc := cJ7_fill_d0a16) (maxL := 5) (ret := none) (by decide) rfl ?_
  intro p e s m args below meth c s₁ B hml hv
  obtain ⟨rfl, hsz, hP, hK, hD0⟩ := hv
  have hx := B.exec
  have hb := B.bytes
  have hr := B.returns
  have hts := atoms_spec (ws := wmJ7_fill_d0a16) B.pre
  have hown : s.vm.findClass RJ7 = some m.cls := findClass_of_methodNamed B.named
  have hlocks := B.notSynchronized
  subst hsz
  have hD := hD0.self (sz := s.heap.size)
  generalize hAe : va_A [(q_a0, zJ cJ 64 f_a0)] s.heap.size = A at hD ⊢
  have hA : ∀ q : Nat, s.heap.size ≤ q → A q := fun q h => by rw [← hAe]; exact Or.inr h
  have hS : va_S A s.heap s.heap [] := va_S.rf
  have hP : va_P D vwCl [(q_a0, zJ cJ 64 f_a0)] s.heap := hP
  have hl := lv_entry ([.ref q_a0, .long a1]) (n := 5) (Nat.le_of_ble_eq_true rfl)
  rw [lg_entry_eq]
  generalize (lg_sl ([.ref q_a0, .long a1]) ++ List.replicate (5 - (lg_sl ([.ref q_a0, .long a1])).length) Slot.unset).toArray = ls at hl ⊢
  have hl : lv_has ls 5 [(0, .ref q_a0), (1, .long a1)] := hl
  have L_6 : ∀ (n : Nat), ∀ (x1 : Int64) (x3 : Int32) (x4 : Int32) (f_a0 : Nat → Int64) (H : Heap) (locs : List Loc) (ls : Array Slot), va_P D vwCl [(q_a0, zJ cJ 64 f_a0)] H → va_D A [(q_a0, zJ cJ 64 f_a0)] → va_S A s.heap H locs → lv_has ls 5 [(0, .ref q_a0), (1, .long x1), (3, .int x3), (4, .int x4)] → wpJ7_fill_d0a16_6 Q   n x1 x3 x4 f_a0 → W p l e (headSpec wmJ7_fill_d0a16 zrJ7_fill_d0a16).room s m ([.ref q_a0, .long a1] : List Value).toArray below meth c H locs 0 0 (MQ below (va_Qv (fun u : (Nat → Int64) => Q u) (fun u t => zAt D A [(q_a0, zJ cJ 64 u)] t) A) ([.ref q_a0, .long a1] : List Value).toArray s 0 0 A) (F0 m 6 ls []) := by
    intro n
    induction n with
    | zero => intro x1 x3 x4 f_a0 H locs ls hP hD hS hl hw; exact False.elim hw
    | succ n_6 ih_6 =>
      intro x1 x3 x4 f_a0 H locs ls hP hD hS hl hw
      have hw : wpJ7_fill_d0a16_6b Q  (wpJ7_fill_d0a16_6 Q   n_6)  x1 x3 x4 f_a0 := hw
      refine lv_iload_n hx hb dJ7_fill_d0a16_6 rfl (lv_at hl 2 rfl) ?_
      refine lv_iload hx hb dJ7_fill_d0a16_7 (lv_at hl 3 rfl) ?_
      refine lv_icmp_ge (tgt := 22) hx hb dJ7_fill_d0a16_9 (by decide) (fun c1 => ?_) (fun c1 => ?_)
      · have hw := hw.1 c1
        exact W.vret hx hb hr (fun t ht hW => ⟨⟨(f_a0), rfl, hw, ⟨by rw [ht]; exact hP, hD⟩⟩, hS.F ht⟩) hS.2.2 dJ7_fill_d0a16_22
      · have hw := hw.2 c1
        refine lv_aload_n hx hb dJ7_fill_d0a16_12 rfl (lv_at hl 0 rfl) ?_
        refine lv_iload_n hx hb dJ7_fill_d0a16_13 rfl (lv_at hl 2 rfl) ?_
        refine lv_lload_n hx hb dJ7_fill_d0a16_14 rfl (lv_at hl 1 rfl) ?_
        obtain ⟨h2, hw⟩ := hw
        refine va_last hx hb hK hP hD hS 0 1 rfl rfl h2 dJ7_fill_d0a16_15 (fun H locs hP hD hS => ?_)
        have hP : va_P D vwCl [(q_a0, zJ cJ 64 (vp_updL f_a0 x3.toNatClampNeg x1))] H := hP
        have hD : va_D A [(q_a0, zJ cJ 64 (vp_updL f_a0 x3.toNatClampNeg x1))] := hD
        refine lv_iinc (v := (x3 + 1)) (lv' := [(3, .int (x3 + 1)), (0, .ref q_a0), (1, .long x1), (4, .int x4)]) hx hb dJ7_fill_d0a16_16 hl (k := 2) rfl rfl (by decide) rfl (fun ls hl => ?_)
        refine lv_goto (tgt := 6) hx hb dJ7_fill_d0a16_19 (by decide) ?_
        exact ih_6 x1 (x3 + 1) x4 (vp_updL f_a0 x3.toNatClampNeg x1) _ _ _ hP hD hS (lv_sub hl [1, 2, 0, 3] rfl) hw
  refine lv_iconst (v := 0) hx hb dJ7_fill_d0a16_0 (by decide) ?_
  refine lv_istore_n (lv' := [(3, .int 0), (0, .ref q_a0), (1, .long a1)]) hx hb dJ7_fill_d0a16_1 rfl hl (by decide) rfl (fun ls hl => ?_)
  refine lv_aload_n hx hb dJ7_fill_d0a16_2 rfl (lv_at hl 1 rfl) ?_
  refine va_alen (v := 64) hx hb hK hP 0 1 rfl rfl rfl dJ7_fill_d0a16_3 ?_
  refine lv_istore (lv' := [(4, .int 64), (3, .int 0), (0, .ref q_a0), (1, .long a1)]) hx hb dJ7_fill_d0a16_4 hl (by decide) rfl (fun ls hl => ?_)
  obtain ⟨n_6, hw⟩ := hw
  exact L_6 n_6 a1 0 64 f_a0 _ _ _ hP hD hS (lv_sub hl [2, 3, 1, 0] rfl) hw

def wpX1_timesRoot (Q : (Nat → Int64) → Prop) (a1 : Int32)  (f_t_parts : Nat → Int64) : Prop := vp_in a1 64 ∧ vp_in (a1 + 1) 64 ∧ ∀ x4_3 : Int64, x4_3 = (f_t_parts (a1 + 1).toNatClampNeg) → vp_in (a1 + 2) 64 ∧ ∀ x6_5 : Int64, x6_5 = (f_t_parts (a1 + 2).toNatClampNeg) → vp_in (a1 + 3) 64 ∧ ∀ x8_7 : Int64, x8_7 = (f_t_parts (a1 + 3).toNatClampNeg) → vp_in a1 64 ∧ vp_in (a1 + 1) 64 ∧ vp_in (a1 + 2) 64 ∧ vp_in (a1 + 3) 64 ∧ Q (vp_updL (vp_updL (vp_updL (vp_updL f_t_parts a1.toNatClampNeg (x4_3 - x8_7)) (a1 + 1).toNatClampNeg ((f_t_parts a1.toNatClampNeg) + x6_5)) (a1 + 2).toNatClampNeg (x4_3 + x8_7)) (a1 + 3).toNatClampNeg (x6_5 - (f_t_parts a1.toNatClampNeg)))
abbrev zrX1_timesRoot : Room := { frames := 0, cells := 0, slots := 0, locals := 0 }
set_option maxHeartbeats 4000000 in
set_option maxRecDepth 100000 in
theorem zkX1_timesRoot (l : Launch) (D : va_G) (cI cJ cC : ClassId) (q_t q_t_parts : Nat) (sz : Nat) (a1 : Int32) (v_t_states : Int32) (v_t_exponent : Int32) (f_t_parts : Nat → Int64) {Q : (Nat → Int64) → Prop} (hw : wpX1_timesRoot Q a1 f_t_parts) : Met l yX1_timesRoot wmX1_timesRoot zrX1_timesRoot (zPreW D (zT cI cJ cC) [(q_t, zX1 q_t_parts v_t_states v_t_exponent), (q_t_parts, zJ cJ 64 f_t_parts)] sz [.ref q_t, .int a1]) (va_Qv (fun u : (Nat → Int64) => Q u) (fun u t => zAt D (va_A [(q_t, zX1 q_t_parts v_t_states v_t_exponent), (q_t_parts, zJ cJ 64 f_t_parts)] sz) [(q_t, zX1 q_t_parts v_t_states v_t_exponent), (q_t_parts, zJ cJ 64 u)] t) (va_A [(q_t, zX1 q_t_parts v_t_states v_t_exponent), (q_t_parts, zJ cJ 64 f_t_parts)] sz)) 0 0 (va_A [(q_t, zX1 q_t_parts v_t_states v_t_exponent), (q_t_parts, zJ cJ 64 f_t_parts)] sz) := by
  refine Met.ofW (cc := cX1_timesRoot) (maxL := 10) (ret := none) (by decide) rfl ?_
  intro p e s m args below meth c s₁ B hml hv
  obtain ⟨rfl, hsz, hP, hK, hD0⟩ := hv
  have hx := B.exec
  have hb := B.bytes
  have hr := B.returns
  have hts := atoms_spec (ws := wmX1_timesRoot) B.pre
  have hown : s.vm.findClass RX1 = some m.cls := findClass_of_methodNamed B.named
  have hlocks := B.notSynchronized
  subst hsz
  have hD := hD0.self (sz := s.heap.size)
  generalize hAe : va_A [(q_t, zX1 q_t_parts v_t_states v_t_exponent), (q_t_parts, zJ cJ 64 f_t_parts)] s.heap.size = A at hD ⊢
  have hA : ∀ q : Nat, s.heap.size ≤ q → A q := fun q h => by rw [← hAe]; exact Or.inr h
  have hS : va_S A s.heap s.heap [] := va_S.rf
  have hP : va_P D vwCl [(q_t, zX1 q_t_parts v_t_states v_t_exponent), (q_t_parts, zJ cJ 64 f_t_parts)] s.heap := hP
  have hw_1 := hts _ (z_in wm_122)
  have hw_2 : ∀ w ∈ u_ws RX1 TX1 3, w ∈ wmX1_timesRoot := fun w h => z_in (wi_wsX10 w h)
  have hl := lv_entry ([.ref q_t, .int a1]) (n := 10) (Nat.le_of_ble_eq_true rfl)
  rw [lg_entry_eq]
  generalize (lg_sl ([.ref q_t, .int a1]) ++ List.replicate (10 - (lg_sl ([.ref q_t, .int a1])).length) Slot.unset).toArray = ls at hl ⊢
  have hl : lv_has ls 10 [(0, .ref q_t), (1, .int a1)] := hl
  refine lv_aload_n hx hb dX1_timesRoot_0 rfl (lv_at hl 0 rfl) ?_
  refine va_get (D := D) (ci := 1) (v := .ref q_t_parts) (C := RX1) (T := TX1) (N := 3) hx hb hts hw_2 hown hK hP 0 rfl rfl 0 (by decide) hw_1 (fun _ h9 => h9) rfl dX1_timesRoot_1 ?_
  refine lv_iload_n hx hb dX1_timesRoot_4 rfl (lv_at hl 1 rfl) ?_
  obtain ⟨h1, hw⟩ := hw
  refine va_lald hx hb hK hP 1 1 rfl rfl h1 dX1_timesRoot_5 ?_
  refine lv_lstore_n (lv' := [(2, .long (f_t_parts a1.toNatClampNeg)), (0, .ref q_t), (1, .int a1)]) hx hb dX1_timesRoot_6 rfl hl (by decide) rfl (fun ls hl => ?_)
  refine lv_aload_n hx hb dX1_timesRoot_7 rfl (lv_at hl 1 rfl) ?_
  refine va_get (D := D) (ci := 1) (v := .ref q_t_parts) (C := RX1) (T := TX1) (N := 3) hx hb hts hw_2 hown hK hP 0 rfl rfl 0 (by decide) hw_1 (fun _ h9 => h9) rfl dX1_timesRoot_8 ?_
  refine lv_iload_n hx hb dX1_timesRoot_11 rfl (lv_at hl 2 rfl) ?_
  refine lv_iconst (v := 1) hx hb dX1_timesRoot_12 (by decide) ?_
  refine lv_iadd hx hb dX1_timesRoot_13 ?_
  obtain ⟨h2, hw⟩ := hw
  refine va_lald hx hb hK hP 1 1 rfl rfl h2 dX1_timesRoot_14 ?_
  refine lv_topl (fun x4_3 ex4_3 => ?_)
  have hw := hw x4_3 ex4_3
  refine lv_lstore (lv' := [(4, .long x4_3), (2, .long (f_t_parts a1.toNatClampNeg)), (0, .ref q_t), (1, .int a1)]) hx hb dX1_timesRoot_15 hl (by decide) rfl (fun ls hl => ?_)
  refine lv_aload_n hx hb dX1_timesRoot_17 rfl (lv_at hl 2 rfl) ?_
  refine va_get (D := D) (ci := 1) (v := .ref q_t_parts) (C := RX1) (T := TX1) (N := 3) hx hb hts hw_2 hown hK hP 0 rfl rfl 0 (by decide) hw_1 (fun _ h9 => h9) rfl dX1_timesRoot_18 ?_
  refine lv_iload_n hx hb dX1_timesRoot_21 rfl (lv_at hl 3 rfl) ?_
  refine lv_iconst (v := 2) hx hb dX1_timesRoot_22 (by decide) ?_
  refine lv_iadd hx hb dX1_timesRoot_23 ?_
  obtain ⟨h4, hw⟩ := hw
  refine va_lald hx hb hK hP 1 1 rfl rfl h4 dX1_timesRoot_24 ?_
  refine lv_topl (fun x6_5 ex6_5 => ?_)
  have hw := hw x6_5 ex6_5
  refine lv_lstore (lv' := [(6, .long x6_5), (4, .long x4_3), (2, .long (f_t_parts a1.toNatClampNeg)), (0, .ref q_t), (1, .int a1)]) hx hb dX1_timesRoot_25 hl (by decide) rfl (fun ls hl => ?_)
  refine lv_aload_n hx hb dX1_timesRoot_27 rfl (lv_at hl 3 rfl) ?_
  refine va_get (D := D) (ci := 1) (v := .ref q_t_parts) (C := RX1) (T := TX1) (N := 3) hx hb hts hw_2 hown hK hP 0 rfl rfl 0 (by decide) hw_1 (fun _ h9 => h9) rfl dX1_timesRoot_28 ?_
  refine lv_iload_n hx hb dX1_timesRoot_31 rfl (lv_at hl 4 rfl) ?_
  refine lv_iconst (v := 3) hx hb dX1_timesRoot_32 (by decide) ?_
  refine lv_iadd hx hb dX1_timesRoot_33 ?_
  obtain ⟨h6, hw⟩ := hw
  refine va_lald hx hb hK hP 1 1 rfl rfl h6 dX1_timesRoot_34 ?_
  refine lv_topl (fun x8_7 ex8_7 => ?_)
  have hw := hw x8_7 ex8_7
  refine lv_lstore (lv' := [(8, .long x8_7), (6, .long x6_5), (4, .long x4_3), (2, .long (f_t_parts a1.toNatClampNeg)), (0, .ref q_t), (1, .int a1)]) hx hb dX1_timesRoot_35 hl (by decide) rfl (fun ls hl => ?_)
  refine lv_aload_n hx hb dX1_timesRoot_37 rfl (lv_at hl 4 rfl) ?_
  refine va_get (D := D) (ci := 1) (v := .ref q_t_parts) (C := RX1) (T := TX1) (N := 3) hx hb hts hw_2 hown hK hP 0 rfl rfl 0 (by decide) hw_1 (fun _ h9 => h9) rfl dX1_timesRoot_38 ?_
  refine lv_iload_n hx hb dX1_timesRoot_41 rfl (lv_at hl 5 rfl) ?_
  refine lv_lload hx hb dX1_timesRoot_42 (lv_at hl 2 rfl) ?_
  refine lv_lload hx hb dX1_timesRoot_44 (lv_at hl 0 rfl) ?_
  refine lv_lsub hx hb dX1_timesRoot_46 ?_
  obtain ⟨h8, hw⟩ := hw
  refine va_last hx hb hK hP hD hS 1 1 rfl rfl h8 dX1_timesRoot_47 (fun H locs hP hD hS => ?_)
  have hP : va_P D vwCl [(q_t, zX1 q_t_parts v_t_states v_t_exponent), (q_t_parts, zJ cJ 64 (vp_updL f_t_parts a1.toNatClampNeg (x4_3 - x8_7)))] H := hP
  have hD : va_D A [(q_t, zX1 q_t_parts v_t_states v_t_exponent), (q_t_parts, zJ cJ 64 (vp_updL f_t_parts a1.toNatClampNeg (x4_3 - x8_7)))] := hD
  refine lv_aload_n hx hb dX1_timesRoot_48 rfl (lv_at hl 4 rfl) ?_
  refine va_get (D := D) (ci := 1) (v := .ref q_t_parts) (C := RX1) (T := TX1) (N := 3) hx hb hts hw_2 hown hK hP 0 rfl rfl 0 (by decide) hw_1 (fun _ h9 => h9) rfl dX1_timesRoot_49 ?_
  refine lv_iload_n hx hb dX1_timesRoot_52 rfl (lv_at hl 5 rfl) ?_
  refine lv_iconst (v := 1) hx hb dX1_timesRoot_53 (by decide) ?_
  refine lv_iadd hx hb dX1_timesRoot_54 ?_
  refine lv_lload_n hx hb dX1_timesRoot_55 rfl (lv_at hl 3 rfl) ?_
  refine lv_lload hx hb dX1_timesRoot_56 (lv_at hl 1 rfl) ?_
  refine lv_ladd hx hb dX1_timesRoot_58 ?_
  obtain ⟨h10, hw⟩ := hw
  refine va_last hx hb hK hP hD hS 1 1 rfl rfl h10 dX1_timesRoot_59 (fun H locs hP hD hS => ?_)
  have hP : va_P D vwCl [(q_t, zX1 q_t_parts v_t_states v_t_exponent), (q_t_parts, zJ cJ 64 (vp_updL (vp_updL f_t_parts a1.toNatClampNeg (x4_3 - x8_7)) (a1 + 1).toNatClampNeg ((f_t_parts a1.toNatClampNeg) + x6_5)))] H := hP
  have hD : va_D A [(q_t, zX1 q_t_parts v_t_states v_t_exponent), (q_t_parts, zJ cJ 64 (vp_updL (vp_updL f_t_parts a1.toNatClampNeg (x4_3 - x8_7)) (a1 + 1).toNatClampNeg ((f_t_parts a1.toNatClampNeg) + x6_5)))] := hD
  refine lv_aload_n hx hb dX1_timesRoot_60 rfl (lv_at hl 4 rfl) ?_
  refine va_get (D := D) (ci := 1) (v := .ref q_t_parts) (C := RX1) (T := TX1) (N := 3) hx hb hts hw_2 hown hK hP 0 rfl rfl 0 (by decide) hw_1 (fun _ h9 => h9) rfl dX1_timesRoot_61 ?_
  refine lv_iload_n hx hb dX1_timesRoot_64 rfl (lv_at hl 5 rfl) ?_
  refine lv_iconst (v := 2) hx hb dX1_timesRoot_65 (by decide) ?_
  refine lv_iadd hx hb dX1_timesRoot_66 ?_
  refine lv_lload hx hb dX1_timesRoot_67 (lv_at hl 2 rfl) ?_
  refine lv_lload hx hb dX1_timesRoot_69 (lv_at hl 0 rfl) ?_
  refine lv_ladd hx hb dX1_timesRoot_71 ?_
  obtain ⟨h12, hw⟩ := hw
  refine va_last hx hb hK hP hD hS 1 1 rfl rfl h12 dX1_timesRoot_72 (fun H locs hP hD hS => ?_)
  have hP : va_P D vwCl [(q_t, zX1 q_t_parts v_t_states v_t_exponent), (q_t_parts, zJ cJ 64 (vp_updL (vp_updL (vp_updL f_t_parts a1.toNatClampNeg (x4_3 - x8_7)) (a1 + 1).toNatClampNeg ((f_t_parts a1.toNatClampNeg) + x6_5)) (a1 + 2).toNatClampNeg (x4_3 + x8_7)))] H := hP
  have hD : va_D A [(q_t, zX1 q_t_parts v_t_states v_t_exponent), (q_t_parts, zJ cJ 64 (vp_updL (vp_updL (vp_updL f_t_parts a1.toNatClampNeg (x4_3 - x8_7)) (a1 + 1).toNatClampNeg ((f_t_parts a1.toNatClampNeg) + x6_5)) (a1 + 2).toNatClampNeg (x4_3 + x8_7)))] := hD
  refine lv_aload_n hx hb dX1_timesRoot_73 rfl (lv_at hl 4 rfl) ?_
  refine va_get (D := D) (ci := 1) (v := .ref q_t_parts) (C := RX1) (T := TX1) (N := 3) hx hb hts hw_2 hown hK hP 0 rfl rfl 0 (by decide) hw_1 (fun _ h9 => h9) rfl dX1_timesRoot_74 ?_
  refine lv_iload_n hx hb dX1_timesRoot_77 rfl (lv_at hl 5 rfl) ?_
  refine lv_iconst (v := 3) hx hb dX1_timesRoot_78 (by decide) ?_
  refine lv_iadd hx hb dX1_timesRoot_79 ?_
  refine lv_lload hx hb dX1_timesRoot_80 (lv_at hl 1 rfl) ?_
  refine lv_lload_n hx hb dX1_timesRoot_82 rfl (lv_at hl 3 rfl) ?_
  refine lv_lsub hx hb dX1_timesRoot_83 ?_
  obtain ⟨h14, hw⟩ := hw
  refine va_last hx hb hK hP hD hS 1 1 rfl rfl h14 dX1_timesRoot_84 (fun H locs hP hD hS => ?_)
  have hP : va_P D vwCl [(q_t, zX1 q_t_parts v_t_states v_t_exponent), (q_t_parts, zJ cJ 64 (vp_updL (vp_updL (vp_updL (vp_updL f_t_parts a1.toNatClampNeg (x4_3 - x8_7)) (a1 + 1).toNatClampNeg ((f_t_parts a1.toNatClampNeg) + x6_5)) (a1 + 2).toNatClampNeg (x4_3 + x8_7)) (a1 + 3).toNatClampNeg (x6_5 - (f_t_parts a1.toNatClampNeg))))] H := hP
  have hD : va_D A [(q_t, zX1 q_t_parts v_t_states v_t_exponent), (q_t_parts, zJ cJ 64 (vp_updL (vp_updL (vp_updL (vp_updL f_t_parts a1.toNatClampNeg (x4_3 - x8_7)) (a1 + 1).toNatClampNeg ((f_t_parts a1.toNatClampNeg) + x6_5)) (a1 + 2).toNatClampNeg (x4_3 + x8_7)) (a1 + 3).toNatClampNeg (x6_5 - (f_t_parts a1.toNatClampNeg))))] := hD
  exact W.vret hx hb hr (fun t ht hW => ⟨⟨((vp_updL (vp_updL (vp_updL (vp_updL f_t_parts a1.toNatClampNeg (x4_3 - x8_7)) (a1 + 1).toNatClampNeg ((f_t_parts a1.toNatClampNeg) + x6_5)) (a1 + 2).toNatClampNeg (x4_3 + x8_7)) (a1 + 3).toNatClampNeg (x6_5 - (f_t_parts a1.toNatClampNeg)))), rfl, hw, ⟨by rw [ht]; exact hP, hD⟩⟩, hS.F ht⟩) hS.2.2 dX1_timesRoot_85

def wpX1_raise_2b (Q : (Int32) → (Nat → Int64) → Prop)  (R_2 : (Int32) → (Int32) → (Nat → Int64) → Prop) (v_t_states : Int32) (x1 : Int32) (v_t_exponent : Int32) (f_t_parts : Nat → Int64) : Prop := ((v_t_states ≤ x1 → Q (v_t_exponent + 1) f_t_parts) ∧ (¬ v_t_states ≤ x1 → wpX1_timesRoot (fun (u2 : Nat → Int64) => R_2 (x1 + 1) v_t_exponent u2) (4 * x1) f_t_parts))
def wpX1_raise_2 (Q : (Int32) → (Nat → Int64) → Prop)  (v_t_states : Int32) : Nat → (Int32) → (Int32) → (Nat → Int64) → Prop
  | 0 => fun _ _ _ => False
  | n + 1 => fun x1 v_t_exponent f_t_parts => wpX1_raise_2b Q  (wpX1_raise_2 Q  v_t_states n) v_t_states x1 v_t_exponent f_t_parts
def wpX1_raise (Q : (Int32) → (Nat → Int64) → Prop)  (v_t_states : Int32) (v_t_exponent : Int32) (f_t_parts : Nat → Int64) : Prop := ∃ n : Nat, wpX1_raise_2 Q  v_t_states n 0 v_t_exponent f_t_parts
abbrev zrX1_raise : Room := { frames := 1, cells := 0, slots := 0, locals := 29 }
set_option maxHeartbeats 4000000 in
set_option maxRecDepth 100000 in
theorem zkX1_raise (l : Launch) (D : va_G) (cI cJ cC : ClassId) (q_t q_t_parts : Nat) (sz : Nat)  (v_t_states : Int32) (v_t_exponent : Int32) (f_t_parts : Nat → Int64) {Q : (Int32) → (Nat → Int64) → Prop} (hw : wpX1_raise Q v_t_states v_t_exponent f_t_parts) : Met l yX1_raise wmX1_raise zrX1_raise (zPreW D (zT cI cJ cC) [(q_t, zX1 q_t_parts v_t_states v_t_exponent), (q_t_parts, zJ cJ 64 f_t_parts)] sz [.ref q_t]) (va_Qv (fun u : (Int32) × (Nat → Int64) => Q (u.1) (u.2)) (fun u t => zAt D (va_A [(q_t, zX1 q_t_parts v_t_states v_t_exponent), (q_t_parts, zJ cJ 64 f_t_parts)] sz) [(q_t, zX1 q_t_parts v_t_states (u.1)), (q_t_parts, zJ cJ 64 (u.2))] t) (va_A [(q_t, zX1 q_t_parts v_t_states v_t_exponent), (q_t_parts, zJ cJ 64 f_t_parts)] sz)) 0 0 (va_A [(q_t, zX1 q_t_parts v_t_states v_t_exponent), (q_t_parts, zJ cJ 64 f_t_parts)] sz) := by
  refine Met.ofW (cc := cX1_raise) (maxL := 2) (ret := none) (by decide) rfl ?_
  intro p e s m args below meth c s₁ B hml hv
  obtain ⟨rfl, hsz, hP, hK, hD0⟩ := hv
  have hx := B.exec
  have hb := B.bytes
  have hr := B.returns
  have hts := atoms_spec (ws := wmX1_raise) B.pre
  have hown : s.vm.findClass RX1 = some m.cls := findClass_of_methodNamed B.named
  have hlocks := B.notSynchronized
  subst hsz
  have hD := hD0.self (sz := s.heap.size)
  generalize hAe : va_A [(q_t, zX1 q_t_parts v_t_states v_t_exponent), (q_t_parts, zJ cJ 64 f_t_parts)] s.heap.size = A at hD ⊢
  have hA : ∀ q : Nat, s.heap.size ≤ q → A q := fun q h => by rw [← hAe]; exact Or.inr h
  have hS : va_S A s.heap s.heap [] := va_S.rf
  have hP : va_P D vwCl [(q_t, zX1 q_t_parts v_t_states v_t_exponent), (q_t_parts, zJ cJ 64 f_t_parts)] s.heap := hP
  have hw_1 := hts _ (z_in wm_123)
  have hw_2 : ∀ w ∈ u_ws RX1 TX1 3, w ∈ wmX1_raise := fun w h => z_in (wi_wsX10 w h)
  have hw_3 := hts _ (z_in wm_124)
  have hl := lv_entry ([.ref q_t]) (n := 2) (Nat.le_of_ble_eq_true rfl)
  rw [lg_entry_eq]
  generalize (lg_sl ([.ref q_t]) ++ List.replicate (2 - (lg_sl ([.ref q_t])).length) Slot.unset).toArray = ls at hl ⊢
  have hl : lv_has ls 2 [(0, .ref q_t)] := hl
  have L_2 : ∀ (n : Nat), ∀ (x1 : Int32) (v_t_exponent : Int32) (f_t_parts : Nat → Int64) (H : Heap) (locs : List Loc) (ls : Array Slot), va_P D vwCl [(q_t, zX1 q_t_parts v_t_states v_t_exponent), (q_t_parts, zJ cJ 64 f_t_parts)] H → va_D A [(q_t, zX1 q_t_parts v_t_states v_t_exponent), (q_t_parts, zJ cJ 64 f_t_parts)] → va_S A s.heap H locs → lv_has ls 2 [(0, .ref q_t), (1, .int x1)] → wpX1_raise_2 Q  v_t_states n x1 v_t_exponent f_t_parts → W p l e (headSpec wmX1_raise zrX1_raise).room s m ([.ref q_t] : List Value).toArray below meth c H locs 0 0 (MQ below (va_Qv (fun u : (Int32) × (Nat → Int64) => Q (u.1) (u.2)) (fun u t => zAt D A [(q_t, zX1 q_t_parts v_t_states (u.1)), (q_t_parts, zJ cJ 64 (u.2))] t) A) ([.ref q_t] : List Value).toArray s 0 0 A) (F0 m 2 ls []) := by
    intro n
    induction n with
    | zero => intro x1 v_t_exponent f_t_parts H locs ls hP hD hS hl hw; exact False.elim hw
    | succ n_2 ih_2 =>
      intro x1 v_t_exponent f_t_parts H locs ls hP hD hS hl hw
      have hw : wpX1_raise_2b Q  (wpX1_raise_2 Q  v_t_states n_2) v_t_states x1 v_t_exponent f_t_parts := hw
      refine lv_iload_n hx hb dX1_raise_2 rfl (lv_at hl 1 rfl) ?_
      refine lv_aload_n hx hb dX1_raise_3 rfl (lv_at hl 0 rfl) ?_
      refine va_get (D := D) (ci := 1) (v := .int v_t_states) (C := RX1) (T := TX1) (N := 3) hx hb hts hw_2 hown hK hP 0 rfl rfl 1 (by decide) hw_1 (fun _ h9 => h9) rfl dX1_raise_4 ?_
      refine lv_icmp_ge (tgt := 23) hx hb dX1_raise_7 (by decide) (fun c1 => ?_) (fun c1 => ?_)
      · have hw := hw.1 c1
        refine lv_aload_n hx hb dX1_raise_23 rfl (lv_at hl 0 rfl) ?_
        refine lv_dup hx hb dX1_raise_24 rfl ?_
        refine va_get (D := D) (ci := 1) (v := .int v_t_exponent) (C := RX1) (T := TX1) (N := 3) hx hb hts hw_2 hown hK hP 0 rfl rfl 2 (by decide) hw_3 (fun _ h9 => h9) rfl dX1_raise_25 ?_
        refine lv_iconst (v := 1) hx hb dX1_raise_28 (by decide) ?_
        refine lv_iadd hx hb dX1_raise_29 ?_
        refine va_put (D := D) (ci := 1) (v := .int (v_t_exponent + 1)) (ty := .int) (C := RX1) (T := TX1) (N := 3) hx hb hts hw_2 tyX1 tyX1_ok nmX1 hown hK hP hD hS 0 rfl rfl 2 (by decide) hw_3 (fun _ h9 => h9) rfl (by decide +kernel) rfl rfl (Nat.le_of_ble_eq_true rfl) dX1_raise_30 (fun H locs hP hD hS => ?_)
        have hP : va_P D vwCl [(q_t, zX1 q_t_parts v_t_states (v_t_exponent + 1)), (q_t_parts, zJ cJ 64 f_t_parts)] H := hP
        have hD : va_D A [(q_t, zX1 q_t_parts v_t_states (v_t_exponent + 1)), (q_t_parts, zJ cJ 64 f_t_parts)] := hD
        exact W.vret hx hb hr (fun t ht hW => ⟨⟨((v_t_exponent + 1), f_t_parts), rfl, hw, ⟨by rw [ht]; exact hP, hD⟩⟩, hS.F ht⟩) hS.2.2 dX1_raise_33
      · have hw := hw.2 c1
        refine lv_aload_n hx hb dX1_raise_10 rfl (lv_at hl 0 rfl) ?_
        refine lv_iconst (v := 4) hx hb dX1_raise_11 (by decide) ?_
        refine lv_iload_n hx hb dX1_raise_12 rfl (lv_at hl 1 rfl) ?_
        refine lv_imul hx hb dX1_raise_13 ?_
        refine z_wv (wc := [(q_t, zX1 q_t_parts v_t_states v_t_exponent), (q_t_parts, zJ cJ 64 f_t_parts)]) (wr := []) (W1 := fun u : (Nat → Int64) => [(q_t, zX1 q_t_parts v_t_states v_t_exponent), (q_t_parts, zJ cJ 64 u)]) (va_runV (As := [.int (4 * x1)]) (rest := []) ⟨hx, hb, hml, hown, hts⟩ (zkX1_timesRoot l D cI cJ cC q_t q_t_parts _ (4 * x1) v_t_states v_t_exponent f_t_parts hw) (cwV 1 hts (z_gV wm_130 wm_131 wm_132 wm_133 wm_128) rfl rfl rfl (by decide +kernel) ⟨Nat.le_of_ble_eq_true rfl, Nat.le_of_ble_eq_true rfl⟩) (z_pvW hK hP hD [0, 1] rfl (by decide) rfl 0 1 rfl rfl) rfl rfl hl.1 rfl (lv_room (Nat.le_of_ble_eq_true rfl)) dX1_raise_14 ⟨Nat.zero_le _, Nat.zero_le _⟩) hP hD hS hA [0, 1] [] rfl rfl (by decide) (by decide) (fun u9 H locs hw hP hD hS => ?_)
        obtain ⟨u2, rfl⟩ : ∃ z, z = u9 := ⟨_, rfl⟩
        have hP : va_P D vwCl [(q_t, zX1 q_t_parts v_t_states v_t_exponent), (q_t_parts, zJ cJ 64 u2)] H := hP
        have hD : va_D A [(q_t, zX1 q_t_parts v_t_states v_t_exponent), (q_t_parts, zJ cJ 64 u2)] := hD
        try dsimp only at hw
        refine lv_iinc (v := (x1 + 1)) (lv' := [(1, .int (x1 + 1)), (0, .ref q_t)]) hx hb dX1_raise_17 hl (k := 1) rfl rfl (by decide) rfl (fun ls hl => ?_)
        refine lv_goto (tgt := 2) hx hb dX1_raise_20 (by decide) ?_
        exact ih_2 (x1 + 1) v_t_exponent u2 _ _ _ hP hD hS (lv_sub hl [1, 0] rfl) hw
  refine lv_iconst (v := 0) hx hb dX1_raise_0 (by decide) ?_
  refine lv_istore_n (lv' := [(1, .int 0), (0, .ref q_t)]) hx hb dX1_raise_1 rfl hl (by decide) rfl (fun ls hl => ?_)
  obtain ⟨n_2, hw⟩ := hw
  exact L_2 n_2 0 v_t_exponent f_t_parts _ _ _ hP hD hS (lv_sub hl [1, 0] rfl) hw

def wpX1_mixPair_2b (Q : (Nat → Int64) → Prop)  (R_2 : (Int32) → (Int32) → (Int32) → (Nat → Int64) → Prop)  (x1 : Int32) (x2 : Int32) (x3 : Int32) (f_t_parts : Nat → Int64) : Prop := ((4 ≤ x3 → Q f_t_parts) ∧ (¬ 4 ≤ x3 → vp_in (x1 + x3) 64 ∧ vp_in (x2 + x3) 64 ∧ ∀ x4_4 : Int64, x4_4 = ((f_t_parts (x1 + x3).toNatClampNeg) + (f_t_parts (x2 + x3).toNatClampNeg)) → vp_in (x1 + x3) 64 ∧ vp_in (x2 + x3) 64 ∧ ∀ z_7 : Int64, z_7 = ((f_t_parts (x1 + x3).toNatClampNeg) - (f_t_parts (x2 + x3).toNatClampNeg)) → vp_in (x2 + x3) 64 ∧ vp_in (x1 + x3) 64 ∧ R_2 x1 x2 (x3 + 1) (vp_updL (vp_updL f_t_parts (x2 + x3).toNatClampNeg z_7) (x1 + x3).toNatClampNeg x4_4)))
def wpX1_mixPair_2 (Q : (Nat → Int64) → Prop)   : Nat → (Int32) → (Int32) → (Int32) → (Nat → Int64) → Prop
  | 0 => fun _ _ _ _ => False
  | n + 1 => fun x1 x2 x3 f_t_parts => wpX1_mixPair_2b Q  (wpX1_mixPair_2 Q   n)  x1 x2 x3 f_t_parts
def wpX1_mixPair (Q : (Nat → Int64) → Prop) (a1 : Int32) (a2 : Int32)  (f_t_parts : Nat → Int64) : Prop := ∃ n : Nat, wpX1_mixPair_2 Q   n a1 a2 0 f_t_parts
abbrev zrX1_mixPair : Room := { frames := 0, cells := 0, slots := 0, locals := 0 }
set_option maxHeartbeats 4000000 in
set_option maxRecDepth 100000 in
theorem zkX1_mixPair (l : Launch) (D : va_G) (cI cJ cC : ClassId) (q_t q_t_parts : Nat) (sz : Nat) (a1 : Int32) (a2 : Int32) (v_t_states : Int32) (v_t_exponent : Int32) (f_t_parts : Nat → Int64) {Q : (Nat → Int64) → Prop} (hw : wpX1_mixPair Q a1 a2 f_t_parts) : Met l yX1_mixPair wmX1_mixPair zrX1_mixPair (zPreW D (zT cI cJ cC) [(q_t, zX1 q_t_parts v_t_states v_t_exponent), (q_t_parts, zJ cJ 64 f_t_parts)] sz [.ref q_t, .int a1, .int a2]) (va_Qv (fun u : (Nat → Int64) => Q u) (fun u t => zAt D (va_A [(q_t, zX1 q_t_parts v_t_states v_t_exponent), (q_t_parts, zJ cJ 64 f_t_parts)] sz) [(q_t, zX1 q_t_parts v_t_states v_t_exponent), (q_t_parts, zJ cJ 64 u)] t) (va_A [(q_t, zX1 q_t_parts v_t_states v_t_exponent), (q_t_parts, zJ cJ 64 f_t_parts)] sz)) 0 0 (va_A [(q_t, zX1 q_t_parts v_t_states v_t_exponent), (q_t_parts, zJ cJ 64 f_t_parts)] sz) := by
  refine Met.ofW (cc := cX1_mixPair) (maxL := 6) (ret := none) (by decide) rfl ?_
  intro p e s m args below meth c s₁ B hml hv
  obtain ⟨rfl, hsz, hP, hK, hD0⟩ := hv
  have hx := B.exec
  have hb := B.bytes
  have hr := B.returns
  have hts := atoms_spec (ws := wmX1_mixPair) B.pre
  have hown : s.vm.findClass RX1 = some m.cls := findClass_of_methodNamed B.named
  have hlocks := B.notSynchronized
  subst hsz
  have hD := hD0.self (sz := s.heap.size)
  generalize hAe : va_A [(q_t, zX1 q_t_parts v_t_states v_t_exponent), (q_t_parts, zJ cJ 64 f_t_parts)] s.heap.size = A at hD ⊢
  have hA : ∀ q : Nat, s.heap.size ≤ q → A q := fun q h => by rw [← hAe]; exact Or.inr h
  have hS : va_S A s.heap s.heap [] := va_S.rf
  have hP : va_P D vwCl [(q_t, zX1 q_t_parts v_t_states v_t_exponent), (q_t_parts, zJ cJ 64 f_t_parts)] s.heap := hP
  have hw_1 := hts _ (z_in wm_122)
  have hw_2 : ∀ w ∈ u_ws RX1 TX1 3, w ∈ wmX1_mixPair := fun w h => z_in (wi_wsX10 w h)
  have hl := lv_entry ([.ref q_t, .int a1, .int a2]) (n := 6) (Nat.le_of_ble_eq_true rfl)
  rw [lg_entry_eq]
  generalize (lg_sl ([.ref q_t, .int a1, .int a2]) ++ List.replicate (6 - (lg_sl ([.ref q_t, .int a1, .int a2])).length) Slot.unset).toArray = ls at hl ⊢
  have hl : lv_has ls 6 [(0, .ref q_t), (1, .int a1), (2, .int a2)] := hl
  have L_2 : ∀ (n : Nat), ∀ (x1 : Int32) (x2 : Int32) (x3 : Int32) (f_t_parts : Nat → Int64) (H : Heap) (locs : List Loc) (ls : Array Slot), va_P D vwCl [(q_t, zX1 q_t_parts v_t_states v_t_exponent), (q_t_parts, zJ cJ 64 f_t_parts)] H → va_D A [(q_t, zX1 q_t_parts v_t_states v_t_exponent), (q_t_parts, zJ cJ 64 f_t_parts)] → va_S A s.heap H locs → lv_has ls 6 [(0, .ref q_t), (1, .int x1), (2, .int x2), (3, .int x3)] → wpX1_mixPair_2 Q   n x1 x2 x3 f_t_parts → W p l e (headSpec wmX1_mixPair zrX1_mixPair).room s m ([.ref q_t, .int a1, .int a2] : List Value).toArray below meth c H locs 0 0 (MQ below (va_Qv (fun u : (Nat → Int64) => Q u) (fun u t => zAt D A [(q_t, zX1 q_t_parts v_t_states v_t_exponent), (q_t_parts, zJ cJ 64 u)] t) A) ([.ref q_t, .int a1, .int a2] : List Value).toArray s 0 0 A) (F0 m 2 ls []) := by
    intro n
    induction n with
    | zero => intro x1 x2 x3 f_t_parts H locs ls hP hD hS hl hw; exact False.elim hw
    | succ n_2 ih_2 =>
      intro x1 x2 x3 f_t_parts H locs ls hP hD hS hl hw
      have hw : wpX1_mixPair_2b Q  (wpX1_mixPair_2 Q   n_2)  x1 x2 x3 f_t_parts := hw
      refine lv_iload_n hx hb dX1_mixPair_2 rfl (lv_at hl 3 rfl) ?_
      refine lv_iconst (v := 4) hx hb dX1_mixPair_3 (by decide) ?_
      refine lv_icmp_ge (tgt := 67) hx hb dX1_mixPair_4 (by decide) (fun c1 => ?_) (fun c1 => ?_)
      · have hw := hw.1 c1
        exact W.vret hx hb hr (fun t ht hW => ⟨⟨(f_t_parts), rfl, hw, ⟨by rw [ht]; exact hP, hD⟩⟩, hS.F ht⟩) hS.2.2 dX1_mixPair_67
      · have hw := hw.2 c1
        refine lv_aload_n hx hb dX1_mixPair_7 rfl (lv_at hl 0 rfl) ?_
        refine va_get (D := D) (ci := 1) (v := .ref q_t_parts) (C := RX1) (T := TX1) (N := 3) hx hb hts hw_2 hown hK hP 0 rfl rfl 0 (by decide) hw_1 (fun _ h9 => h9) rfl dX1_mixPair_8 ?_
        refine lv_iload_n hx hb dX1_mixPair_11 rfl (lv_at hl 1 rfl) ?_
        refine lv_iload_n hx hb dX1_mixPair_12 rfl (lv_at hl 3 rfl) ?_
        refine lv_iadd hx hb dX1_mixPair_13 ?_
        obtain ⟨h2, hw⟩ := hw
        refine va_lald hx hb hK hP 1 1 rfl rfl h2 dX1_mixPair_14 ?_
        refine lv_aload_n hx hb dX1_mixPair_15 rfl (lv_at hl 0 rfl) ?_
        refine va_get (D := D) (ci := 1) (v := .ref q_t_parts) (C := RX1) (T := TX1) (N := 3) hx hb hts hw_2 hown hK hP 0 rfl rfl 0 (by decide) hw_1 (fun _ h9 => h9) rfl dX1_mixPair_16 ?_
        refine lv_iload_n hx hb dX1_mixPair_19 rfl (lv_at hl 2 rfl) ?_
        refine lv_iload_n hx hb dX1_mixPair_20 rfl (lv_at hl 3 rfl) ?_
        refine lv_iadd hx hb dX1_mixPair_21 ?_
        obtain ⟨h3, hw⟩ := hw
        refine va_lald hx hb hK hP 1 1 rfl rfl h3 dX1_mixPair_22 ?_
        refine lv_ladd hx hb dX1_mixPair_23 ?_
        refine lv_topl (fun x4_4 ex4_4 => ?_)
        have hw := hw x4_4 ex4_4
        refine lv_lstore (lv' := [(4, .long x4_4), (0, .ref q_t), (1, .int x1), (2, .int x2), (3, .int x3)]) hx hb dX1_mixPair_24 hl (by decide) rfl (fun ls hl => ?_)
        refine lv_aload_n hx hb dX1_mixPair_26 rfl (lv_at hl 1 rfl) ?_
        refine va_get (D := D) (ci := 1) (v := .ref q_t_parts) (C := RX1) (T := TX1) (N := 3) hx hb hts hw_2 hown hK hP 0 rfl rfl 0 (by decide) hw_1 (fun _ h9 => h9) rfl dX1_mixPair_27 ?_
        refine lv_iload_n hx hb dX1_mixPair_30 rfl (lv_at hl 3 rfl) ?_
        refine lv_iload_n hx hb dX1_mixPair_31 rfl (lv_at hl 4 rfl) ?_
        refine lv_iadd hx hb dX1_mixPair_32 ?_
        refine lv_aload_n hx hb dX1_mixPair_33 rfl (lv_at hl 1 rfl) ?_
        refine va_get (D := D) (ci := 1) (v := .ref q_t_parts) (C := RX1) (T := TX1) (N := 3) hx hb hts hw_2 hown hK hP 0 rfl rfl 0 (by decide) hw_1 (fun _ h9 => h9) rfl dX1_mixPair_34 ?_
        refine lv_iload_n hx hb dX1_mixPair_37 rfl (lv_at hl 2 rfl) ?_
        refine lv_iload_n hx hb dX1_mixPair_38 rfl (lv_at hl 4 rfl) ?_
        refine lv_iadd hx hb dX1_mixPair_39 ?_
        obtain ⟨h5, hw⟩ := hw
        refine va_lald hx hb hK hP 1 1 rfl rfl h5 dX1_mixPair_40 ?_
        refine lv_aload_n hx hb dX1_mixPair_41 rfl (lv_at hl 1 rfl) ?_
        refine va_get (D := D) (ci := 1) (v := .ref q_t_parts) (C := RX1) (T := TX1) (N := 3) hx hb hts hw_2 hown hK hP 0 rfl rfl 0 (by decide) hw_1 (fun _ h9 => h9) rfl dX1_mixPair_42 ?_
        refine lv_iload_n hx hb dX1_mixPair_45 rfl (lv_at hl 3 rfl) ?_
        refine lv_iload_n hx hb dX1_mixPair_46 rfl (lv_at hl 4 rfl) ?_
        refine lv_iadd hx hb dX1_mixPair_47 ?_
        obtain ⟨h6, hw⟩ := hw
        refine va_lald hx hb hK hP 1 1 rfl rfl h6 dX1_mixPair_48 ?_
        refine lv_lsub hx hb dX1_mixPair_49 ?_
        refine lv_topl (fun z_7 ez_7 => ?_)
        have hw := hw z_7 ez_7
        obtain ⟨h8, hw⟩ := hw
        refine va_last hx hb hK hP hD hS 1 1 rfl rfl h8 dX1_mixPair_50 (fun H locs hP hD hS => ?_)
        have hP : va_P D vwCl [(q_t, zX1 q_t_parts v_t_states v_t_exponent), (q_t_parts, zJ cJ 64 (vp_updL f_t_parts (x2 + x3).toNatClampNeg z_7))] H := hP
        have hD : va_D A [(q_t, zX1 q_t_parts v_t_states v_t_exponent), (q_t_parts, zJ cJ 64 (vp_updL f_t_parts (x2 + x3).toNatClampNeg z_7))] := hD
        refine lv_aload_n hx hb dX1_mixPair_51 rfl (lv_at hl 1 rfl) ?_
        refine va_get (D := D) (ci := 1) (v := .ref q_t_parts) (C := RX1) (T := TX1) (N := 3) hx hb hts hw_2 hown hK hP 0 rfl rfl 0 (by decide) hw_1 (fun _ h9 => h9) rfl dX1_mixPair_52 ?_
        refine lv_iload_n hx hb dX1_mixPair_55 rfl (lv_at hl 2 rfl) ?_
        refine lv_iload_n hx hb dX1_mixPair_56 rfl (lv_at hl 4 rfl) ?_
        refine lv_iadd hx hb dX1_mixPair_57 ?_
        refine lv_lload hx hb dX1_mixPair_58 (lv_at hl 0 rfl) ?_
        obtain ⟨h10, hw⟩ := hw
        refine va_last hx hb hK hP hD hS 1 1 rfl rfl h10 dX1_mixPair_60 (fun H locs hP hD hS => ?_)
        have hP : va_P D vwCl [(q_t, zX1 q_t_parts v_t_states v_t_exponent), (q_t_parts, zJ cJ 64 (vp_updL (vp_updL f_t_parts (x2 + x3).toNatClampNeg z_7) (x1 + x3).toNatClampNeg x4_4))] H := hP
        have hD : va_D A [(q_t, zX1 q_t_parts v_t_states v_t_exponent), (q_t_parts, zJ cJ 64 (vp_updL (vp_updL f_t_parts (x2 + x3).toNatClampNeg z_7) (x1 + x3).toNatClampNeg x4_4))] := hD
        refine lv_iinc (v := (x3 + 1)) (lv' := [(3, .int (x3 + 1)), (4, .long x4_4), (0, .ref q_t), (1, .int x1), (2, .int x2)]) hx hb dX1_mixPair_61 hl (k := 4) rfl rfl (by decide) rfl (fun ls hl => ?_)
        refine lv_goto (tgt := 2) hx hb dX1_mixPair_64 (by decide) ?_
        exact ih_2 x1 x2 (x3 + 1) (vp_updL (vp_updL f_t_parts (x2 + x3).toNatClampNeg z_7) (x1 + x3).toNatClampNeg x4_4) _ _ _ hP hD hS (lv_sub hl [2, 3, 4, 0] rfl) hw
  refine lv_iconst (v := 0) hx hb dX1_mixPair_0 (by decide) ?_
  refine lv_istore_n (lv' := [(3, .int 0), (0, .ref q_t), (1, .int a1), (2, .int a2)]) hx hb dX1_mixPair_1 rfl hl (by decide) rfl (fun ls hl => ?_)
  obtain ⟨n_2, hw⟩ := hw
  exact L_2 n_2 a1 a2 0 f_t_parts _ _ _ hP hD hS (lv_sub hl [1, 2, 3, 0] rfl) hw

def wpX1_mix_2b (Q : (Int32) → (Nat → Int64) → Prop)  (R_2 : (Int32) → (Int32) → (Int32) → (Nat → Int64) → Prop) (v_t_states : Int32) (x1 : Int32) (x2 : Int32) (v_t_exponent : Int32) (f_t_parts : Nat → Int64) : Prop := ((v_t_states ≤ x2 → Q (v_t_exponent + 1) f_t_parts) ∧ (¬ v_t_states ≤ x2 → (((x2 &&& x1) = 0 → wpX1_mixPair (fun (u3 : Nat → Int64) => R_2 x1 (x2 + 1) v_t_exponent u3) (4 * x2) (4 * (x2 ||| x1)) f_t_parts) ∧ (¬ (x2 &&& x1) = 0 → R_2 x1 (x2 + 1) v_t_exponent f_t_parts))))
def wpX1_mix_2 (Q : (Int32) → (Nat → Int64) → Prop)  (v_t_states : Int32) : Nat → (Int32) → (Int32) → (Int32) → (Nat → Int64) → Prop
  | 0 => fun _ _ _ _ => False
  | n + 1 => fun x1 x2 v_t_exponent f_t_parts => wpX1_mix_2b Q  (wpX1_mix_2 Q  v_t_states n) v_t_states x1 x2 v_t_exponent f_t_parts
def wpX1_mix (Q : (Int32) → (Nat → Int64) → Prop) (a1 : Int32) (v_t_states : Int32) (v_t_exponent : Int32) (f_t_parts : Nat → Int64) : Prop := ∃ n : Nat, wpX1_mix_2 Q  v_t_states n a1 0 v_t_exponent f_t_parts
abbrev zrX1_mix : Room := { frames := 1, cells := 0, slots := 0, locals := 25 }
set_option maxHeartbeats 4000000 in
set_option maxRecDepth 100000 in
theorem zkX1_mix (l : Launch) (D : va_G) (cI cJ cC : ClassId) (q_t q_t_parts : Nat) (sz : Nat) (a1 : Int32) (v_t_states : Int32) (v_t_exponent : Int32) (f_t_parts : Nat → Int64) {Q : (Int32) → (Nat → Int64) → Prop} (hw : wpX1_mix Q a1 v_t_states v_t_exponent f_t_parts) : Met l yX1_mix wmX1_mix zrX1_mix (zPreW D (zT cI cJ cC) [(q_t, zX1 q_t_parts v_t_states v_t_exponent), (q_t_parts, zJ cJ 64 f_t_parts)] sz [.ref q_t, .int a1]) (va_Qv (fun u : (Int32) × (Nat → Int64) => Q (u.1) (u.2)) (fun u t => zAt D (va_A [(q_t, zX1 q_t_parts v_t_states v_t_exponent), (q_t_parts, zJ cJ 64 f_t_parts)] sz) [(q_t, zX1 q_t_parts v_t_states (u.1)), (q_t_parts, zJ cJ 64 (u.2))] t) (va_A [(q_t, zX1 q_t_parts v_t_states v_t_exponent), (q_t_parts, zJ cJ 64 f_t_parts)] sz)) 0 0 (va_A [(q_t, zX1 q_t_parts v_t_states v_t_exponent), (q_t_parts, zJ cJ 64 f_t_parts)] sz) := by
  refine Met.ofW (cc := cX1_mix) (maxL := 3) (ret := none) (by decide) rfl ?_
  intro p e s m args below meth c s₁ B hml hv
  obtain ⟨rfl, hsz, hP, hK, hD0⟩ := hv
  have hx := B.exec
  have hb := B.bytes
  have hr := B.returns
  have hts := atoms_spec (ws := wmX1_mix) B.pre
  have hown : s.vm.findClass RX1 = some m.cls := findClass_of_methodNamed B.named
  have hlocks := B.notSynchronized
  subst hsz
  have hD := hD0.self (sz := s.heap.size)
  generalize hAe : va_A [(q_t, zX1 q_t_parts v_t_states v_t_exponent), (q_t_parts, zJ cJ 64 f_t_parts)] s.heap.size = A at hD ⊢
  have hA : ∀ q : Nat, s.heap.size ≤ q → A q := fun q h => by rw [← hAe]; exact Or.inr h
  have hS : va_S A s.heap s.heap [] := va_S.rf
  have hP : va_P D vwCl [(q_t, zX1 q_t_parts v_t_states v_t_exponent), (q_t_parts, zJ cJ 64 f_t_parts)] s.heap := hP
  have hw_1 := hts _ (z_in wm_123)
  have hw_2 : ∀ w ∈ u_ws RX1 TX1 3, w ∈ wmX1_mix := fun w h => z_in (wi_wsX10 w h)
  have hw_3 := hts _ (z_in wm_124)
  have hl := lv_entry ([.ref q_t, .int a1]) (n := 3) (Nat.le_of_ble_eq_true rfl)
  rw [lg_entry_eq]
  generalize (lg_sl ([.ref q_t, .int a1]) ++ List.replicate (3 - (lg_sl ([.ref q_t, .int a1])).length) Slot.unset).toArray = ls at hl ⊢
  have hl : lv_has ls 3 [(0, .ref q_t), (1, .int a1)] := hl
  have L_2 : ∀ (n : Nat), ∀ (x1 : Int32) (x2 : Int32) (v_t_exponent : Int32) (f_t_parts : Nat → Int64) (H : Heap) (locs : List Loc) (ls : Array Slot), va_P D vwCl [(q_t, zX1 q_t_parts v_t_states v_t_exponent), (q_t_parts, zJ cJ 64 f_t_parts)] H → va_D A [(q_t, zX1 q_t_parts v_t_states v_t_exponent), (q_t_parts, zJ cJ 64 f_t_parts)] → va_S A s.heap H locs → lv_has ls 3 [(0, .ref q_t), (1, .int x1), (2, .int x2)] → wpX1_mix_2 Q  v_t_states n x1 x2 v_t_exponent f_t_parts → W p l e (headSpec wmX1_mix zrX1_mix).room s m ([.ref q_t, .int a1] : List Value).toArray below meth c H locs 0 0 (MQ below (va_Qv (fun u : (Int32) × (Nat → Int64) => Q (u.1) (u.2)) (fun u t => zAt D A [(q_t, zX1 q_t_parts v_t_states (u.1)), (q_t_parts, zJ cJ 64 (u.2))] t) A) ([.ref q_t, .int a1] : List Value).toArray s 0 0 A) (F0 m 2 ls []) := by
    intro n
    induction n with
    | zero => intro x1 x2 v_t_exponent f_t_parts H locs ls hP hD hS hl hw; exact False.elim hw
    | succ n_2 ih_2 =>
      intro x1 x2 v_t_exponent f_t_parts H locs ls hP hD hS hl hw
      have hw : wpX1_mix_2b Q  (wpX1_mix_2 Q  v_t_states n_2) v_t_states x1 x2 v_t_exponent f_t_parts := hw
      refine lv_iload_n hx hb dX1_mix_2 rfl (lv_at hl 2 rfl) ?_
      refine lv_aload_n hx hb dX1_mix_3 rfl (lv_at hl 0 rfl) ?_
      refine va_get (D := D) (ci := 1) (v := .int v_t_states) (C := RX1) (T := TX1) (N := 3) hx hb hts hw_2 hown hK hP 0 rfl rfl 1 (by decide) hw_1 (fun _ h9 => h9) rfl dX1_mix_4 ?_
      refine lv_icmp_ge (tgt := 34) hx hb dX1_mix_7 (by decide) (fun c1 => ?_) (fun c1 => ?_)
      · have hw := hw.1 c1
        refine lv_aload_n hx hb dX1_mix_34 rfl (lv_at hl 0 rfl) ?_
        refine lv_dup hx hb dX1_mix_35 rfl ?_
        refine va_get (D := D) (ci := 1) (v := .int v_t_exponent) (C := RX1) (T := TX1) (N := 3) hx hb hts hw_2 hown hK hP 0 rfl rfl 2 (by decide) hw_3 (fun _ h9 => h9) rfl dX1_mix_36 ?_
        refine lv_iconst (v := 1) hx hb dX1_mix_39 (by decide) ?_
        refine lv_iadd hx hb dX1_mix_40 ?_
        refine va_put (D := D) (ci := 1) (v := .int (v_t_exponent + 1)) (ty := .int) (C := RX1) (T := TX1) (N := 3) hx hb hts hw_2 tyX1 tyX1_ok nmX1 hown hK hP hD hS 0 rfl rfl 2 (by decide) hw_3 (fun _ h9 => h9) rfl (by decide +kernel) rfl rfl (Nat.le_of_ble_eq_true rfl) dX1_mix_41 (fun H locs hP hD hS => ?_)
        have hP : va_P D vwCl [(q_t, zX1 q_t_parts v_t_states (v_t_exponent + 1)), (q_t_parts, zJ cJ 64 f_t_parts)] H := hP
        have hD : va_D A [(q_t, zX1 q_t_parts v_t_states (v_t_exponent + 1)), (q_t_parts, zJ cJ 64 f_t_parts)] := hD
        exact W.vret hx hb hr (fun t ht hW => ⟨⟨((v_t_exponent + 1), f_t_parts), rfl, hw, ⟨by rw [ht]; exact hP, hD⟩⟩, hS.F ht⟩) hS.2.2 dX1_mix_44
      · have hw := hw.2 c1
        refine lv_iload_n hx hb dX1_mix_10 rfl (lv_at hl 2 rfl) ?_
        refine lv_iload_n hx hb dX1_mix_11 rfl (lv_at hl 1 rfl) ?_
        refine lv_iand hx hb dX1_mix_12 ?_
        refine lv_if_ne (tgt := 28) hx hb dX1_mix_13 (by decide) (fun c2 => ?_) (fun c2 => ?_)
        · have hw := hw.2 c2
          refine lv_iinc (v := (x2 + 1)) (lv' := [(2, .int (x2 + 1)), (0, .ref q_t), (1, .int x1)]) hx hb dX1_mix_28 hl (k := 2) rfl rfl (by decide) rfl (fun ls hl => ?_)
          refine lv_goto (tgt := 2) hx hb dX1_mix_31 (by decide) ?_
          exact ih_2 x1 (x2 + 1) v_t_exponent f_t_parts _ _ _ hP hD hS (lv_sub hl [1, 2, 0] rfl) hw
        · have hw := hw.1 c2
          refine lv_aload_n hx hb dX1_mix_16 rfl (lv_at hl 0 rfl) ?_
          refine lv_iconst (v := 4) hx hb dX1_mix_17 (by decide) ?_
          refine lv_iload_n hx hb dX1_mix_18 rfl (lv_at hl 2 rfl) ?_
          refine lv_imul hx hb dX1_mix_19 ?_
          refine lv_iconst (v := 4) hx hb dX1_mix_20 (by decide) ?_
          refine lv_iload_n hx hb dX1_mix_21 rfl (lv_at hl 2 rfl) ?_
          refine lv_iload_n hx hb dX1_mix_22 rfl (lv_at hl 1 rfl) ?_
          refine lv_ior hx hb dX1_mix_23 ?_
          refine lv_imul hx hb dX1_mix_24 ?_
          refine z_wv (wc := [(q_t, zX1 q_t_parts v_t_states v_t_exponent), (q_t_parts, zJ cJ 64 f_t_parts)]) (wr := []) (W1 := fun u : (Nat → Int64) => [(q_t, zX1 q_t_parts v_t_states v_t_exponent), (q_t_parts, zJ cJ 64 u)]) (va_runV (As := [.int (4 * x2), .int (4 * (x2 ||| x1))]) (rest := []) ⟨hx, hb, hml, hown, hts⟩ (zkX1_mixPair l D cI cJ cC q_t q_t_parts _ (4 * x2) (4 * (x2 ||| x1)) v_t_states v_t_exponent f_t_parts hw) (cwV 2 hts (z_gV wm_136 wm_137 wm_138 wm_133 wm_134) rfl rfl rfl (by decide +kernel) ⟨Nat.le_of_ble_eq_true rfl, Nat.le_of_ble_eq_true rfl⟩) (z_pvW hK hP hD [0, 1] rfl (by decide) rfl 0 1 rfl rfl) rfl rfl hl.1 rfl (lv_room (Nat.le_of_ble_eq_true rfl)) dX1_mix_25 ⟨Nat.zero_le _, Nat.zero_le _⟩) hP hD hS hA [0, 1] [] rfl rfl (by decide) (by decide) (fun u9 H locs hw hP hD hS => ?_)
          obtain ⟨u3, rfl⟩ : ∃ z, z = u9 := ⟨_, rfl⟩
          have hP : va_P D vwCl [(q_t, zX1 q_t_parts v_t_states v_t_exponent), (q_t_parts, zJ cJ 64 u3)] H := hP
          have hD : va_D A [(q_t, zX1 q_t_parts v_t_states v_t_exponent), (q_t_parts, zJ cJ 64 u3)] := hD
          try dsimp only at hw
          refine lv_iinc (v := (x2 + 1)) (lv' := [(2, .int (x2 + 1)), (0, .ref q_t), (1, .int x1)]) hx hb dX1_mix_28 hl (k := 2) rfl rfl (by decide) rfl (fun ls hl => ?_)
          refine lv_goto (tgt := 2) hx hb dX1_mix_31 (by decide) ?_
          exact ih_2 x1 (x2 + 1) v_t_exponent u3 _ _ _ hP hD hS (lv_sub hl [1, 2, 0] rfl) hw
  refine lv_iconst (v := 0) hx hb dX1_mix_0 (by decide) ?_
  refine lv_istore_n (lv' := [(2, .int 0), (0, .ref q_t), (1, .int a1)]) hx hb dX1_mix_1 rfl hl (by decide) rfl (fun ls hl => ?_)
  obtain ⟨n_2, hw⟩ := hw
  exact L_2 n_2 a1 0 v_t_exponent f_t_parts _ _ _ hP hD hS (lv_sub hl [1, 2, 0] rfl) hw

def wpX1_exchange_2b (Q : (Nat → Int64) → Prop)  (R_2 : (Int32) → (Int32) → (Int32) → (Nat → Int64) → Prop)  (x1 : Int32) (x2 : Int32) (x3 : Int32) (f_t_parts : Nat → Int64) : Prop := ((4 ≤ x3 → Q f_t_parts) ∧ (¬ 4 ≤ x3 → vp_in (x1 + x3) 64 ∧ ∀ x4_3 : Int64, x4_3 = (f_t_parts (x1 + x3).toNatClampNeg) → vp_in (x2 + x3) 64 ∧ vp_in (x1 + x3) 64 ∧ vp_in (x2 + x3) 64 ∧ R_2 x1 x2 (x3 + 1) (vp_updL (vp_updL f_t_parts (x1 + x3).toNatClampNeg (f_t_parts (x2 + x3).toNatClampNeg)) (x2 + x3).toNatClampNeg x4_3)))
def wpX1_exchange_2 (Q : (Nat → Int64) → Prop)   : Nat → (Int32) → (Int32) → (Int32) → (Nat → Int64) → Prop
  | 0 => fun _ _ _ _ => False
  | n + 1 => fun x1 x2 x3 f_t_parts => wpX1_exchange_2b Q  (wpX1_exchange_2 Q   n)  x1 x2 x3 f_t_parts
def wpX1_exchange (Q : (Nat → Int64) → Prop) (a1 : Int32) (a2 : Int32)  (f_t_parts : Nat → Int64) : Prop := ∃ n : Nat, wpX1_exchange_2 Q   n a1 a2 0 f_t_parts
abbrev zrX1_exchange : Room := { frames := 0, cells := 0, slots := 0, locals := 0 }
set_option maxHeartbeats 4000000 in
set_option maxRecDepth 100000 in
theorem zkX1_exchange (l : Launch) (D : va_G) (cI cJ cC : ClassId) (q_t q_t_parts : Nat) (sz : Nat) (a1 : Int32) (a2 : Int32) (v_t_states : Int32) (v_t_exponent : Int32) (f_t_parts : Nat → Int64) {Q : (Nat → Int64) → Prop} (hw : wpX1_exchange Q a1 a2 f_t_parts) : Met l yX1_exchange wmX1_exchange zrX1_exchange (zPreW D (zT cI cJ cC) [(q_t, zX1 q_t_parts v_t_states v_t_exponent), (q_t_parts, zJ cJ 64 f_t_parts)] sz [.ref q_t, .int a1, .int a2]) (va_Qv (fun u : (Nat → Int64) => Q u) (fun u t => zAt D (va_A [(q_t, zX1 q_t_parts v_t_states v_t_exponent), (q_t_parts, zJ cJ 64 f_t_parts)] sz) [(q_t, zX1 q_t_parts v_t_states v_t_exponent), (q_t_parts, zJ cJ 64 u)] t) (va_A [(q_t, zX1 q_t_parts v_t_states v_t_exponent), (q_t_parts, zJ cJ 64 f_t_parts)] sz)) 0 0 (va_A [(q_t, zX1 q_t_parts v_t_states v_t_exponent), (q_t_parts, zJ cJ 64 f_t_parts)] sz) := by
  refine Met.ofW (cc := cX1_exchange) (maxL := 6) (ret := none) (by decide) rfl ?_
  intro p e s m args below meth c s₁ B hml hv
  obtain ⟨rfl, hsz, hP, hK, hD0⟩ := hv
  have hx := B.exec
  have hb := B.bytes
  have hr := B.returns
  have hts := atoms_spec (ws := wmX1_exchange) B.pre
  have hown : s.vm.findClass RX1 = some m.cls := findClass_of_methodNamed B.named
  have hlocks := B.notSynchronized
  subst hsz
  have hD := hD0.self (sz := s.heap.size)
  generalize hAe : va_A [(q_t, zX1 q_t_parts v_t_states v_t_exponent), (q_t_parts, zJ cJ 64 f_t_parts)] s.heap.size = A at hD ⊢
  have hA : ∀ q : Nat, s.heap.size ≤ q → A q := fun q h => by rw [← hAe]; exact Or.inr h
  have hS : va_S A s.heap s.heap [] := va_S.rf
  have hP : va_P D vwCl [(q_t, zX1 q_t_parts v_t_states v_t_exponent), (q_t_parts, zJ cJ 64 f_t_parts)] s.heap := hP
  have hw_1 := hts _ (z_in wm_122)
  have hw_2 : ∀ w ∈ u_ws RX1 TX1 3, w ∈ wmX1_exchange := fun w h => z_in (wi_wsX10 w h)
  have hl := lv_entry ([.ref q_t, .int a1, .int a2]) (n := 6) (Nat.le_of_ble_eq_true rfl)
  rw [lg_entry_eq]
  generalize (lg_sl ([.ref q_t, .int a1, .int a2]) ++ List.replicate (6 - (lg_sl ([.ref q_t, .int a1, .int a2])).length) Slot.unset).toArray = ls at hl ⊢
  have hl : lv_has ls 6 [(0, .ref q_t), (1, .int a1), (2, .int a2)] := hl
  have L_2 : ∀ (n : Nat), ∀ (x1 : Int32) (x2 : Int32) (x3 : Int32) (f_t_parts : Nat → Int64) (H : Heap) (locs : List Loc) (ls : Array Slot), va_P D vwCl [(q_t, zX1 q_t_parts v_t_states v_t_exponent), (q_t_parts, zJ cJ 64 f_t_parts)] H → va_D A [(q_t, zX1 q_t_parts v_t_states v_t_exponent), (q_t_parts, zJ cJ 64 f_t_parts)] → va_S A s.heap H locs → lv_has ls 6 [(0, .ref q_t), (1, .int x1), (2, .int x2), (3, .int x3)] → wpX1_exchange_2 Q   n x1 x2 x3 f_t_parts → W p l e (headSpec wmX1_exchange zrX1_exchange).room s m ([.ref q_t, .int a1, .int a2] : List Value).toArray below meth c H locs 0 0 (MQ below (va_Qv (fun u : (Nat → Int64) => Q u) (fun u t => zAt D A [(q_t, zX1 q_t_parts v_t_states v_t_exponent), (q_t_parts, zJ cJ 64 u)] t) A) ([.ref q_t, .int a1, .int a2] : List Value).toArray s 0 0 A) (F0 m 2 ls []) := by
    intro n
    induction n with
    | zero => intro x1 x2 x3 f_t_parts H locs ls hP hD hS hl hw; exact False.elim hw
    | succ n_2 ih_2 =>
      intro x1 x2 x3 f_t_parts H locs ls hP hD hS hl hw
      have hw : wpX1_exchange_2b Q  (wpX1_exchange_2 Q   n_2)  x1 x2 x3 f_t_parts := hw
      refine lv_iload_n hx hb dX1_exchange_2 rfl (lv_at hl 3 rfl) ?_
      refine lv_iconst (v := 4) hx hb dX1_exchange_3 (by decide) ?_
      refine lv_icmp_ge (tgt := 49) hx hb dX1_exchange_4 (by decide) (fun c1 => ?_) (fun c1 => ?_)
      · have hw := hw.1 c1
        exact W.vret hx hb hr (fun t ht hW => ⟨⟨(f_t_parts), rfl, hw, ⟨by rw [ht]; exact hP, hD⟩⟩, hS.F ht⟩) hS.2.2 dX1_exchange_49
      · have hw := hw.2 c1
        refine lv_aload_n hx hb dX1_exchange_7 rfl (lv_at hl 0 rfl) ?_
        refine va_get (D := D) (ci := 1) (v := .ref q_t_parts) (C := RX1) (T := TX1) (N := 3) hx hb hts hw_2 hown hK hP 0 rfl rfl 0 (by decide) hw_1 (fun _ h9 => h9) rfl dX1_exchange_8 ?_
        refine lv_iload_n hx hb dX1_exchange_11 rfl (lv_at hl 1 rfl) ?_
        refine lv_iload_n hx hb dX1_exchange_12 rfl (lv_at hl 3 rfl) ?_
        refine lv_iadd hx hb dX1_exchange_13 ?_
        obtain ⟨h2, hw⟩ := hw
        refine va_lald hx hb hK hP 1 1 rfl rfl h2 dX1_exchange_14 ?_
        refine lv_topl (fun x4_3 ex4_3 => ?_)
        have hw := hw x4_3 ex4_3
        refine lv_lstore (lv' := [(4, .long x4_3), (0, .ref q_t), (1, .int x1), (2, .int x2), (3, .int x3)]) hx hb dX1_exchange_15 hl (by decide) rfl (fun ls hl => ?_)
        refine lv_aload_n hx hb dX1_exchange_17 rfl (lv_at hl 1 rfl) ?_
        refine va_get (D := D) (ci := 1) (v := .ref q_t_parts) (C := RX1) (T := TX1) (N := 3) hx hb hts hw_2 hown hK hP 0 rfl rfl 0 (by decide) hw_1 (fun _ h9 => h9) rfl dX1_exchange_18 ?_
        refine lv_iload_n hx hb dX1_exchange_21 rfl (lv_at hl 2 rfl) ?_
        refine lv_iload_n hx hb dX1_exchange_22 rfl (lv_at hl 4 rfl) ?_
        refine lv_iadd hx hb dX1_exchange_23 ?_
        refine lv_aload_n hx hb dX1_exchange_24 rfl (lv_at hl 1 rfl) ?_
        refine va_get (D := D) (ci := 1) (v := .ref q_t_parts) (C := RX1) (T := TX1) (N := 3) hx hb hts hw_2 hown hK hP 0 rfl rfl 0 (by decide) hw_1 (fun _ h9 => h9) rfl dX1_exchange_25 ?_
        refine lv_iload_n hx hb dX1_exchange_28 rfl (lv_at hl 3 rfl) ?_
        refine lv_iload_n hx hb dX1_exchange_29 rfl (lv_at hl 4 rfl) ?_
        refine lv_iadd hx hb dX1_exchange_30 ?_
        obtain ⟨h4, hw⟩ := hw
        refine va_lald hx hb hK hP 1 1 rfl rfl h4 dX1_exchange_31 ?_
        obtain ⟨h5, hw⟩ := hw
        refine va_last hx hb hK hP hD hS 1 1 rfl rfl h5 dX1_exchange_32 (fun H locs hP hD hS => ?_)
        have hP : va_P D vwCl [(q_t, zX1 q_t_parts v_t_states v_t_exponent), (q_t_parts, zJ cJ 64 (vp_updL f_t_parts (x1 + x3).toNatClampNeg (f_t_parts (x2 + x3).toNatClampNeg)))] H := hP
        have hD : va_D A [(q_t, zX1 q_t_parts v_t_states v_t_exponent), (q_t_parts, zJ cJ 64 (vp_updL f_t_parts (x1 + x3).toNatClampNeg (f_t_parts (x2 + x3).toNatClampNeg)))] := hD
        refine lv_aload_n hx hb dX1_exchange_33 rfl (lv_at hl 1 rfl) ?_
        refine va_get (D := D) (ci := 1) (v := .ref q_t_parts) (C := RX1) (T := TX1) (N := 3) hx hb hts hw_2 hown hK hP 0 rfl rfl 0 (by decide) hw_1 (fun _ h9 => h9) rfl dX1_exchange_34 ?_
        refine lv_iload_n hx hb dX1_exchange_37 rfl (lv_at hl 3 rfl) ?_
        refine lv_iload_n hx hb dX1_exchange_38 rfl (lv_at hl 4 rfl) ?_
        refine lv_iadd hx hb dX1_exchange_39 ?_
        refine lv_lload hx hb dX1_exchange_40 (lv_at hl 0 rfl) ?_
        obtain ⟨h7, hw⟩ := hw
        refine va_last hx hb hK hP hD hS 1 1 rfl rfl h7 dX1_exchange_42 (fun H locs hP hD hS => ?_)
        have hP : va_P D vwCl [(q_t, zX1 q_t_parts v_t_states v_t_exponent), (q_t_parts, zJ cJ 64 (vp_updL (vp_updL f_t_parts (x1 + x3).toNatClampNeg (f_t_parts (x2 + x3).toNatClampNeg)) (x2 + x3).toNatClampNeg x4_3))] H := hP
        have hD : va_D A [(q_t, zX1 q_t_parts v_t_states v_t_exponent), (q_t_parts, zJ cJ 64 (vp_updL (vp_updL f_t_parts (x1 + x3).toNatClampNeg (f_t_parts (x2 + x3).toNatClampNeg)) (x2 + x3).toNatClampNeg x4_3))] := hD
        refine lv_iinc (v := (x3 + 1)) (lv' := [(3, .int (x3 + 1)), (4, .long x4_3), (0, .ref q_t), (1, .int x1), (2, .int x2)]) hx hb dX1_exchange_43 hl (k := 4) rfl rfl (by decide) rfl (fun ls hl => ?_)
        refine lv_goto (tgt := 2) hx hb dX1_exchange_46 (by decide) ?_
        exact ih_2 x1 x2 (x3 + 1) (vp_updL (vp_updL f_t_parts (x1 + x3).toNatClampNeg (f_t_parts (x2 + x3).toNatClampNeg)) (x2 + x3).toNatClampNeg x4_3) _ _ _ hP hD hS (lv_sub hl [2, 3, 4, 0] rfl) hw
  refine lv_iconst (v := 0) hx hb dX1_exchange_0 (by decide) ?_
  refine lv_istore_n (lv' := [(3, .int 0), (0, .ref q_t), (1, .int a1), (2, .int a2)]) hx hb dX1_exchange_1 rfl hl (by decide) rfl (fun ls hl => ?_)
  obtain ⟨n_2, hw⟩ := hw
  exact L_2 n_2 a1 a2 0 f_t_parts _ _ _ hP hD hS (lv_sub hl [1, 2, 3, 0] rfl) hw

def wpX1_trade_2b (Q : (Nat → Int64) → Prop)  (R_2 : (Int32) → (Int32) → (Int32) → (Nat → Int64) → Prop) (v_t_states : Int32) (x1 : Int32) (x2 : Int32) (x3 : Int32) (f_t_parts : Nat → Int64) : Prop := ((v_t_states ≤ x3 → Q f_t_parts) ∧ (¬ v_t_states ≤ x3 → (((x3 &&& x1) = 0 → R_2 x1 x2 (x3 + 1) f_t_parts) ∧ (¬ (x3 &&& x1) = 0 → (((x3 &&& x2) = 0 → wpX1_exchange (fun (u4 : Nat → Int64) => R_2 x1 x2 (x3 + 1) u4) (4 * x3) (4 * ((x3 ^^^ x1) ^^^ x2)) f_t_parts) ∧ (¬ (x3 &&& x2) = 0 → R_2 x1 x2 (x3 + 1) f_t_parts))))))
def wpX1_trade_2 (Q : (Nat → Int64) → Prop)  (v_t_states : Int32) : Nat → (Int32) → (Int32) → (Int32) → (Nat → Int64) → Prop
  | 0 => fun _ _ _ _ => False
  | n + 1 => fun x1 x2 x3 f_t_parts => wpX1_trade_2b Q  (wpX1_trade_2 Q  v_t_states n) v_t_states x1 x2 x3 f_t_parts
def wpX1_trade (Q : (Nat → Int64) → Prop) (a1 : Int32) (a2 : Int32) (v_t_states : Int32) (f_t_parts : Nat → Int64) : Prop := ∃ n : Nat, wpX1_trade_2 Q  v_t_states n a1 a2 0 f_t_parts
abbrev zrX1_trade : Room := { frames := 1, cells := 0, slots := 0, locals := 25 }
set_option maxHeartbeats 4000000 in
set_option maxRecDepth 100000 in
theorem zkX1_trade (l : Launch) (D : va_G) (cI cJ cC : ClassId) (q_t q_t_parts : Nat) (sz : Nat) (a1 : Int32) (a2 : Int32) (v_t_states : Int32) (v_t_exponent : Int32) (f_t_parts : Nat → Int64) {Q : (Nat → Int64) → Prop} (hw : wpX1_trade Q a1 a2 v_t_states f_t_parts) : Met l yX1_trade wmX1_trade zrX1_trade (zPreW D (zT cI cJ cC) [(q_t, zX1 q_t_parts v_t_states v_t_exponent), (q_t_parts, zJ cJ 64 f_t_parts)] sz [.ref q_t, .int a1, .int a2]) (va_Qv (fun u : (Nat → Int64) => Q u) (fun u t => zAt D (va_A [(q_t, zX1 q_t_parts v_t_states v_t_exponent), (q_t_parts, zJ cJ 64 f_t_parts)] sz) [(q_t, zX1 q_t_parts v_t_states v_t_exponent), (q_t_parts, zJ cJ 64 u)] t) (va_A [(q_t, zX1 q_t_parts v_t_states v_t_exponent), (q_t_parts, zJ cJ 64 f_t_parts)] sz)) 0 0 (va_A [(q_t, zX1 q_t_parts v_t_states v_t_exponent), (q_t_parts, zJ cJ 64 f_t_parts)] sz) := by
  refine Met.ofW (cc := cX1_trade) (maxL := 4) (ret := none) (by decide) rfl ?_
  intro p e s m args below meth c s₁ B hml hv
  obtain ⟨rfl, hsz, hP, hK, hD0⟩ := hv
  have hx := B.exec
  have hb := B.bytes
  have hr := B.returns
  have hts := atoms_spec (ws := wmX1_trade) B.pre
  have hown : s.vm.findClass RX1 = some m.cls := findClass_of_methodNamed B.named
  have hlocks := B.notSynchronized
  subst hsz
  have hD := hD0.self (sz := s.heap.size)
  generalize hAe : va_A [(q_t, zX1 q_t_parts v_t_states v_t_exponent), (q_t_parts, zJ cJ 64 f_t_parts)] s.heap.size = A at hD ⊢
  have hA : ∀ q : Nat, s.heap.size ≤ q → A q := fun q h => by rw [← hAe]; exact Or.inr h
  have hS : va_S A s.heap s.heap [] := va_S.rf
  have hP : va_P D vwCl [(q_t, zX1 q_t_parts v_t_states v_t_exponent), (q_t_parts, zJ cJ 64 f_t_parts)] s.heap := hP
  have hw_1 := hts _ (z_in wm_123)
  have hw_2 : ∀ w ∈ u_ws RX1 TX1 3, w ∈ wmX1_trade := fun w h => z_in (wi_wsX10 w h)
  have hl := lv_entry ([.ref q_t, .int a1, .int a2]) (n := 4) (Nat.le_of_ble_eq_true rfl)
  rw [lg_entry_eq]
  generalize (lg_sl ([.ref q_t, .int a1, .int a2]) ++ List.replicate (4 - (lg_sl ([.ref q_t, .int a1, .int a2])).length) Slot.unset).toArray = ls at hl ⊢
  have hl : lv_has ls 4 [(0, .ref q_t), (1, .int a1), (2, .int a2)] := hl
  have L_2 : ∀ (n : Nat), ∀ (x1 : Int32) (x2 : Int32) (x3 : Int32) (f_t_parts : Nat → Int64) (H : Heap) (locs : List Loc) (ls : Array Slot), va_P D vwCl [(q_t, zX1 q_t_parts v_t_states v_t_exponent), (q_t_parts, zJ cJ 64 f_t_parts)] H → va_D A [(q_t, zX1 q_t_parts v_t_states v_t_exponent), (q_t_parts, zJ cJ 64 f_t_parts)] → va_S A s.heap H locs → lv_has ls 4 [(0, .ref q_t), (1, .int x1), (2, .int x2), (3, .int x3)] → wpX1_trade_2 Q  v_t_states n x1 x2 x3 f_t_parts → W p l e (headSpec wmX1_trade zrX1_trade).room s m ([.ref q_t, .int a1, .int a2] : List Value).toArray below meth c H locs 0 0 (MQ below (va_Qv (fun u : (Nat → Int64) => Q u) (fun u t => zAt D A [(q_t, zX1 q_t_parts v_t_states v_t_exponent), (q_t_parts, zJ cJ 64 u)] t) A) ([.ref q_t, .int a1, .int a2] : List Value).toArray s 0 0 A) (F0 m 2 ls []) := by
    intro n
    induction n with
    | zero => intro x1 x2 x3 f_t_parts H locs ls hP hD hS hl hw; exact False.elim hw
    | succ n_2 ih_2 =>
      intro x1 x2 x3 f_t_parts H locs ls hP hD hS hl hw
      have hw : wpX1_trade_2b Q  (wpX1_trade_2 Q  v_t_states n_2) v_t_states x1 x2 x3 f_t_parts := hw
      refine lv_iload_n hx hb dX1_trade_2 rfl (lv_at hl 3 rfl) ?_
      refine lv_aload_n hx hb dX1_trade_3 rfl (lv_at hl 0 rfl) ?_
      refine va_get (D := D) (ci := 1) (v := .int v_t_states) (C := RX1) (T := TX1) (N := 3) hx hb hts hw_2 hown hK hP 0 rfl rfl 1 (by decide) hw_1 (fun _ h9 => h9) rfl dX1_trade_4 ?_
      refine lv_icmp_ge (tgt := 42) hx hb dX1_trade_7 (by decide) (fun c1 => ?_) (fun c1 => ?_)
      · have hw := hw.1 c1
        exact W.vret hx hb hr (fun t ht hW => ⟨⟨(f_t_parts), rfl, hw, ⟨by rw [ht]; exact hP, hD⟩⟩, hS.F ht⟩) hS.2.2 dX1_trade_42
      · have hw := hw.2 c1
        refine lv_iload_n hx hb dX1_trade_10 rfl (lv_at hl 3 rfl) ?_
        refine lv_iload_n hx hb dX1_trade_11 rfl (lv_at hl 1 rfl) ?_
        refine lv_iand hx hb dX1_trade_12 ?_
        refine lv_if_eq (tgt := 36) hx hb dX1_trade_13 (by decide) (fun c2 => ?_) (fun c2 => ?_)
        · have hw := hw.1 c2
          refine lv_iinc (v := (x3 + 1)) (lv' := [(3, .int (x3 + 1)), (0, .ref q_t), (1, .int x1), (2, .int x2)]) hx hb dX1_trade_36 hl (k := 3) rfl rfl (by decide) rfl (fun ls hl => ?_)
          refine lv_goto (tgt := 2) hx hb dX1_trade_39 (by decide) ?_
          exact ih_2 x1 x2 (x3 + 1) f_t_parts _ _ _ hP hD hS (lv_sub hl [1, 2, 3, 0] rfl) hw
        · have hw := hw.2 c2
          refine lv_iload_n hx hb dX1_trade_16 rfl (lv_at hl 3 rfl) ?_
          refine lv_iload_n hx hb dX1_trade_17 rfl (lv_at hl 2 rfl) ?_
          refine lv_iand hx hb dX1_trade_18 ?_
          refine lv_if_ne (tgt := 36) hx hb dX1_trade_19 (by decide) (fun c3 => ?_) (fun c3 => ?_)
          · have hw := hw.2 c3
            refine lv_iinc (v := (x3 + 1)) (lv' := [(3, .int (x3 + 1)), (0, .ref q_t), (1, .int x1), (2, .int x2)]) hx hb dX1_trade_36 hl (k := 3) rfl rfl (by decide) rfl (fun ls hl => ?_)
            refine lv_goto (tgt := 2) hx hb dX1_trade_39 (by decide) ?_
            exact ih_2 x1 x2 (x3 + 1) f_t_parts _ _ _ hP hD hS (lv_sub hl [1, 2, 3, 0] rfl) hw
          · have hw := hw.1 c3
            refine lv_aload_n hx hb dX1_trade_22 rfl (lv_at hl 0 rfl) ?_
            refine lv_iconst (v := 4) hx hb dX1_trade_23 (by decide) ?_
            refine lv_iload_n hx hb dX1_trade_24 rfl (lv_at hl 3 rfl) ?_
            refine lv_imul hx hb dX1_trade_25 ?_
            refine lv_iconst (v := 4) hx hb dX1_trade_26 (by decide) ?_
            refine lv_iload_n hx hb dX1_trade_27 rfl (lv_at hl 3 rfl) ?_
            refine lv_iload_n hx hb dX1_trade_28 rfl (lv_at hl 1 rfl) ?_
            refine lv_ixor hx hb dX1_trade_29 ?_
            refine lv_iload_n hx hb dX1_trade_30 rfl (lv_at hl 2 rfl) ?_
            refine lv_ixor hx hb dX1_trade_31 ?_
            refine lv_imul hx hb dX1_trade_32 ?_
            refine z_wv (wc := [(q_t, zX1 q_t_parts v_t_states v_t_exponent), (q_t_parts, zJ cJ 64 f_t_parts)]) (wr := []) (W1 := fun u : (Nat → Int64) => [(q_t, zX1 q_t_parts v_t_states v_t_exponent), (q_t_parts, zJ cJ 64 u)]) (va_runV (As := [.int (4 * x3), .int (4 * ((x3 ^^^ x1) ^^^ x2))]) (rest := []) ⟨hx, hb, hml, hown, hts⟩ (zkX1_exchange l D cI cJ cC q_t q_t_parts _ (4 * x3) (4 * ((x3 ^^^ x1) ^^^ x2)) v_t_states v_t_exponent f_t_parts hw) (cwV 2 hts (z_gV wm_141 wm_142 wm_143 wm_133 wm_139) rfl rfl rfl (by decide +kernel) ⟨Nat.le_of_ble_eq_true rfl, Nat.le_of_ble_eq_true rfl⟩) (z_pvW hK hP hD [0, 1] rfl (by decide) rfl 0 1 rfl rfl) rfl rfl hl.1 rfl (lv_room (Nat.le_of_ble_eq_true rfl)) dX1_trade_33 ⟨Nat.zero_le _, Nat.zero_le _⟩) hP hD hS hA [0, 1] [] rfl rfl (by decide) (by decide) (fun u9 H locs hw hP hD hS => ?_)
            obtain ⟨u4, rfl⟩ : ∃ z, z = u9 := ⟨_, rfl⟩
            have hP : va_P D vwCl [(q_t, zX1 q_t_parts v_t_states v_t_exponent), (q_t_parts, zJ cJ 64 u4)] H := hP
            have hD : va_D A [(q_t, zX1 q_t_parts v_t_states v_t_exponent), (q_t_parts, zJ cJ 64 u4)] := hD
            try dsimp only at hw
            refine lv_iinc (v := (x3 + 1)) (lv' := [(3, .int (x3 + 1)), (0, .ref q_t), (1, .int x1), (2, .int x2)]) hx hb dX1_trade_36 hl (k := 3) rfl rfl (by decide) rfl (fun ls hl => ?_)
            refine lv_goto (tgt := 2) hx hb dX1_trade_39 (by decide) ?_
            exact ih_2 x1 x2 (x3 + 1) u4 _ _ _ hP hD hS (lv_sub hl [1, 2, 3, 0] rfl) hw
  refine lv_iconst (v := 0) hx hb dX1_trade_0 (by decide) ?_
  refine lv_istore_n (lv' := [(3, .int 0), (0, .ref q_t), (1, .int a1), (2, .int a2)]) hx hb dX1_trade_1 rfl hl (by decide) rfl (fun ls hl => ?_)
  obtain ⟨n_2, hw⟩ := hw
  exact L_2 n_2 a1 a2 0 f_t_parts _ _ _ hP hD hS (lv_sub hl [1, 2, 3, 0] rfl) hw

def wpX1_flip_2b (Q : (Nat → Int64) → Prop)  (R_2 : (Int32) → (Int32) → (Int32) → (Nat → Int64) → Prop) (v_t_states : Int32) (x1 : Int32) (x2 : Int32) (x3 : Int32) (f_t_parts : Nat → Int64) : Prop := ((v_t_states ≤ x3 → Q f_t_parts) ∧ (¬ v_t_states ≤ x3 → (((x3 &&& x1) = x1 → (((x3 &&& x2) = 0 → wpX1_exchange (fun (u4 : Nat → Int64) => R_2 x1 x2 (x3 + 1) u4) (4 * x3) (4 * (x3 ||| x2)) f_t_parts) ∧ (¬ (x3 &&& x2) = 0 → R_2 x1 x2 (x3 + 1) f_t_parts))) ∧ (¬ (x3 &&& x1) = x1 → R_2 x1 x2 (x3 + 1) f_t_parts))))
def wpX1_flip_2 (Q : (Nat → Int64) → Prop)  (v_t_states : Int32) : Nat → (Int32) → (Int32) → (Int32) → (Nat → Int64) → Prop
  | 0 => fun _ _ _ _ => False
  | n + 1 => fun x1 x2 x3 f_t_parts => wpX1_flip_2b Q  (wpX1_flip_2 Q  v_t_states n) v_t_states x1 x2 x3 f_t_parts
def wpX1_flip (Q : (Nat → Int64) → Prop) (a1 : Int32) (a2 : Int32) (v_t_states : Int32) (f_t_parts : Nat → Int64) : Prop := ∃ n : Nat, wpX1_flip_2 Q  v_t_states n a1 a2 0 f_t_parts
abbrev zrX1_flip : Room := { frames := 1, cells := 0, slots := 0, locals := 25 }
set_option maxHeartbeats 4000000 in
set_option maxRecDepth 100000 in
theorem zkX1_flip (l : Launch) (D : va_G) (cI cJ cC : ClassId) (q_t q_t_parts : Nat) (sz : Nat) (a1 : Int32) (a2 : Int32) (v_t_states : Int32) (v_t_exponent : Int32) (f_t_parts : Nat → Int64) {Q : (Nat → Int64) → Prop} (hw : wpX1_flip Q a1 a2 v_t_states f_t_parts) : Met l yX1_flip wmX1_flip zrX1_flip (zPreW D (zT cI cJ cC) [(q_t, zX1 q_t_parts v_t_states v_t_exponent), (q_t_parts, zJ cJ 64 f_t_parts)] sz [.ref q_t, .int a1, .int a2]) (va_Qv (fun u : (Nat → Int64) => Q u) (fun u t => zAt D (va_A [(q_t, zX1 q_t_parts v_t_states v_t_exponent), (q_t_parts, zJ cJ 64 f_t_parts)] sz) [(q_t, zX1 q_t_parts v_t_states v_t_exponent), (q_t_parts, zJ cJ 64 u)] t) (va_A [(q_t, zX1 q_t_parts v_t_states v_t_exponent), (q_t_parts, zJ cJ 64 f_t_parts)] sz)) 0 0 (va_A [(q_t, zX1 q_t_parts v_t_states v_t_exponent), (q_t_parts, zJ cJ 64 f_t_parts)] sz) := by
  refine Met.ofW (cc := cX1_flip) (maxL := 4) (ret := none) (by decide) rfl ?_
  intro p e s m args below meth c s₁ B hml hv
  obtain ⟨rfl, hsz, hP, hK, hD0⟩ := hv
  have hx := B.exec
  have hb := B.bytes
  have hr := B.returns
  have hts := atoms_spec (ws := wmX1_flip) B.pre
  have hown : s.vm.findClass RX1 = some m.cls := findClass_of_methodNamed B.named
  have hlocks := B.notSynchronized
  subst hsz
  have hD := hD0.self (sz := s.heap.size)
  generalize hAe : va_A [(q_t, zX1 q_t_parts v_t_states v_t_exponent), (q_t_parts, zJ cJ 64 f_t_parts)] s.heap.size = A at hD ⊢
  have hA : ∀ q : Nat, s.heap.size ≤ q → A q := fun q h => by rw [← hAe]; exact Or.inr h
  have hS : va_S A s.heap s.heap [] := va_S.rf
  have hP : va_P D vwCl [(q_t, zX1 q_t_parts v_t_states v_t_exponent), (q_t_parts, zJ cJ 64 f_t_parts)] s.heap := hP
  have hw_1 := hts _ (z_in wm_123)
  have hw_2 : ∀ w ∈ u_ws RX1 TX1 3, w ∈ wmX1_flip := fun w h => z_in (wi_wsX10 w h)
  have hl := lv_entry ([.ref q_t, .int a1, .int a2]) (n := 4) (Nat.le_of_ble_eq_true rfl)
  rw [lg_entry_eq]
  generalize (lg_sl ([.ref q_t, .int a1, .int a2]) ++ List.replicate (4 - (lg_sl ([.ref q_t, .int a1, .int a2])).length) Slot.unset).toArray = ls at hl ⊢
  have hl : lv_has ls 4 [(0, .ref q_t), (1, .int a1), (2, .int a2)] := hl
  have L_2 : ∀ (n : Nat), ∀ (x1 : Int32) (x2 : Int32) (x3 : Int32) (f_t_parts : Nat → Int64) (H : Heap) (locs : List Loc) (ls : Array Slot), va_P D vwCl [(q_t, zX1 q_t_parts v_t_states v_t_exponent), (q_t_parts, zJ cJ 64 f_t_parts)] H → va_D A [(q_t, zX1 q_t_parts v_t_states v_t_exponent), (q_t_parts, zJ cJ 64 f_t_parts)] → va_S A s.heap H locs → lv_has ls 4 [(0, .ref q_t), (1, .int x1), (2, .int x2), (3, .int x3)] → wpX1_flip_2 Q  v_t_states n x1 x2 x3 f_t_parts → W p l e (headSpec wmX1_flip zrX1_flip).room s m ([.ref q_t, .int a1, .int a2] : List Value).toArray below meth c H locs 0 0 (MQ below (va_Qv (fun u : (Nat → Int64) => Q u) (fun u t => zAt D A [(q_t, zX1 q_t_parts v_t_states v_t_exponent), (q_t_parts, zJ cJ 64 u)] t) A) ([.ref q_t, .int a1, .int a2] : List Value).toArray s 0 0 A) (F0 m 2 ls []) := by
    intro n
    induction n with
    | zero => intro x1 x2 x3 f_t_parts H locs ls hP hD hS hl hw; exact False.elim hw
    | succ n_2 ih_2 =>
      intro x1 x2 x3 f_t_parts H locs ls hP hD hS hl hw
      have hw : wpX1_flip_2b Q  (wpX1_flip_2 Q  v_t_states n_2) v_t_states x1 x2 x3 f_t_parts := hw
      refine lv_iload_n hx hb dX1_flip_2 rfl (lv_at hl 3 rfl) ?_
      refine lv_aload_n hx hb dX1_flip_3 rfl (lv_at hl 0 rfl) ?_
      refine va_get (D := D) (ci := 1) (v := .int v_t_states) (C := RX1) (T := TX1) (N := 3) hx hb hts hw_2 hown hK hP 0 rfl rfl 1 (by decide) hw_1 (fun _ h9 => h9) rfl dX1_flip_4 ?_
      refine lv_icmp_ge (tgt := 41) hx hb dX1_flip_7 (by decide) (fun c1 => ?_) (fun c1 => ?_)
      · have hw := hw.1 c1
        exact W.vret hx hb hr (fun t ht hW => ⟨⟨(f_t_parts), rfl, hw, ⟨by rw [ht]; exact hP, hD⟩⟩, hS.F ht⟩) hS.2.2 dX1_flip_41
      · have hw := hw.2 c1
        refine lv_iload_n hx hb dX1_flip_10 rfl (lv_at hl 3 rfl) ?_
        refine lv_iload_n hx hb dX1_flip_11 rfl (lv_at hl 1 rfl) ?_
        refine lv_iand hx hb dX1_flip_12 ?_
        refine lv_iload_n hx hb dX1_flip_13 rfl (lv_at hl 1 rfl) ?_
        refine lv_icmp_ne (tgt := 35) hx hb dX1_flip_14 (by decide) (fun c2 => ?_) (fun c2 => ?_)
        · have hw := hw.2 c2
          refine lv_iinc (v := (x3 + 1)) (lv' := [(3, .int (x3 + 1)), (0, .ref q_t), (1, .int x1), (2, .int x2)]) hx hb dX1_flip_35 hl (k := 3) rfl rfl (by decide) rfl (fun ls hl => ?_)
          refine lv_goto (tgt := 2) hx hb dX1_flip_38 (by decide) ?_
          exact ih_2 x1 x2 (x3 + 1) f_t_parts _ _ _ hP hD hS (lv_sub hl [1, 2, 3, 0] rfl) hw
        · have hw := hw.1 c2
          refine lv_iload_n hx hb dX1_flip_17 rfl (lv_at hl 3 rfl) ?_
          refine lv_iload_n hx hb dX1_flip_18 rfl (lv_at hl 2 rfl) ?_
          refine lv_iand hx hb dX1_flip_19 ?_
          refine lv_if_ne (tgt := 35) hx hb dX1_flip_20 (by decide) (fun c3 => ?_) (fun c3 => ?_)
          · have hw := hw.2 c3
            refine lv_iinc (v := (x3 + 1)) (lv' := [(3, .int (x3 + 1)), (0, .ref q_t), (1, .int x1), (2, .int x2)]) hx hb dX1_flip_35 hl (k := 3) rfl rfl (by decide) rfl (fun ls hl => ?_)
            refine lv_goto (tgt := 2) hx hb dX1_flip_38 (by decide) ?_
            exact ih_2 x1 x2 (x3 + 1) f_t_parts _ _ _ hP hD hS (lv_sub hl [1, 2, 3, 0] rfl) hw
          · have hw := hw.1 c3
            refine lv_aload_n hx hb dX1_flip_23 rfl (lv_at hl 0 rfl) ?_
            refine lv_iconst (v := 4) hx hb dX1_flip_24 (by decide) ?_
            refine lv_iload_n hx hb dX1_flip_25 rfl (lv_at hl 3 rfl) ?_
            refine lv_imul hx hb dX1_flip_26 ?_
            refine lv_iconst (v := 4) hx hb dX1_flip_27 (by decide) ?_
            refine lv_iload_n hx hb dX1_flip_28 rfl (lv_at hl 3 rfl) ?_
            refine lv_iload_n hx hb dX1_flip_29 rfl (lv_at hl 2 rfl) ?_
            refine lv_ior hx hb dX1_flip_30 ?_
            refine lv_imul hx hb dX1_flip_31 ?_
            refine z_wv (wc := [(q_t, zX1 q_t_parts v_t_states v_t_exponent), (q_t_parts, zJ cJ 64 f_t_parts)]) (wr := []) (W1 := fun u : (Nat → Int64) => [(q_t, zX1 q_t_parts v_t_states v_t_exponent), (q_t_parts, zJ cJ 64 u)]) (va_runV (As := [.int (4 * x3), .int (4 * (x3 ||| x2))]) (rest := []) ⟨hx, hb, hml, hown, hts⟩ (zkX1_exchange l D cI cJ cC q_t q_t_parts _ (4 * x3) (4 * (x3 ||| x2)) v_t_states v_t_exponent f_t_parts hw) (cwV 2 hts (z_gV wm_141 wm_142 wm_143 wm_133 wm_139) rfl rfl rfl (by decide +kernel) ⟨Nat.le_of_ble_eq_true rfl, Nat.le_of_ble_eq_true rfl⟩) (z_pvW hK hP hD [0, 1] rfl (by decide) rfl 0 1 rfl rfl) rfl rfl hl.1 rfl (lv_room (Nat.le_of_ble_eq_true rfl)) dX1_flip_32 ⟨Nat.zero_le _, Nat.zero_le _⟩) hP hD hS hA [0, 1] [] rfl rfl (by decide) (by decide) (fun u9 H locs hw hP hD hS => ?_)
            obtain ⟨u4, rfl⟩ : ∃ z, z = u9 := ⟨_, rfl⟩
            have hP : va_P D vwCl [(q_t, zX1 q_t_parts v_t_states v_t_exponent), (q_t_parts, zJ cJ 64 u4)] H := hP
            have hD : va_D A [(q_t, zX1 q_t_parts v_t_states v_t_exponent), (q_t_parts, zJ cJ 64 u4)] := hD
            try dsimp only at hw
            refine lv_iinc (v := (x3 + 1)) (lv' := [(3, .int (x3 + 1)), (0, .ref q_t), (1, .int x1), (2, .int x2)]) hx hb dX1_flip_35 hl (k := 3) rfl rfl (by decide) rfl (fun ls hl => ?_)
            refine lv_goto (tgt := 2) hx hb dX1_flip_38 (by decide) ?_
            exact ih_2 x1 x2 (x3 + 1) u4 _ _ _ hP hD hS (lv_sub hl [1, 2, 3, 0] rfl) hw
  refine lv_iconst (v := 0) hx hb dX1_flip_0 (by decide) ?_
  refine lv_istore_n (lv' := [(3, .int 0), (0, .ref q_t), (1, .int a1), (2, .int a2)]) hx hb dX1_flip_1 rfl hl (by decide) rfl (fun ls hl => ?_)
  obtain ⟨n_2, hw⟩ := hw
  exact L_2 n_2 a1 a2 0 f_t_parts _ _ _ hP hD hS (lv_sub hl [1, 2, 3, 0] rfl) hw

def wpX1_turnOne_2b (Q : (Nat → Int64) → Prop)  (R_2 : (Int32) → (Int32) → (Int32) → (Nat → Int64) → Prop)  (x1 : Int32) (x2 : Int32) (x3 : Int32) (f_t_parts : Nat → Int64) : Prop := ((x2 ≤ x3 → Q f_t_parts) ∧ (¬ x2 ≤ x3 → vp_in (x1 + 3) 64 ∧ ∀ x4_3 : Int64, x4_3 = (f_t_parts (x1 + 3).toNatClampNeg) → vp_in (x1 + 2) 64 ∧ vp_in (x1 + 3) 64 ∧ vp_in (x1 + 1) 64 ∧ vp_in (x1 + 2) 64 ∧ vp_in x1 64 ∧ vp_in (x1 + 1) 64 ∧ vp_in x1 64 ∧ R_2 x1 x2 (x3 + 1) (vp_updL (vp_updL (vp_updL (vp_updL f_t_parts (x1 + 3).toNatClampNeg (f_t_parts (x1 + 2).toNatClampNeg)) (x1 + 2).toNatClampNeg ((vp_updL f_t_parts (x1 + 3).toNatClampNeg (f_t_parts (x1 + 2).toNatClampNeg)) (x1 + 1).toNatClampNeg)) (x1 + 1).toNatClampNeg ((vp_updL (vp_updL f_t_parts (x1 + 3).toNatClampNeg (f_t_parts (x1 + 2).toNatClampNeg)) (x1 + 2).toNatClampNeg ((vp_updL f_t_parts (x1 + 3).toNatClampNeg (f_t_parts (x1 + 2).toNatClampNeg)) (x1 + 1).toNatClampNeg)) x1.toNatClampNeg)) x1.toNatClampNeg (-x4_3))))
def wpX1_turnOne_2 (Q : (Nat → Int64) → Prop)   : Nat → (Int32) → (Int32) → (Int32) → (Nat → Int64) → Prop
  | 0 => fun _ _ _ _ => False
  | n + 1 => fun x1 x2 x3 f_t_parts => wpX1_turnOne_2b Q  (wpX1_turnOne_2 Q   n)  x1 x2 x3 f_t_parts
def wpX1_turnOne (Q : (Nat → Int64) → Prop) (a1 : Int32) (a2 : Int32)  (f_t_parts : Nat → Int64) : Prop := ∃ n : Nat, wpX1_turnOne_2 Q   n a1 a2 0 f_t_parts
abbrev zrX1_turnOne : Room := { frames := 0, cells := 0, slots := 0, locals := 0 }
set_option maxHeartbeats 4000000 in
set_option maxRecDepth 100000 in
theorem zkX1_turnOne (l : Launch) (D : va_G) (cI cJ cC : ClassId) (q_t q_t_parts : Nat) (sz : Nat) (a1 : Int32) (a2 : Int32) (v_t_states : Int32) (v_t_exponent : Int32) (f_t_parts : Nat → Int64) {Q : (Nat → Int64) → Prop} (hw : wpX1_turnOne Q a1 a2 f_t_parts) : Met l yX1_turnOne wmX1_turnOne zrX1_turnOne (zPreW D (zT cI cJ cC) [(q_t, zX1 q_t_parts v_t_states v_t_exponent), (q_t_parts, zJ cJ 64 f_t_parts)] sz [.ref q_t, .int a1, .int a2]) (va_Qv (fun u : (Nat → Int64) => Q u) (fun u t => zAt D (va_A [(q_t, zX1 q_t_parts v_t_states v_t_exponent), (q_t_parts, zJ cJ 64 f_t_parts)] sz) [(q_t, zX1 q_t_parts v_t_states v_t_exponent), (q_t_parts, zJ cJ 64 u)] t) (va_A [(q_t, zX1 q_t_parts v_t_states v_t_exponent), (q_t_parts, zJ cJ 64 f_t_parts)] sz)) 0 0 (va_A [(q_t, zX1 q_t_parts v_t_states v_t_exponent), (q_t_parts, zJ cJ 64 f_t_parts)] sz) := by
  refine Met.ofW (cc := cX1_turnOne) (maxL := 6) (ret := none) (by decide) rfl ?_
  intro p e s m args below meth c s₁ B hml hv
  obtain ⟨rfl, hsz, hP, hK, hD0⟩ := hv
  have hx := B.exec
  have hb := B.bytes
  have hr := B.returns
  have hts := atoms_spec (ws := wmX1_turnOne) B.pre
  have hown : s.vm.findClass RX1 = some m.cls := findClass_of_methodNamed B.named
  have hlocks := B.notSynchronized
  subst hsz
  have hD := hD0.self (sz := s.heap.size)
  generalize hAe : va_A [(q_t, zX1 q_t_parts v_t_states v_t_exponent), (q_t_parts, zJ cJ 64 f_t_parts)] s.heap.size = A at hD ⊢
  have hA : ∀ q : Nat, s.heap.size ≤ q → A q := fun q h => by rw [← hAe]; exact Or.inr h
  have hS : va_S A s.heap s.heap [] := va_S.rf
  have hP : va_P D vwCl [(q_t, zX1 q_t_parts v_t_states v_t_exponent), (q_t_parts, zJ cJ 64 f_t_parts)] s.heap := hP
  have hw_1 := hts _ (z_in wm_122)
  have hw_2 : ∀ w ∈ u_ws RX1 TX1 3, w ∈ wmX1_turnOne := fun w h => z_in (wi_wsX10 w h)
  have hl := lv_entry ([.ref q_t, .int a1, .int a2]) (n := 6) (Nat.le_of_ble_eq_true rfl)
  rw [lg_entry_eq]
  generalize (lg_sl ([.ref q_t, .int a1, .int a2]) ++ List.replicate (6 - (lg_sl ([.ref q_t, .int a1, .int a2])).length) Slot.unset).toArray = ls at hl ⊢
  have hl : lv_has ls 6 [(0, .ref q_t), (1, .int a1), (2, .int a2)] := hl
  have L_2 : ∀ (n : Nat), ∀ (x1 : Int32) (x2 : Int32) (x3 : Int32) (f_t_parts : Nat → Int64) (H : Heap) (locs : List Loc) (ls : Array Slot), va_P D vwCl [(q_t, zX1 q_t_parts v_t_states v_t_exponent), (q_t_parts, zJ cJ 64 f_t_parts)] H → va_D A [(q_t, zX1 q_t_parts v_t_states v_t_exponent), (q_t_parts, zJ cJ 64 f_t_parts)] → va_S A s.heap H locs → lv_has ls 6 [(0, .ref q_t), (1, .int x1), (2, .int x2), (3, .int x3)] → wpX1_turnOne_2 Q   n x1 x2 x3 f_t_parts → W p l e (headSpec wmX1_turnOne zrX1_turnOne).room s m ([.ref q_t, .int a1, .int a2] : List Value).toArray below meth c H locs 0 0 (MQ below (va_Qv (fun u : (Nat → Int64) => Q u) (fun u t => zAt D A [(q_t, zX1 q_t_parts v_t_states v_t_exponent), (q_t_parts, zJ cJ 64 u)] t) A) ([.ref q_t, .int a1, .int a2] : List Value).toArray s 0 0 A) (F0 m 2 ls []) := by
    intro n
    induction n with
    | zero => intro x1 x2 x3 f_t_parts H locs ls hP hD hS hl hw; exact False.elim hw
    | succ n_2 ih_2 =>
      intro x1 x2 x3 f_t_parts H locs ls hP hD hS hl hw
      have hw : wpX1_turnOne_2b Q  (wpX1_turnOne_2 Q   n_2)  x1 x2 x3 f_t_parts := hw
      refine lv_iload_n hx hb dX1_turnOne_2 rfl (lv_at hl 3 rfl) ?_
      refine lv_iload_n hx hb dX1_turnOne_3 rfl (lv_at hl 2 rfl) ?_
      refine lv_icmp_ge (tgt := 78) hx hb dX1_turnOne_4 (by decide) (fun c1 => ?_) (fun c1 => ?_)
      · have hw := hw.1 c1
        exact W.vret hx hb hr (fun t ht hW => ⟨⟨(f_t_parts), rfl, hw, ⟨by rw [ht]; exact hP, hD⟩⟩, hS.F ht⟩) hS.2.2 dX1_turnOne_78
      · have hw := hw.2 c1
        refine lv_aload_n hx hb dX1_turnOne_7 rfl (lv_at hl 0 rfl) ?_
        refine va_get (D := D) (ci := 1) (v := .ref q_t_parts) (C := RX1) (T := TX1) (N := 3) hx hb hts hw_2 hown hK hP 0 rfl rfl 0 (by decide) hw_1 (fun _ h9 => h9) rfl dX1_turnOne_8 ?_
        refine lv_iload_n hx hb dX1_turnOne_11 rfl (lv_at hl 1 rfl) ?_
        refine lv_iconst (v := 3) hx hb dX1_turnOne_12 (by decide) ?_
        refine lv_iadd hx hb dX1_turnOne_13 ?_
        obtain ⟨h2, hw⟩ := hw
        refine va_lald hx hb hK hP 1 1 rfl rfl h2 dX1_turnOne_14 ?_
        refine lv_topl (fun x4_3 ex4_3 => ?_)
        have hw := hw x4_3 ex4_3
        refine lv_lstore (lv' := [(4, .long x4_3), (0, .ref q_t), (1, .int x1), (2, .int x2), (3, .int x3)]) hx hb dX1_turnOne_15 hl (by decide) rfl (fun ls hl => ?_)
        refine lv_aload_n hx hb dX1_turnOne_17 rfl (lv_at hl 1 rfl) ?_
        refine va_get (D := D) (ci := 1) (v := .ref q_t_parts) (C := RX1) (T := TX1) (N := 3) hx hb hts hw_2 hown hK hP 0 rfl rfl 0 (by decide) hw_1 (fun _ h9 => h9) rfl dX1_turnOne_18 ?_
        refine lv_iload_n hx hb dX1_turnOne_21 rfl (lv_at hl 2 rfl) ?_
        refine lv_iconst (v := 3) hx hb dX1_turnOne_22 (by decide) ?_
        refine lv_iadd hx hb dX1_turnOne_23 ?_
        refine lv_aload_n hx hb dX1_turnOne_24 rfl (lv_at hl 1 rfl) ?_
        refine va_get (D := D) (ci := 1) (v := .ref q_t_parts) (C := RX1) (T := TX1) (N := 3) hx hb hts hw_2 hown hK hP 0 rfl rfl 0 (by decide) hw_1 (fun _ h9 => h9) rfl dX1_turnOne_25 ?_
        refine lv_iload_n hx hb dX1_turnOne_28 rfl (lv_at hl 2 rfl) ?_
        refine lv_iconst (v := 2) hx hb dX1_turnOne_29 (by decide) ?_
        refine lv_iadd hx hb dX1_turnOne_30 ?_
        obtain ⟨h4, hw⟩ := hw
        refine va_lald hx hb hK hP 1 1 rfl rfl h4 dX1_turnOne_31 ?_
        obtain ⟨h5, hw⟩ := hw
        refine va_last hx hb hK hP hD hS 1 1 rfl rfl h5 dX1_turnOne_32 (fun H locs hP hD hS => ?_)
        have hP : va_P D vwCl [(q_t, zX1 q_t_parts v_t_states v_t_exponent), (q_t_parts, zJ cJ 64 (vp_updL f_t_parts (x1 + 3).toNatClampNeg (f_t_parts (x1 + 2).toNatClampNeg)))] H := hP
        have hD : va_D A [(q_t, zX1 q_t_parts v_t_states v_t_exponent), (q_t_parts, zJ cJ 64 (vp_updL f_t_parts (x1 + 3).toNatClampNeg (f_t_parts (x1 + 2).toNatClampNeg)))] := hD
        refine lv_aload_n hx hb dX1_turnOne_33 rfl (lv_at hl 1 rfl) ?_
        refine va_get (D := D) (ci := 1) (v := .ref q_t_parts) (C := RX1) (T := TX1) (N := 3) hx hb hts hw_2 hown hK hP 0 rfl rfl 0 (by decide) hw_1 (fun _ h9 => h9) rfl dX1_turnOne_34 ?_
        refine lv_iload_n hx hb dX1_turnOne_37 rfl (lv_at hl 2 rfl) ?_
        refine lv_iconst (v := 2) hx hb dX1_turnOne_38 (by decide) ?_
        refine lv_iadd hx hb dX1_turnOne_39 ?_
        refine lv_aload_n hx hb dX1_turnOne_40 rfl (lv_at hl 1 rfl) ?_
        refine va_get (D := D) (ci := 1) (v := .ref q_t_parts) (C := RX1) (T := TX1) (N := 3) hx hb hts hw_2 hown hK hP 0 rfl rfl 0 (by decide) hw_1 (fun _ h9 => h9) rfl dX1_turnOne_41 ?_
        refine lv_iload_n hx hb dX1_turnOne_44 rfl (lv_at hl 2 rfl) ?_
        refine lv_iconst (v := 1) hx hb dX1_turnOne_45 (by decide) ?_
        refine lv_iadd hx hb dX1_turnOne_46 ?_
        obtain ⟨h7, hw⟩ := hw
        refine va_lald hx hb hK hP 1 1 rfl rfl h7 dX1_turnOne_47 ?_
        obtain ⟨h8, hw⟩ := hw
        refine va_last hx hb hK hP hD hS 1 1 rfl rfl h8 dX1_turnOne_48 (fun H locs hP hD hS => ?_)
        have hP : va_P D vwCl [(q_t, zX1 q_t_parts v_t_states v_t_exponent), (q_t_parts, zJ cJ 64 (vp_updL (vp_updL f_t_parts (x1 + 3).toNatClampNeg (f_t_parts (x1 + 2).toNatClampNeg)) (x1 + 2).toNatClampNeg ((vp_updL f_t_parts (x1 + 3).toNatClampNeg (f_t_parts (x1 + 2).toNatClampNeg)) (x1 + 1).toNatClampNeg)))] H := hP
        have hD : va_D A [(q_t, zX1 q_t_parts v_t_states v_t_exponent), (q_t_parts, zJ cJ 64 (vp_updL (vp_updL f_t_parts (x1 + 3).toNatClampNeg (f_t_parts (x1 + 2).toNatClampNeg)) (x1 + 2).toNatClampNeg ((vp_updL f_t_parts (x1 + 3).toNatClampNeg (f_t_parts (x1 + 2).toNatClampNeg)) (x1 + 1).toNatClampNeg)))] := hD
        refine lv_aload_n hx hb dX1_turnOne_49 rfl (lv_at hl 1 rfl) ?_
        refine va_get (D := D) (ci := 1) (v := .ref q_t_parts) (C := RX1) (T := TX1) (N := 3) hx hb hts hw_2 hown hK hP 0 rfl rfl 0 (by decide) hw_1 (fun _ h9 => h9) rfl dX1_turnOne_50 ?_
        refine lv_iload_n hx hb dX1_turnOne_53 rfl (lv_at hl 2 rfl) ?_
        refine lv_iconst (v := 1) hx hb dX1_turnOne_54 (by decide) ?_
        refine lv_iadd hx hb dX1_turnOne_55 ?_
        refine lv_aload_n hx hb dX1_turnOne_56 rfl (lv_at hl 1 rfl) ?_
        refine va_get (D := D) (ci := 1) (v := .ref q_t_parts) (C := RX1) (T := TX1) (N := 3) hx hb hts hw_2 hown hK hP 0 rfl rfl 0 (by decide) hw_1 (fun _ h9 => h9) rfl dX1_turnOne_57 ?_
        refine lv_iload_n hx hb dX1_turnOne_60 rfl (lv_at hl 2 rfl) ?_
        obtain ⟨h10, hw⟩ := hw
        refine va_lald hx hb hK hP 1 1 rfl rfl h10 dX1_turnOne_61 ?_
        obtain ⟨h11, hw⟩ := hw
        refine va_last hx hb hK hP hD hS 1 1 rfl rfl h11 dX1_turnOne_62 (fun H locs hP hD hS => ?_)
        have hP : va_P D vwCl [(q_t, zX1 q_t_parts v_t_states v_t_exponent), (q_t_parts, zJ cJ 64 (vp_updL (vp_updL (vp_updL f_t_parts (x1 + 3).toNatClampNeg (f_t_parts (x1 + 2).toNatClampNeg)) (x1 + 2).toNatClampNeg ((vp_updL f_t_parts (x1 + 3).toNatClampNeg (f_t_parts (x1 + 2).toNatClampNeg)) (x1 + 1).toNatClampNeg)) (x1 + 1).toNatClampNeg ((vp_updL (vp_updL f_t_parts (x1 + 3).toNatClampNeg (f_t_parts (x1 + 2).toNatClampNeg)) (x1 + 2).toNatClampNeg ((vp_updL f_t_parts (x1 + 3).toNatClampNeg (f_t_parts (x1 + 2).toNatClampNeg)) (x1 + 1).toNatClampNeg)) x1.toNatClampNeg)))] H := hP
        have hD : va_D A [(q_t, zX1 q_t_parts v_t_states v_t_exponent), (q_t_parts, zJ cJ 64 (vp_updL (vp_updL (vp_updL f_t_parts (x1 + 3).toNatClampNeg (f_t_parts (x1 + 2).toNatClampNeg)) (x1 + 2).toNatClampNeg ((vp_updL f_t_parts (x1 + 3).toNatClampNeg (f_t_parts (x1 + 2).toNatClampNeg)) (x1 + 1).toNatClampNeg)) (x1 + 1).toNatClampNeg ((vp_updL (vp_updL f_t_parts (x1 + 3).toNatClampNeg (f_t_parts (x1 + 2).toNatClampNeg)) (x1 + 2).toNatClampNeg ((vp_updL f_t_parts (x1 + 3).toNatClampNeg (f_t_parts (x1 + 2).toNatClampNeg)) (x1 + 1).toNatClampNeg)) x1.toNatClampNeg)))] := hD
        refine lv_aload_n hx hb dX1_turnOne_63 rfl (lv_at hl 1 rfl) ?_
        refine va_get (D := D) (ci := 1) (v := .ref q_t_parts) (C := RX1) (T := TX1) (N := 3) hx hb hts hw_2 hown hK hP 0 rfl rfl 0 (by decide) hw_1 (fun _ h9 => h9) rfl dX1_turnOne_64 ?_
        refine lv_iload_n hx hb dX1_turnOne_67 rfl (lv_at hl 2 rfl) ?_
        refine lv_lload hx hb dX1_turnOne_68 (lv_at hl 0 rfl) ?_
        refine lv_lneg hx hb dX1_turnOne_70 ?_
        obtain ⟨h13, hw⟩ := hw
        refine va_last hx hb hK hP hD hS 1 1 rfl rfl h13 dX1_turnOne_71 (fun H locs hP hD hS => ?_)
        have hP : va_P D vwCl [(q_t, zX1 q_t_parts v_t_states v_t_exponent), (q_t_parts, zJ cJ 64 (vp_updL (vp_updL (vp_updL (vp_updL f_t_parts (x1 + 3).toNatClampNeg (f_t_parts (x1 + 2).toNatClampNeg)) (x1 + 2).toNatClampNeg ((vp_updL f_t_parts (x1 + 3).toNatClampNeg (f_t_parts (x1 + 2).toNatClampNeg)) (x1 + 1).toNatClampNeg)) (x1 + 1).toNatClampNeg ((vp_updL (vp_updL f_t_parts (x1 + 3).toNatClampNeg (f_t_parts (x1 + 2).toNatClampNeg)) (x1 + 2).toNatClampNeg ((vp_updL f_t_parts (x1 + 3).toNatClampNeg (f_t_parts (x1 + 2).toNatClampNeg)) (x1 + 1).toNatClampNeg)) x1.toNatClampNeg)) x1.toNatClampNeg (-x4_3)))] H := hP
        have hD : va_D A [(q_t, zX1 q_t_parts v_t_states v_t_exponent), (q_t_parts, zJ cJ 64 (vp_updL (vp_updL (vp_updL (vp_updL f_t_parts (x1 + 3).toNatClampNeg (f_t_parts (x1 + 2).toNatClampNeg)) (x1 + 2).toNatClampNeg ((vp_updL f_t_parts (x1 + 3).toNatClampNeg (f_t_parts (x1 + 2).toNatClampNeg)) (x1 + 1).toNatClampNeg)) (x1 + 1).toNatClampNeg ((vp_updL (vp_updL f_t_parts (x1 + 3).toNatClampNeg (f_t_parts (x1 + 2).toNatClampNeg)) (x1 + 2).toNatClampNeg ((vp_updL f_t_parts (x1 + 3).toNatClampNeg (f_t_parts (x1 + 2).toNatClampNeg)) (x1 + 1).toNatClampNeg)) x1.toNatClampNeg)) x1.toNatClampNeg (-x4_3)))] := hD
        refine lv_iinc (v := (x3 + 1)) (lv' := [(3, .int (x3 + 1)), (4, .long x4_3), (0, .ref q_t), (1, .int x1), (2, .int x2)]) hx hb dX1_turnOne_72 hl (k := 4) rfl rfl (by decide) rfl (fun ls hl => ?_)
        refine lv_goto (tgt := 2) hx hb dX1_turnOne_75 (by decide) ?_
        exact ih_2 x1 x2 (x3 + 1) (vp_updL (vp_updL (vp_updL (vp_updL f_t_parts (x1 + 3).toNatClampNeg (f_t_parts (x1 + 2).toNatClampNeg)) (x1 + 2).toNatClampNeg ((vp_updL f_t_parts (x1 + 3).toNatClampNeg (f_t_parts (x1 + 2).toNatClampNeg)) (x1 + 1).toNatClampNeg)) (x1 + 1).toNatClampNeg ((vp_updL (vp_updL f_t_parts (x1 + 3).toNatClampNeg (f_t_parts (x1 + 2).toNatClampNeg)) (x1 + 2).toNatClampNeg ((vp_updL f_t_parts (x1 + 3).toNatClampNeg (f_t_parts (x1 + 2).toNatClampNeg)) (x1 + 1).toNatClampNeg)) x1.toNatClampNeg)) x1.toNatClampNeg (-x4_3)) _ _ _ hP hD hS (lv_sub hl [2, 3, 4, 0] rfl) hw
  refine lv_iconst (v := 0) hx hb dX1_turnOne_0 (by decide) ?_
  refine lv_istore_n (lv' := [(3, .int 0), (0, .ref q_t), (1, .int a1), (2, .int a2)]) hx hb dX1_turnOne_1 rfl hl (by decide) rfl (fun ls hl => ?_)
  obtain ⟨n_2, hw⟩ := hw
  exact L_2 n_2 a1 a2 0 f_t_parts _ _ _ hP hD hS (lv_sub hl [1, 2, 3, 0] rfl) hw

def wpX1_turn_2b (Q : (Nat → Int64) → Prop)  (R_2 : (Int32) → (Int32) → (Int32) → (Nat → Int64) → Prop) (v_t_states : Int32) (x1 : Int32) (x2 : Int32) (x3 : Int32) (f_t_parts : Nat → Int64) : Prop := ((v_t_states ≤ x3 → Q f_t_parts) ∧ (¬ v_t_states ≤ x3 → (((x3 &&& x1) = x1 → wpX1_turnOne (fun (u3 : Nat → Int64) => R_2 x1 x2 (x3 + 1) u3) (4 * x3) x2 f_t_parts) ∧ (¬ (x3 &&& x1) = x1 → R_2 x1 x2 (x3 + 1) f_t_parts))))
def wpX1_turn_2 (Q : (Nat → Int64) → Prop)  (v_t_states : Int32) : Nat → (Int32) → (Int32) → (Int32) → (Nat → Int64) → Prop
  | 0 => fun _ _ _ _ => False
  | n + 1 => fun x1 x2 x3 f_t_parts => wpX1_turn_2b Q  (wpX1_turn_2 Q  v_t_states n) v_t_states x1 x2 x3 f_t_parts
def wpX1_turn (Q : (Nat → Int64) → Prop) (a1 : Int32) (a2 : Int32) (v_t_states : Int32) (f_t_parts : Nat → Int64) : Prop := ∃ n : Nat, wpX1_turn_2 Q  v_t_states n a1 a2 0 f_t_parts
abbrev zrX1_turn : Room := { frames := 1, cells := 0, slots := 0, locals := 25 }
set_option maxHeartbeats 4000000 in
set_option maxRecDepth 100000 in
theorem zkX1_turn (l : Launch) (D : va_G) (cI cJ cC : ClassId) (q_t q_t_parts : Nat) (sz : Nat) (a1 : Int32) (a2 : Int32) (v_t_states : Int32) (v_t_exponent : Int32) (f_t_parts : Nat → Int64) {Q : (Nat → Int64) → Prop} (hw : wpX1_turn Q a1 a2 v_t_states f_t_parts) : Met l yX1_turn wmX1_turn zrX1_turn (zPreW D (zT cI cJ cC) [(q_t, zX1 q_t_parts v_t_states v_t_exponent), (q_t_parts, zJ cJ 64 f_t_parts)] sz [.ref q_t, .int a1, .int a2]) (va_Qv (fun u : (Nat → Int64) => Q u) (fun u t => zAt D (va_A [(q_t, zX1 q_t_parts v_t_states v_t_exponent), (q_t_parts, zJ cJ 64 f_t_parts)] sz) [(q_t, zX1 q_t_parts v_t_states v_t_exponent), (q_t_parts, zJ cJ 64 u)] t) (va_A [(q_t, zX1 q_t_parts v_t_states v_t_exponent), (q_t_parts, zJ cJ 64 f_t_parts)] sz)) 0 0 (va_A [(q_t, zX1 q_t_parts v_t_states v_t_exponent), (q_t_parts, zJ cJ 64 f_t_parts)] sz) := by
  refine Met.ofW (cc := cX1_turn) (maxL := 4) (ret := none) (by decide) rfl ?_
  intro p e s m args below meth c s₁ B hml hv
  obtain ⟨rfl, hsz, hP, hK, hD0⟩ := hv
  have hx := B.exec
  have hb := B.bytes
  have hr := B.returns
  have hts := atoms_spec (ws := wmX1_turn) B.pre
  have hown : s.vm.findClass RX1 = some m.cls := findClass_of_methodNamed B.named
  have hlocks := B.notSynchronized
  subst hsz
  have hD := hD0.self (sz := s.heap.size)
  generalize hAe : va_A [(q_t, zX1 q_t_parts v_t_states v_t_exponent), (q_t_parts, zJ cJ 64 f_t_parts)] s.heap.size = A at hD ⊢
  have hA : ∀ q : Nat, s.heap.size ≤ q → A q := fun q h => by rw [← hAe]; exact Or.inr h
  have hS : va_S A s.heap s.heap [] := va_S.rf
  have hP : va_P D vwCl [(q_t, zX1 q_t_parts v_t_states v_t_exponent), (q_t_parts, zJ cJ 64 f_t_parts)] s.heap := hP
  have hw_1 := hts _ (z_in wm_123)
  have hw_2 : ∀ w ∈ u_ws RX1 TX1 3, w ∈ wmX1_turn := fun w h => z_in (wi_wsX10 w h)
  have hl := lv_entry ([.ref q_t, .int a1, .int a2]) (n := 4) (Nat.le_of_ble_eq_true rfl)
  rw [lg_entry_eq]
  generalize (lg_sl ([.ref q_t, .int a1, .int a2]) ++ List.replicate (4 - (lg_sl ([.ref q_t, .int a1, .int a2])).length) Slot.unset).toArray = ls at hl ⊢
  have hl : lv_has ls 4 [(0, .ref q_t), (1, .int a1), (2, .int a2)] := hl
  have L_2 : ∀ (n : Nat), ∀ (x1 : Int32) (x2 : Int32) (x3 : Int32) (f_t_parts : Nat → Int64) (H : Heap) (locs : List Loc) (ls : Array Slot), va_P D vwCl [(q_t, zX1 q_t_parts v_t_states v_t_exponent), (q_t_parts, zJ cJ 64 f_t_parts)] H → va_D A [(q_t, zX1 q_t_parts v_t_states v_t_exponent), (q_t_parts, zJ cJ 64 f_t_parts)] → va_S A s.heap H locs → lv_has ls 4 [(0, .ref q_t), (1, .int x1), (2, .int x2), (3, .int x3)] → wpX1_turn_2 Q  v_t_states n x1 x2 x3 f_t_parts → W p l e (headSpec wmX1_turn zrX1_turn).room s m ([.ref q_t, .int a1, .int a2] : List Value).toArray below meth c H locs 0 0 (MQ below (va_Qv (fun u : (Nat → Int64) => Q u) (fun u t => zAt D A [(q_t, zX1 q_t_parts v_t_states v_t_exponent), (q_t_parts, zJ cJ 64 u)] t) A) ([.ref q_t, .int a1, .int a2] : List Value).toArray s 0 0 A) (F0 m 2 ls []) := by
    intro n
    induction n with
    | zero => intro x1 x2 x3 f_t_parts H locs ls hP hD hS hl hw; exact False.elim hw
    | succ n_2 ih_2 =>
      intro x1 x2 x3 f_t_parts H locs ls hP hD hS hl hw
      have hw : wpX1_turn_2b Q  (wpX1_turn_2 Q  v_t_states n_2) v_t_states x1 x2 x3 f_t_parts := hw
      refine lv_iload_n hx hb dX1_turn_2 rfl (lv_at hl 3 rfl) ?_
      refine lv_aload_n hx hb dX1_turn_3 rfl (lv_at hl 0 rfl) ?_
      refine va_get (D := D) (ci := 1) (v := .int v_t_states) (C := RX1) (T := TX1) (N := 3) hx hb hts hw_2 hown hK hP 0 rfl rfl 1 (by decide) hw_1 (fun _ h9 => h9) rfl dX1_turn_4 ?_
      refine lv_icmp_ge (tgt := 31) hx hb dX1_turn_7 (by decide) (fun c1 => ?_) (fun c1 => ?_)
      · have hw := hw.1 c1
        exact W.vret hx hb hr (fun t ht hW => ⟨⟨(f_t_parts), rfl, hw, ⟨by rw [ht]; exact hP, hD⟩⟩, hS.F ht⟩) hS.2.2 dX1_turn_31
      · have hw := hw.2 c1
        refine lv_iload_n hx hb dX1_turn_10 rfl (lv_at hl 3 rfl) ?_
        refine lv_iload_n hx hb dX1_turn_11 rfl (lv_at hl 1 rfl) ?_
        refine lv_iand hx hb dX1_turn_12 ?_
        refine lv_iload_n hx hb dX1_turn_13 rfl (lv_at hl 1 rfl) ?_
        refine lv_icmp_ne (tgt := 25) hx hb dX1_turn_14 (by decide) (fun c2 => ?_) (fun c2 => ?_)
        · have hw := hw.2 c2
          refine lv_iinc (v := (x3 + 1)) (lv' := [(3, .int (x3 + 1)), (0, .ref q_t), (1, .int x1), (2, .int x2)]) hx hb dX1_turn_25 hl (k := 3) rfl rfl (by decide) rfl (fun ls hl => ?_)
          refine lv_goto (tgt := 2) hx hb dX1_turn_28 (by decide) ?_
          exact ih_2 x1 x2 (x3 + 1) f_t_parts _ _ _ hP hD hS (lv_sub hl [1, 2, 3, 0] rfl) hw
        · have hw := hw.1 c2
          refine lv_aload_n hx hb dX1_turn_17 rfl (lv_at hl 0 rfl) ?_
          refine lv_iconst (v := 4) hx hb dX1_turn_18 (by decide) ?_
          refine lv_iload_n hx hb dX1_turn_19 rfl (lv_at hl 3 rfl) ?_
          refine lv_imul hx hb dX1_turn_20 ?_
          refine lv_iload_n hx hb dX1_turn_21 rfl (lv_at hl 2 rfl) ?_
          refine z_wv (wc := [(q_t, zX1 q_t_parts v_t_states v_t_exponent), (q_t_parts, zJ cJ 64 f_t_parts)]) (wr := []) (W1 := fun u : (Nat → Int64) => [(q_t, zX1 q_t_parts v_t_states v_t_exponent), (q_t_parts, zJ cJ 64 u)]) (va_runV (As := [.int (4 * x3), .int x2]) (rest := []) ⟨hx, hb, hml, hown, hts⟩ (zkX1_turnOne l D cI cJ cC q_t q_t_parts _ (4 * x3) x2 v_t_states v_t_exponent f_t_parts hw) (cwV 2 hts (z_gV wm_148 wm_149 wm_150 wm_133 wm_146) rfl rfl rfl (by decide +kernel) ⟨Nat.le_of_ble_eq_true rfl, Nat.le_of_ble_eq_true rfl⟩) (z_pvW hK hP hD [0, 1] rfl (by decide) rfl 0 1 rfl rfl) rfl rfl hl.1 rfl (lv_room (Nat.le_of_ble_eq_true rfl)) dX1_turn_22 ⟨Nat.zero_le _, Nat.zero_le _⟩) hP hD hS hA [0, 1] [] rfl rfl (by decide) (by decide) (fun u9 H locs hw hP hD hS => ?_)
          obtain ⟨u3, rfl⟩ : ∃ z, z = u9 := ⟨_, rfl⟩
          have hP : va_P D vwCl [(q_t, zX1 q_t_parts v_t_states v_t_exponent), (q_t_parts, zJ cJ 64 u3)] H := hP
          have hD : va_D A [(q_t, zX1 q_t_parts v_t_states v_t_exponent), (q_t_parts, zJ cJ 64 u3)] := hD
          try dsimp only at hw
          refine lv_iinc (v := (x3 + 1)) (lv' := [(3, .int (x3 + 1)), (0, .ref q_t), (1, .int x1), (2, .int x2)]) hx hb dX1_turn_25 hl (k := 3) rfl rfl (by decide) rfl (fun ls hl => ?_)
          refine lv_goto (tgt := 2) hx hb dX1_turn_28 (by decide) ?_
          exact ih_2 x1 x2 (x3 + 1) u3 _ _ _ hP hD hS (lv_sub hl [1, 2, 3, 0] rfl) hw
  refine lv_iconst (v := 0) hx hb dX1_turn_0 (by decide) ?_
  refine lv_istore_n (lv' := [(3, .int 0), (0, .ref q_t), (1, .int a1), (2, .int a2)]) hx hb dX1_turn_1 rfl hl (by decide) rfl (fun ls hl => ?_)
  obtain ⟨n_2, hw⟩ := hw
  exact L_2 n_2 a1 a2 0 f_t_parts _ _ _ hP hD hS (lv_sub hl [1, 2, 3, 0] rfl) hw

def wpX1_apply (Q : (Int32) → (Nat → Int64) → Prop) (a1 : Int32) (v_t_states : Int32) (v_t_exponent : Int32) (f_t_parts : Nat → Int64) : Prop := (((zvX2_kind a1) = 1 → wpX1_mix (fun (u9 : Int32) (u10 : Nat → Int64) => Q u9 u10) ((1 : Int32) <<< ((zvX2_a a1) &&& 31)) v_t_states v_t_exponent f_t_parts) ∧ (¬ (zvX2_kind a1) = 1 → (((zvX2_kind a1) = 8 → wpX1_trade (fun (u8 : Nat → Int64) => Q v_t_exponent u8) ((1 : Int32) <<< ((zvX2_a a1) &&& 31)) ((1 : Int32) <<< ((zvX2_b a1) &&& 31)) v_t_states f_t_parts) ∧ (¬ (zvX2_kind a1) = 8 → (((zvX2_flips a1) = 0 → (((zvX2_kind a1) = 7 → wpX1_turn (fun (u6 : Nat → Int64) => Q v_t_exponent u6) (zvX2_wireBits a1) 4 v_t_states f_t_parts) ∧ (¬ (zvX2_kind a1) = 7 → wpX1_turn (fun (u5 : Nat → Int64) => Q v_t_exponent u5) (zvX2_wireBits a1) (zvX2_turns a1) v_t_states f_t_parts))) ∧ (¬ (zvX2_flips a1) = 0 → wpX1_flip (fun (u7 : Nat → Int64) => Q v_t_exponent u7) (zvX2_controlBits a1) (zvX2_targetBit a1) v_t_states f_t_parts))))))
abbrev zrX1_apply : Room := { frames := 2, cells := 0, slots := 0, locals := 48 }
set_option maxHeartbeats 4000000 in
set_option maxRecDepth 100000 in
theorem zkX1_apply (l : Launch) (D : va_G) (cI cJ cC : ClassId) (q_t q_t_parts : Nat) (sz : Nat) (a1 : Int32) (v_t_states : Int32) (v_t_exponent : Int32) (f_t_parts : Nat → Int64) {Q : (Int32) → (Nat → Int64) → Prop} (hw : wpX1_apply Q a1 v_t_states v_t_exponent f_t_parts) : Met l yX1_apply wmX1_apply zrX1_apply (zPreW D (zT cI cJ cC) [(q_t, zX1 q_t_parts v_t_states v_t_exponent), (q_t_parts, zJ cJ 64 f_t_parts)] sz [.ref q_t, .int a1]) (va_Qv (fun u : (Int32) × (Nat → Int64) => Q (u.1) (u.2)) (fun u t => zAt D (va_A [(q_t, zX1 q_t_parts v_t_states v_t_exponent), (q_t_parts, zJ cJ 64 f_t_parts)] sz) [(q_t, zX1 q_t_parts v_t_states (u.1)), (q_t_parts, zJ cJ 64 (u.2))] t) (va_A [(q_t, zX1 q_t_parts v_t_states v_t_exponent), (q_t_parts, zJ cJ 64 f_t_parts)] sz)) 0 0 (va_A [(q_t, zX1 q_t_parts v_t_states v_t_exponent), (q_t_parts, zJ cJ 64 f_t_parts)] sz) := by
  refine Met.ofW (cc := cX1_apply) (maxL := 3) (ret := none) (by decide) rfl ?_
  intro p e s m args below meth c s₁ B hml hv
  obtain ⟨rfl, hsz, hP, hK, hD0⟩ := hv
  have hx := B.exec
  have hb := B.bytes
  have hr := B.returns
  have hts := atoms_spec (ws := wmX1_apply) B.pre
  have hown : s.vm.findClass RX1 = some m.cls := findClass_of_methodNamed B.named
  have hlocks := B.notSynchronized
  subst hsz
  have hD := hD0.self (sz := s.heap.size)
  generalize hAe : va_A [(q_t, zX1 q_t_parts v_t_states v_t_exponent), (q_t_parts, zJ cJ 64 f_t_parts)] s.heap.size = A at hD ⊢
  have hA : ∀ q : Nat, s.heap.size ≤ q → A q := fun q h => by rw [← hAe]; exact Or.inr h
  have hS : va_S A s.heap s.heap [] := va_S.rf
  have hP : va_P D vwCl [(q_t, zX1 q_t_parts v_t_states v_t_exponent), (q_t_parts, zJ cJ 64 f_t_parts)] s.heap := hP
  have hl := lv_entry ([.ref q_t, .int a1]) (n := 3) (Nat.le_of_ble_eq_true rfl)
  rw [lg_entry_eq]
  generalize (lg_sl ([.ref q_t, .int a1]) ++ List.replicate (3 - (lg_sl ([.ref q_t, .int a1])).length) Slot.unset).toArray = ls at hl ⊢
  have hl : lv_has ls 3 [(0, .ref q_t), (1, .int a1)] := hl
  refine lv_iload_n hx hb dX1_apply_0 rfl (lv_at hl 1 rfl) ?_
  refine z_vi (va_runS (As := [.int a1]) (rest := []) ⟨hx, hb, hml, hown, hts⟩ (zkX2_kind l   a1 ) (va_cwS 1 hts (z_gS wm_151 wm_29 wm_30 wm_26) rfl rfl rfl (by decide +kernel) ⟨Nat.le_of_ble_eq_true rfl, Nat.le_of_ble_eq_true rfl⟩) z_psS rfl rfl hl.1 rfl (lv_room (Nat.le_of_ble_eq_true rfl)) dX1_apply_1 ⟨Nat.zero_le _, Nat.zero_le _⟩) ?_
  refine lv_istore_n (lv' := [(2, .int (zvX2_kind a1)), (0, .ref q_t), (1, .int a1)]) hx hb dX1_apply_4 rfl hl (by decide) rfl (fun ls hl => ?_)
  refine lv_iload_n hx hb dX1_apply_5 rfl (lv_at hl 0 rfl) ?_
  refine lv_iconst (v := 1) hx hb dX1_apply_6 (by decide) ?_
  refine lv_icmp_ne (tgt := 23) hx hb dX1_apply_7 (by decide) (fun c1 => ?_) (fun c1 => ?_)
  · have hw := hw.2 c1
    refine lv_iload_n hx hb dX1_apply_23 rfl (lv_at hl 0 rfl) ?_
    refine lv_bipush (v := 8) hx hb dX1_apply_24 (by decide) ?_
    refine lv_icmp_ne (tgt := 48) hx hb dX1_apply_26 (by decide) (fun c2 => ?_) (fun c2 => ?_)
    · have hw := hw.2 c2
      refine lv_iload_n hx hb dX1_apply_48 rfl (lv_at hl 2 rfl) ?_
      refine z_vi (va_runS (As := [.int a1]) (rest := []) ⟨hx, hb, hml, hown, hts⟩ (zkX2_flips l   a1 ) (va_cwS 1 hts (z_gS wm_160 wm_161 wm_30 wm_144) rfl rfl rfl (by decide +kernel) ⟨Nat.le_of_ble_eq_true rfl, Nat.le_of_ble_eq_true rfl⟩) z_psS rfl rfl hl.1 rfl (lv_room (Nat.le_of_ble_eq_true rfl)) dX1_apply_49 ⟨Nat.zero_le _, Nat.zero_le _⟩) ?_
      refine lv_if_eq (tgt := 70) hx hb dX1_apply_52 (by decide) (fun c3 => ?_) (fun c3 => ?_)
      · have hw := hw.1 c3
        refine lv_aload_n hx hb dX1_apply_70 rfl (lv_at hl 1 rfl) ?_
        refine lv_iload_n hx hb dX1_apply_71 rfl (lv_at hl 2 rfl) ?_
        refine z_vi (va_runS (As := [.int a1]) (rest := [.ref q_t]) ⟨hx, hb, hml, hown, hts⟩ (zkX2_wireBits l   a1 ) (va_cwS 1 hts (z_gS wm_167 wm_77 wm_30 wm_70) rfl rfl rfl (by decide +kernel) ⟨Nat.le_of_ble_eq_true rfl, Nat.le_of_ble_eq_true rfl⟩) z_psS rfl rfl hl.1 rfl (lv_room (Nat.le_of_ble_eq_true rfl)) dX1_apply_72 ⟨Nat.zero_le _, Nat.zero_le _⟩) ?_
        refine lv_iload_n hx hb dX1_apply_75 rfl (lv_at hl 0 rfl) ?_
        refine lv_bipush (v := 7) hx hb dX1_apply_76 (by decide) ?_
        refine lv_icmp_ne (tgt := 85) hx hb dX1_apply_78 (by decide) (fun c4 => ?_) (fun c4 => ?_)
        · have hw := hw.2 c4
          refine lv_iload_n hx hb dX1_apply_85 rfl (lv_at hl 2 rfl) ?_
          refine z_vi (va_runS (As := [.int a1]) (rest := [.int (zvX2_wireBits a1), .ref q_t]) ⟨hx, hb, hml, hown, hts⟩ (zkX2_turns l   a1 ) (va_cwS 1 hts (z_gS wm_168 wm_81 wm_30 wm_78) rfl rfl rfl (by decide +kernel) ⟨Nat.le_of_ble_eq_true rfl, Nat.le_of_ble_eq_true rfl⟩) z_psS rfl rfl hl.1 rfl (lv_room (Nat.le_of_ble_eq_true rfl)) dX1_apply_86 ⟨Nat.zero_le _, Nat.zero_le _⟩) ?_
          refine z_wv (wc := [(q_t, zX1 q_t_parts v_t_states v_t_exponent), (q_t_parts, zJ cJ 64 f_t_parts)]) (wr := []) (W1 := fun u : (Nat → Int64) => [(q_t, zX1 q_t_parts v_t_states v_t_exponent), (q_t_parts, zJ cJ 64 u)]) (va_runV (As := [.int (zvX2_wireBits a1), .int (zvX2_turns a1)]) (rest := []) ⟨hx, hb, hml, hown, hts⟩ (zkX1_turn l D cI cJ cC q_t q_t_parts _ (zvX2_wireBits a1) (zvX2_turns a1) v_t_states v_t_exponent f_t_parts hw) (cwV 2 hts (z_gV wm_169 wm_170 wm_171 wm_133 wm_147) rfl rfl rfl (by decide +kernel) ⟨Nat.le_of_ble_eq_true rfl, Nat.le_of_ble_eq_true rfl⟩) (z_pvW hK hP hD [0, 1] rfl (by decide) rfl 0 1 rfl rfl) rfl rfl hl.1 rfl (lv_room (Nat.le_of_ble_eq_true rfl)) dX1_apply_89 ⟨Nat.zero_le _, Nat.zero_le _⟩) hP hD hS hA [0, 1] [] rfl rfl (by decide) (by decide) (fun u9 H locs hw hP hD hS => ?_)
          obtain ⟨u5, rfl⟩ : ∃ z, z = u9 := ⟨_, rfl⟩
          have hP : va_P D vwCl [(q_t, zX1 q_t_parts v_t_states v_t_exponent), (q_t_parts, zJ cJ 64 u5)] H := hP
          have hD : va_D A [(q_t, zX1 q_t_parts v_t_states v_t_exponent), (q_t_parts, zJ cJ 64 u5)] := hD
          try dsimp only at hw
          exact W.vret hx hb hr (fun t ht hW => ⟨⟨(v_t_exponent, u5), rfl, hw, ⟨by rw [ht]; exact hP, hD⟩⟩, hS.F ht⟩) hS.2.2 dX1_apply_92
        · have hw := hw.1 c4
          refine lv_iconst (v := 4) hx hb dX1_apply_81 (by decide) ?_
          refine lv_goto (tgt := 89) hx hb dX1_apply_82 (by decide) ?_
          refine z_wv (wc := [(q_t, zX1 q_t_parts v_t_states v_t_exponent), (q_t_parts, zJ cJ 64 f_t_parts)]) (wr := []) (W1 := fun u : (Nat → Int64) => [(q_t, zX1 q_t_parts v_t_states v_t_exponent), (q_t_parts, zJ cJ 64 u)]) (va_runV (As := [.int (zvX2_wireBits a1), .int 4]) (rest := []) ⟨hx, hb, hml, hown, hts⟩ (zkX1_turn l D cI cJ cC q_t q_t_parts _ (zvX2_wireBits a1) 4 v_t_states v_t_exponent f_t_parts hw) (cwV 2 hts (z_gV wm_169 wm_170 wm_171 wm_133 wm_147) rfl rfl rfl (by decide +kernel) ⟨Nat.le_of_ble_eq_true rfl, Nat.le_of_ble_eq_true rfl⟩) (z_pvW hK hP hD [0, 1] rfl (by decide) rfl 0 1 rfl rfl) rfl rfl hl.1 rfl (lv_room (Nat.le_of_ble_eq_true rfl)) dX1_apply_89 ⟨Nat.zero_le _, Nat.zero_le _⟩) hP hD hS hA [0, 1] [] rfl rfl (by decide) (by decide) (fun u9 H locs hw hP hD hS => ?_)
          obtain ⟨u6, rfl⟩ : ∃ z, z = u9 := ⟨_, rfl⟩
          have hP : va_P D vwCl [(q_t, zX1 q_t_parts v_t_states v_t_exponent), (q_t_parts, zJ cJ 64 u6)] H := hP
          have hD : va_D A [(q_t, zX1 q_t_parts v_t_states v_t_exponent), (q_t_parts, zJ cJ 64 u6)] := hD
          try dsimp only at hw
          exact W.vret hx hb hr (fun t ht hW => ⟨⟨(v_t_exponent, u6), rfl, hw, ⟨by rw [ht]; exact hP, hD⟩⟩, hS.F ht⟩) hS.2.2 dX1_apply_92
      · have hw := hw.2 c3
        refine lv_aload_n hx hb dX1_apply_55 rfl (lv_at hl 1 rfl) ?_
        refine lv_iload_n hx hb dX1_apply_56 rfl (lv_at hl 2 rfl) ?_
        refine z_vi (va_runS (As := [.int a1]) (rest := [.ref q_t]) ⟨hx, hb, hml, hown, hts⟩ (zkX2_controlBits l   a1 ) (va_cwS 1 hts (z_gS wm_162 wm_85 wm_30 wm_82) rfl rfl rfl (by decide +kernel) ⟨Nat.le_of_ble_eq_true rfl, Nat.le_of_ble_eq_true rfl⟩) z_psS rfl rfl hl.1 rfl (lv_room (Nat.le_of_ble_eq_true rfl)) dX1_apply_57 ⟨Nat.zero_le _, Nat.zero_le _⟩) ?_
        refine lv_iload_n hx hb dX1_apply_60 rfl (lv_at hl 2 rfl) ?_
        refine z_vi (va_runS (As := [.int a1]) (rest := [.int (zvX2_controlBits a1), .ref q_t]) ⟨hx, hb, hml, hown, hts⟩ (zkX2_targetBit l   a1 ) (va_cwS 1 hts (z_gS wm_163 wm_87 wm_30 wm_83) rfl rfl rfl (by decide +kernel) ⟨Nat.le_of_ble_eq_true rfl, Nat.le_of_ble_eq_true rfl⟩) z_psS rfl rfl hl.1 rfl (lv_room (Nat.le_of_ble_eq_true rfl)) dX1_apply_61 ⟨Nat.zero_le _, Nat.zero_le _⟩) ?_
        refine z_wv (wc := [(q_t, zX1 q_t_parts v_t_states v_t_exponent), (q_t_parts, zJ cJ 64 f_t_parts)]) (wr := []) (W1 := fun u : (Nat → Int64) => [(q_t, zX1 q_t_parts v_t_states v_t_exponent), (q_t_parts, zJ cJ 64 u)]) (va_runV (As := [.int (zvX2_controlBits a1), .int (zvX2_targetBit a1)]) (rest := []) ⟨hx, hb, hml, hown, hts⟩ (zkX1_flip l D cI cJ cC q_t q_t_parts _ (zvX2_controlBits a1) (zvX2_targetBit a1) v_t_states v_t_exponent f_t_parts hw) (cwV 2 hts (z_gV wm_164 wm_165 wm_166 wm_133 wm_145) rfl rfl rfl (by decide +kernel) ⟨Nat.le_of_ble_eq_true rfl, Nat.le_of_ble_eq_true rfl⟩) (z_pvW hK hP hD [0, 1] rfl (by decide) rfl 0 1 rfl rfl) rfl rfl hl.1 rfl (lv_room (Nat.le_of_ble_eq_true rfl)) dX1_apply_64 ⟨Nat.zero_le _, Nat.zero_le _⟩) hP hD hS hA [0, 1] [] rfl rfl (by decide) (by decide) (fun u9 H locs hw hP hD hS => ?_)
        obtain ⟨u7, rfl⟩ : ∃ z, z = u9 := ⟨_, rfl⟩
        have hP : va_P D vwCl [(q_t, zX1 q_t_parts v_t_states v_t_exponent), (q_t_parts, zJ cJ 64 u7)] H := hP
        have hD : va_D A [(q_t, zX1 q_t_parts v_t_states v_t_exponent), (q_t_parts, zJ cJ 64 u7)] := hD
        try dsimp only at hw
        refine lv_goto (tgt := 92) hx hb dX1_apply_67 (by decide) ?_
        exact W.vret hx hb hr (fun t ht hW => ⟨⟨(v_t_exponent, u7), rfl, hw, ⟨by rw [ht]; exact hP, hD⟩⟩, hS.F ht⟩) hS.2.2 dX1_apply_92
    · have hw := hw.1 c2
      refine lv_aload_n hx hb dX1_apply_29 rfl (lv_at hl 1 rfl) ?_
      refine lv_iconst (v := 1) hx hb dX1_apply_30 (by decide) ?_
      refine lv_iload_n hx hb dX1_apply_31 rfl (lv_at hl 2 rfl) ?_
      refine z_vi (va_runS (As := [.int a1]) (rest := [.int 1, .ref q_t]) ⟨hx, hb, hml, hown, hts⟩ (zkX2_a l   a1 ) (va_cwS 1 hts (z_gS wm_152 wm_34 wm_30 wm_31) rfl rfl rfl (by decide +kernel) ⟨Nat.le_of_ble_eq_true rfl, Nat.le_of_ble_eq_true rfl⟩) z_psS rfl rfl hl.1 rfl (lv_room (Nat.le_of_ble_eq_true rfl)) dX1_apply_32 ⟨Nat.zero_le _, Nat.zero_le _⟩) ?_
      refine lv_ishl hx hb dX1_apply_35 ?_
      refine lv_iconst (v := 1) hx hb dX1_apply_36 (by decide) ?_
      refine lv_iload_n hx hb dX1_apply_37 rfl (lv_at hl 2 rfl) ?_
      refine z_vi (va_runS (As := [.int a1]) (rest := [.int 1, .int ((1 : Int32) <<< ((zvX2_a a1) &&& 31)), .ref q_t]) ⟨hx, hb, hml, hown, hts⟩ (zkX2_b l   a1 ) (va_cwS 1 hts (z_gS wm_156 wm_63 wm_30 wm_55) rfl rfl rfl (by decide +kernel) ⟨Nat.le_of_ble_eq_true rfl, Nat.le_of_ble_eq_true rfl⟩) z_psS rfl rfl hl.1 rfl (lv_room (Nat.le_of_ble_eq_true rfl)) dX1_apply_38 ⟨Nat.zero_le _, Nat.zero_le _⟩) ?_
      refine lv_ishl hx hb dX1_apply_41 ?_
      refine z_wv (wc := [(q_t, zX1 q_t_parts v_t_states v_t_exponent), (q_t_parts, zJ cJ 64 f_t_parts)]) (wr := []) (W1 := fun u : (Nat → Int64) => [(q_t, zX1 q_t_parts v_t_states v_t_exponent), (q_t_parts, zJ cJ 64 u)]) (va_runV (As := [.int ((1 : Int32) <<< ((zvX2_a a1) &&& 31)), .int ((1 : Int32) <<< ((zvX2_b a1) &&& 31))]) (rest := []) ⟨hx, hb, hml, hown, hts⟩ (zkX1_trade l D cI cJ cC q_t q_t_parts _ ((1 : Int32) <<< ((zvX2_a a1) &&& 31)) ((1 : Int32) <<< ((zvX2_b a1) &&& 31)) v_t_states v_t_exponent f_t_parts hw) (cwV 2 hts (z_gV wm_157 wm_158 wm_159 wm_133 wm_140) rfl rfl rfl (by decide +kernel) ⟨Nat.le_of_ble_eq_true rfl, Nat.le_of_ble_eq_true rfl⟩) (z_pvW hK hP hD [0, 1] rfl (by decide) rfl 0 1 rfl rfl) rfl rfl hl.1 rfl (lv_room (Nat.le_of_ble_eq_true rfl)) dX1_apply_42 ⟨Nat.zero_le _, Nat.zero_le _⟩) hP hD hS hA [0, 1] [] rfl rfl (by decide) (by decide) (fun u9 H locs hw hP hD hS => ?_)
      obtain ⟨u8, rfl⟩ : ∃ z, z = u9 := ⟨_, rfl⟩
      have hP : va_P D vwCl [(q_t, zX1 q_t_parts v_t_states v_t_exponent), (q_t_parts, zJ cJ 64 u8)] H := hP
      have hD : va_D A [(q_t, zX1 q_t_parts v_t_states v_t_exponent), (q_t_parts, zJ cJ 64 u8)] := hD
      try dsimp only at hw
      refine lv_goto (tgt := 92) hx hb dX1_apply_45 (by decide) ?_
      exact W.vret hx hb hr (fun t ht hW => ⟨⟨(v_t_exponent, u8), rfl, hw, ⟨by rw [ht]; exact hP, hD⟩⟩, hS.F ht⟩) hS.2.2 dX1_apply_92
  · have hw := hw.1 c1
    refine lv_aload_n hx hb dX1_apply_10 rfl (lv_at hl 1 rfl) ?_
    refine lv_iconst (v := 1) hx hb dX1_apply_11 (by decide) ?_
    refine lv_iload_n hx hb dX1_apply_12 rfl (lv_at hl 2 rfl) ?_
    refine z_vi (va_runS (As := [.int a1]) (rest := [.int 1, .ref q_t]) ⟨hx, hb, hml, hown, hts⟩ (zkX2_a l   a1 ) (va_cwS 1 hts (z_gS wm_152 wm_34 wm_30 wm_31) rfl rfl rfl (by decide +kernel) ⟨Nat.le_of_ble_eq_true rfl, Nat.le_of_ble_eq_true rfl⟩) z_psS rfl rfl hl.1 rfl (lv_room (Nat.le_of_ble_eq_true rfl)) dX1_apply_13 ⟨Nat.zero_le _, Nat.zero_le _⟩) ?_
    refine lv_ishl hx hb dX1_apply_16 ?_
    refine z_wv (wc := [(q_t, zX1 q_t_parts v_t_states v_t_exponent), (q_t_parts, zJ cJ 64 f_t_parts)]) (wr := []) (W1 := fun u : (Int32) × (Nat → Int64) => [(q_t, zX1 q_t_parts v_t_states (u.1)), (q_t_parts, zJ cJ 64 (u.2))]) (va_runV (As := [.int ((1 : Int32) <<< ((zvX2_a a1) &&& 31))]) (rest := []) ⟨hx, hb, hml, hown, hts⟩ (zkX1_mix l D cI cJ cC q_t q_t_parts _ ((1 : Int32) <<< ((zvX2_a a1) &&& 31)) v_t_states v_t_exponent f_t_parts hw) (cwV 1 hts (z_gV wm_153 wm_154 wm_155 wm_133 wm_135) rfl rfl rfl (by decide +kernel) ⟨Nat.le_of_ble_eq_true rfl, Nat.le_of_ble_eq_true rfl⟩) (z_pvW hK hP hD [0, 1] rfl (by decide) rfl 0 1 rfl rfl) rfl rfl hl.1 rfl (lv_room (Nat.le_of_ble_eq_true rfl)) dX1_apply_17 ⟨Nat.zero_le _, Nat.zero_le _⟩) hP hD hS hA [0, 1] [] rfl rfl (by decide) (by decide) (fun u9 H locs hw hP hD hS => ?_)
    obtain ⟨u9, u10⟩ := u9
    have hP : va_P D vwCl [(q_t, zX1 q_t_parts v_t_states u9), (q_t_parts, zJ cJ 64 u10)] H := hP
    have hD : va_D A [(q_t, zX1 q_t_parts v_t_states u9), (q_t_parts, zJ cJ 64 u10)] := hD
    try dsimp only at hw
    refine lv_goto (tgt := 92) hx hb dX1_apply_20 (by decide) ?_
    exact W.vret hx hb hr (fun t ht hW => ⟨⟨(u9, u10), rfl, hw, ⟨by rw [ht]; exact hP, hD⟩⟩, hS.F ht⟩) hS.2.2 dX1_apply_92

def wpX1_run_69b (Q : (Int32) → (Int32) → (Nat → Int64) → Prop)  (R_69 : (Int32) → (Int32) → (Int32) → (Nat → Int64) → Prop) (v_a1_count : Int32) (f_a1_gates : Nat → Int32) (x5 : Int32) (v_t_states : Int32) (v_t_exponent : Int32) (f_t_parts : Nat → Int64) : Prop := (((zvX0_count v_a1_count) ≤ x5 → Q v_t_states v_t_exponent f_t_parts) ∧ (¬ (zvX0_count v_a1_count) ≤ x5 → wpX0_at (fun r6 : Int32 => wpX1_apply (fun (u7 : Int32) (u8 : Nat → Int64) => R_69 (x5 + 1) v_t_states u7 u8) r6 v_t_states v_t_exponent f_t_parts) x5 v_a1_count f_a1_gates))
def wpX1_run_69 (Q : (Int32) → (Int32) → (Nat → Int64) → Prop)  (v_a1_count : Int32) (f_a1_gates : Nat → Int32) : Nat → (Int32) → (Int32) → (Int32) → (Nat → Int64) → Prop
  | 0 => fun _ _ _ _ => False
  | n + 1 => fun x5 v_t_states v_t_exponent f_t_parts => wpX1_run_69b Q  (wpX1_run_69 Q  v_a1_count f_a1_gates n) v_a1_count f_a1_gates x5 v_t_states v_t_exponent f_t_parts
def wpX1_run_66 (Q : (Int32) → (Int32) → (Nat → Int64) → Prop)  (v_a1_count : Int32) (f_a1_gates : Nat → Int32) (v_t_states : Int32) (v_t_exponent : Int32) (f_t_parts : Nat → Int64) : Prop := ∃ n : Nat, wpX1_run_69 Q  v_a1_count f_a1_gates n 0 v_t_states v_t_exponent f_t_parts
def wpX1_run_51b (Q : (Int32) → (Int32) → (Nat → Int64) → Prop)  (R_51 : (Int32) → (Int32) → (Int32) → (Nat → Int64) → Prop) (v_a1_count : Int32) (f_a1_gates : Nat → Int32) (x5 : Int32) (v_t_states : Int32) (v_t_exponent : Int32) (f_t_parts : Nat → Int64) : Prop := ((x5 ≤ 0 → wpX1_run_66 Q  v_a1_count f_a1_gates v_t_states v_t_exponent f_t_parts) ∧ (¬ x5 ≤ 0 → wpX1_raise (fun (u9 : Int32) (u10 : Nat → Int64) => R_51 (x5 + (-1)) v_t_states u9 u10) v_t_states v_t_exponent f_t_parts))
def wpX1_run_51 (Q : (Int32) → (Int32) → (Nat → Int64) → Prop)  (v_a1_count : Int32) (f_a1_gates : Nat → Int32) : Nat → (Int32) → (Int32) → (Int32) → (Nat → Int64) → Prop
  | 0 => fun _ _ _ _ => False
  | n + 1 => fun x5 v_t_states v_t_exponent f_t_parts => wpX1_run_51b Q  (wpX1_run_51 Q  v_a1_count f_a1_gates n) v_a1_count f_a1_gates x5 v_t_states v_t_exponent f_t_parts
def wpX1_run_41 (Q : (Int32) → (Int32) → (Nat → Int64) → Prop)  (v_a1_count : Int32) (f_a1_gates : Nat → Int32) (x4 : Int32) (v_t_states : Int32) (v_t_exponent : Int32) (f_t_parts : Nat → Int64) : Prop := wpX0_countKind (fun r3 : Int32 => ∃ n : Nat, wpX1_run_51 Q  v_a1_count f_a1_gates n (x4 - r3) v_t_states v_t_exponent f_t_parts) 1 v_a1_count f_a1_gates
def wpX1_run (Q : (Int32) → (Int32) → (Nat → Int64) → Prop) (a2 : Int32) (a3 : Int32) (a4 : Int32) (v_a1_count : Int32) (f_a1_gates : Nat → Int32) (v_t_states : Int32) (v_t_exponent : Int32) (f_t_parts : Nat → Int64) : Prop := wpJ7_fill_d0a16 (fun (u1 : Nat → Int64) => ((a2 < 0 → wpX1_run_41 Q  v_a1_count f_a1_gates a4 ((1 : Int32) <<< (a3 &&& 31)) 0 u1) ∧ (¬ a2 < 0 → ((((1 : Int32) <<< (a3 &&& 31)) ≤ a2 → wpX1_run_41 Q  v_a1_count f_a1_gates a4 ((1 : Int32) <<< (a3 &&& 31)) 0 u1) ∧ (¬ ((1 : Int32) <<< (a3 &&& 31)) ≤ a2 → vp_in (4 * a2) 64 ∧ wpX1_run_41 Q  v_a1_count f_a1_gates a4 ((1 : Int32) <<< (a3 &&& 31)) 0 (vp_updL u1 (4 * a2).toNatClampNeg 1)))))) 0 f_t_parts
abbrev zrX1_run : Room := { frames := 3, cells := 0, slots := 0, locals := 70 }
set_option maxHeartbeats 4000000 in
set_option maxRecDepth 100000 in
theorem zkX1_run (l : Launch) (D : va_G) (cI cJ cC : ClassId) (q_t q_a1 q_t_parts q_a1_gates : Nat) (sz : Nat) (a2 : Int32) (a3 : Int32) (a4 : Int32) (v_t_states : Int32) (v_t_exponent : Int32) (v_a1_count : Int32) (f_t_parts : Nat → Int64) (f_a1_gates : Nat → Int32) {Q : (Int32) → (Int32) → (Nat → Int64) → Prop} (hw : wpX1_run Q a2 a3 a4 v_a1_count f_a1_gates v_t_states v_t_exponent f_t_parts) : Met l yX1_run wmX1_run zrX1_run (zPreW D (zT cI cJ cC) [(q_t, zX1 q_t_parts v_t_states v_t_exponent), (q_a1, zX0 q_a1_gates v_a1_count), (q_t_parts, zJ cJ 64 f_t_parts), (q_a1_gates, zI cI 64 f_a1_gates)] sz [.ref q_t, .ref q_a1, .int a2, .int a3, .int a4]) (va_Qv (fun u : (Int32) × (Int32) × (Nat → Int64) => Q (u.1) (u.2.1) (u.2.2)) (fun u t => zAt D (va_A [(q_t, zX1 q_t_parts v_t_states v_t_exponent), (q_a1, zX0 q_a1_gates v_a1_count), (q_t_parts, zJ cJ 64 f_t_parts), (q_a1_gates, zI cI 64 f_a1_gates)] sz) [(q_t, zX1 q_t_parts (u.1) (u.2.1)), (q_a1, zX0 q_a1_gates v_a1_count), (q_t_parts, zJ cJ 64 (u.2.2)), (q_a1_gates, zI cI 64 f_a1_gates)] t) (va_A [(q_t, zX1 q_t_parts v_t_states v_t_exponent), (q_a1, zX0 q_a1_gates v_a1_count), (q_t_parts, zJ cJ 64 f_t_parts), (q_a1_gates, zI cI 64 f_a1_gates)] sz)) 0 0 (va_A [(q_t, zX1 q_t_parts v_t_states v_t_exponent), (q_a1, zX0 q_a1_gates v_a1_count), (q_t_parts, zJ cJ 64 f_t_parts), (q_a1_gates, zI cI 64 f_a1_gates)] sz) := by
  refine Met.ofW (cc := cX1_run) (maxL := 6) (ret := none) (by decide) rfl ?_
  intro p e s m args below meth c s₁ B hml hv
  obtain ⟨rfl, hsz, hP, hK, hD0⟩ := hv
  have hx := B.exec
  have hb := B.bytes
  have hr := B.returns
  have hts := atoms_spec (ws := wmX1_run) B.pre
  have hown : s.vm.findClass RX1 = some m.cls := findClass_of_methodNamed B.named
  have hlocks := B.notSynchronized
  subst hsz
  have hD := hD0.self (sz := s.heap.size)
  generalize hAe : va_A [(q_t, zX1 q_t_parts v_t_states v_t_exponent), (q_a1, zX0 q_a1_gates v_a1_count), (q_t_parts, zJ cJ 64 f_t_parts), (q_a1_gates, zI cI 64 f_a1_gates)] s.heap.size = A at hD ⊢
  have hA : ∀ q : Nat, s.heap.size ≤ q → A q := fun q h => by rw [← hAe]; exact Or.inr h
  have hS : va_S A s.heap s.heap [] := va_S.rf
  have hP : va_P D vwCl [(q_t, zX1 q_t_parts v_t_states v_t_exponent), (q_a1, zX0 q_a1_gates v_a1_count), (q_t_parts, zJ cJ 64 f_t_parts), (q_a1_gates, zI cI 64 f_a1_gates)] s.heap := hP
  have hw_1 := hts _ (z_in wm_122)
  have hw_2 : ∀ w ∈ u_ws RX1 TX1 3, w ∈ wmX1_run := fun w h => z_in (wi_wsX10 w h)
  have hw_3 := hts _ (z_in wm_123)
  have hw_4 := hts _ (z_in wm_124)
  have hl := lv_entry ([.ref q_t, .ref q_a1, .int a2, .int a3, .int a4]) (n := 6) (Nat.le_of_ble_eq_true rfl)
  rw [lg_entry_eq]
  generalize (lg_sl ([.ref q_t, .ref q_a1, .int a2, .int a3, .int a4]) ++ List.replicate (6 - (lg_sl ([.ref q_t, .ref q_a1, .int a2, .int a3, .int a4])).length) Slot.unset).toArray = ls at hl ⊢
  have hl : lv_has ls 6 [(0, .ref q_t), (1, .ref q_a1), (2, .int a2), (3, .int a3), (4, .int a4)] := hl
  have L_69 : ∀ (n : Nat), ∀ (x5 : Int32) (v_t_states : Int32) (v_t_exponent : Int32) (f_t_parts : Nat → Int64) (H : Heap) (locs : List Loc) (ls : Array Slot), va_P D vwCl [(q_t, zX1 q_t_parts v_t_states v_t_exponent), (q_a1, zX0 q_a1_gates v_a1_count), (q_t_parts, zJ cJ 64 f_t_parts), (q_a1_gates, zI cI 64 f_a1_gates)] H → va_D A [(q_t, zX1 q_t_parts v_t_states v_t_exponent), (q_a1, zX0 q_a1_gates v_a1_count), (q_t_parts, zJ cJ 64 f_t_parts), (q_a1_gates, zI cI 64 f_a1_gates)] → va_S A s.heap H locs → lv_has ls 6 [(0, .ref q_t), (1, .ref q_a1), (5, .int x5)] → wpX1_run_69 Q  v_a1_count f_a1_gates n x5 v_t_states v_t_exponent f_t_parts → W p l e (headSpec wmX1_run zrX1_run).room s m ([.ref q_t, .ref q_a1, .int a2, .int a3, .int a4] : List Value).toArray below meth c H locs 0 0 (MQ below (va_Qv (fun u : (Int32) × (Int32) × (Nat → Int64) => Q (u.1) (u.2.1) (u.2.2)) (fun u t => zAt D A [(q_t, zX1 q_t_parts (u.1) (u.2.1)), (q_a1, zX0 q_a1_gates v_a1_count), (q_t_parts, zJ cJ 64 (u.2.2)), (q_a1_gates, zI cI 64 f_a1_gates)] t) A) ([.ref q_t, .ref q_a1, .int a2, .int a3, .int a4] : List Value).toArray s 0 0 A) (F0 m 69 ls []) := by
    intro n
    induction n with
    | zero => intro x5 v_t_states v_t_exponent f_t_parts H locs ls hP hD hS hl hw; exact False.elim hw
    | succ n_69 ih_69 =>
      intro x5 v_t_states v_t_exponent f_t_parts H locs ls hP hD hS hl hw
      have hw : wpX1_run_69b Q  (wpX1_run_69 Q  v_a1_count f_a1_gates n_69) v_a1_count f_a1_gates x5 v_t_states v_t_exponent f_t_parts := hw
      refine lv_iload hx hb dX1_run_69 (lv_at hl 2 rfl) ?_
      refine lv_aload_n hx hb dX1_run_71 rfl (lv_at hl 1 rfl) ?_
      refine z_vi (va_runV (As := []) (rest := [.int x5]) ⟨hx, hb, hml, hown, hts⟩ (zkX0_count l D cI cJ cC q_a1 q_a1_gates  v_a1_count) (cwV 0 hts (z_gV wm_180 wm_181 wm_182 wm_15 wm_7) rfl rfl rfl (by decide +kernel) ⟨Nat.le_of_ble_eq_true rfl, Nat.le_of_ble_eq_true rfl⟩) (z_pvR hK hP [1] rfl 1 0 rfl rfl) rfl rfl hl.1 rfl (lv_room (Nat.le_of_ble_eq_true rfl)) dX1_run_72 ⟨Nat.zero_le _, Nat.zero_le _⟩) ?_
      refine lv_icmp_ge (tgt := 94) hx hb dX1_run_75 (by decide) (fun c5 => ?_) (fun c5 => ?_)
      · have hw := hw.1 c5
        exact W.vret hx hb hr (fun t ht hW => ⟨⟨(v_t_states, v_t_exponent, f_t_parts), rfl, hw, ⟨by rw [ht]; exact hP, hD⟩⟩, hS.F ht⟩) hS.2.2 dX1_run_94
      · have hw := hw.2 c5
        refine lv_aload_n hx hb dX1_run_78 rfl (lv_at hl 0 rfl) ?_
        refine lv_aload_n hx hb dX1_run_79 rfl (lv_at hl 1 rfl) ?_
        refine lv_iload hx hb dX1_run_80 (lv_at hl 2 rfl) ?_
        refine z_ri (va_runV (As := [.int x5]) (rest := [.ref q_t]) ⟨hx, hb, hml, hown, hts⟩ (zkX0_at l D cI cJ cC q_a1 q_a1_gates x5 v_a1_count f_a1_gates hw) (cwV 1 hts (z_gV wm_183 wm_13 wm_14 wm_15 wm_8) rfl rfl rfl (by decide +kernel) ⟨Nat.le_of_ble_eq_true rfl, Nat.le_of_ble_eq_true rfl⟩) (z_pvR hK hP [1, 3] rfl 1 0 rfl rfl) rfl rfl hl.1 rfl (lv_room (Nat.le_of_ble_eq_true rfl)) dX1_run_82 ⟨Nat.zero_le _, Nat.zero_le _⟩) (fun r6 hw => ?_)
        refine z_wv (wc := [(q_t, zX1 q_t_parts v_t_states v_t_exponent), (q_t_parts, zJ cJ 64 f_t_parts)]) (wr := [(q_a1, zX0 q_a1_gates v_a1_count), (q_a1_gates, zI cI 64 f_a1_gates)]) (W1 := fun u : (Int32) × (Nat → Int64) => [(q_t, zX1 q_t_parts v_t_states (u.1)), (q_t_parts, zJ cJ 64 (u.2))]) (va_runV (As := [.int r6]) (rest := []) ⟨hx, hb, hml, hown, hts⟩ (zkX1_apply l D cI cJ cC q_t q_t_parts _ r6 v_t_states v_t_exponent f_t_parts hw) (cwV 1 hts (z_gV wm_184 wm_185 wm_186 wm_133 wm_172) rfl rfl rfl (by decide +kernel) ⟨Nat.le_of_ble_eq_true rfl, Nat.le_of_ble_eq_true rfl⟩) (z_pvW hK hP hD [0, 2] rfl (by decide) rfl 0 1 rfl rfl) rfl rfl hl.1 rfl (lv_room (Nat.le_of_ble_eq_true rfl)) dX1_run_85 ⟨Nat.zero_le _, Nat.zero_le _⟩) hP hD hS hA [0, 2] [1, 3] rfl rfl (by decide) (by decide) (fun u9 H locs hw hP hD hS => ?_)
        obtain ⟨u7, u8⟩ := u9
        have hP : va_P D vwCl [(q_a1, zX0 q_a1_gates v_a1_count), (q_a1_gates, zI cI 64 f_a1_gates), (q_t, zX1 q_t_parts v_t_states u7), (q_t_parts, zJ cJ 64 u8)] H := hP
        have hD : va_D A [(q_a1, zX0 q_a1_gates v_a1_count), (q_a1_gates, zI cI 64 f_a1_gates), (q_t, zX1 q_t_parts v_t_states u7), (q_t_parts, zJ cJ 64 u8)] := hD
        try dsimp only at hw
        refine lv_iinc (v := (x5 + 1)) (lv' := [(5, .int (x5 + 1)), (0, .ref q_t), (1, .ref q_a1)]) hx hb dX1_run_88 hl (k := 2) rfl rfl (by decide) rfl (fun ls hl => ?_)
        refine lv_goto (tgt := 69) hx hb dX1_run_91 (by decide) ?_
        exact ih_69 (x5 + 1) v_t_states u7 u8 _ _ _ (hP.sub [2, 0, 3, 1] rfl) (hD.sub [2, 0, 3, 1] (by decide) rfl) hS (lv_sub hl [1, 2, 0] rfl) hw
  have J_66 : ∀ (v_t_states : Int32) (v_t_exponent : Int32) (f_t_parts : Nat → Int64) (H : Heap) (locs : List Loc) (ls : Array Slot), va_P D vwCl [(q_t, zX1 q_t_parts v_t_states v_t_exponent), (q_a1, zX0 q_a1_gates v_a1_count), (q_t_parts, zJ cJ 64 f_t_parts), (q_a1_gates, zI cI 64 f_a1_gates)] H → va_D A [(q_t, zX1 q_t_parts v_t_states v_t_exponent), (q_a1, zX0 q_a1_gates v_a1_count), (q_t_parts, zJ cJ 64 f_t_parts), (q_a1_gates, zI cI 64 f_a1_gates)] → va_S A s.heap H locs → lv_has ls 6 [(0, .ref q_t), (1, .ref q_a1)] → wpX1_run_66 Q  v_a1_count f_a1_gates v_t_states v_t_exponent f_t_parts → W p l e (headSpec wmX1_run zrX1_run).room s m ([.ref q_t, .ref q_a1, .int a2, .int a3, .int a4] : List Value).toArray below meth c H locs 0 0 (MQ below (va_Qv (fun u : (Int32) × (Int32) × (Nat → Int64) => Q (u.1) (u.2.1) (u.2.2)) (fun u t => zAt D A [(q_t, zX1 q_t_parts (u.1) (u.2.1)), (q_a1, zX0 q_a1_gates v_a1_count), (q_t_parts, zJ cJ 64 (u.2.2)), (q_a1_gates, zI cI 64 f_a1_gates)] t) A) ([.ref q_t, .ref q_a1, .int a2, .int a3, .int a4] : List Value).toArray s 0 0 A) (F0 m 66 ls []) := by
    intro v_t_states v_t_exponent f_t_parts H locs ls hP hD hS hl hw
    unfold wpX1_run_66 at hw
    refine lv_iconst (v := 0) hx hb dX1_run_66 (by decide) ?_
    refine lv_istore (lv' := [(5, .int 0), (0, .ref q_t), (1, .ref q_a1)]) hx hb dX1_run_67 hl (by decide) rfl (fun ls hl => ?_)
    obtain ⟨n_69, hw⟩ := hw
    exact L_69 n_69 0 v_t_states v_t_exponent f_t_parts _ _ _ hP hD hS (lv_sub hl [1, 2, 0] rfl) hw
  have L_51 : ∀ (n : Nat), ∀ (x5 : Int32) (v_t_states : Int32) (v_t_exponent : Int32) (f_t_parts : Nat → Int64) (H : Heap) (locs : List Loc) (ls : Array Slot), va_P D vwCl [(q_t, zX1 q_t_parts v_t_states v_t_exponent), (q_a1, zX0 q_a1_gates v_a1_count), (q_t_parts, zJ cJ 64 f_t_parts), (q_a1_gates, zI cI 64 f_a1_gates)] H → va_D A [(q_t, zX1 q_t_parts v_t_states v_t_exponent), (q_a1, zX0 q_a1_gates v_a1_count), (q_t_parts, zJ cJ 64 f_t_parts), (q_a1_gates, zI cI 64 f_a1_gates)] → va_S A s.heap H locs → lv_has ls 6 [(0, .ref q_t), (1, .ref q_a1), (5, .int x5)] → wpX1_run_51 Q  v_a1_count f_a1_gates n x5 v_t_states v_t_exponent f_t_parts → W p l e (headSpec wmX1_run zrX1_run).room s m ([.ref q_t, .ref q_a1, .int a2, .int a3, .int a4] : List Value).toArray below meth c H locs 0 0 (MQ below (va_Qv (fun u : (Int32) × (Int32) × (Nat → Int64) => Q (u.1) (u.2.1) (u.2.2)) (fun u t => zAt D A [(q_t, zX1 q_t_parts (u.1) (u.2.1)), (q_a1, zX0 q_a1_gates v_a1_count), (q_t_parts, zJ cJ 64 (u.2.2)), (q_a1_gates, zI cI 64 f_a1_gates)] t) A) ([.ref q_t, .ref q_a1, .int a2, .int a3, .int a4] : List Value).toArray s 0 0 A) (F0 m 51 ls []) := by
    intro n
    induction n with
    | zero => intro x5 v_t_states v_t_exponent f_t_parts H locs ls hP hD hS hl hw; exact False.elim hw
    | succ n_51 ih_51 =>
      intro x5 v_t_states v_t_exponent f_t_parts H locs ls hP hD hS hl hw
      have hw : wpX1_run_51b Q  (wpX1_run_51 Q  v_a1_count f_a1_gates n_51) v_a1_count f_a1_gates x5 v_t_states v_t_exponent f_t_parts := hw
      refine lv_iload hx hb dX1_run_51 (lv_at hl 2 rfl) ?_
      refine lv_if_le (tgt := 66) hx hb dX1_run_53 (by decide) (fun c4 => ?_) (fun c4 => ?_)
      · have hw := hw.1 c4
        exact J_66 v_t_states v_t_exponent f_t_parts _ _ _ hP hD hS (lv_sub hl [0, 1] rfl) hw
      · have hw := hw.2 c4
        refine lv_aload_n hx hb dX1_run_56 rfl (lv_at hl 0 rfl) ?_
        refine z_wv (wc := [(q_t, zX1 q_t_parts v_t_states v_t_exponent), (q_t_parts, zJ cJ 64 f_t_parts)]) (wr := [(q_a1, zX0 q_a1_gates v_a1_count), (q_a1_gates, zI cI 64 f_a1_gates)]) (W1 := fun u : (Int32) × (Nat → Int64) => [(q_t, zX1 q_t_parts v_t_states (u.1)), (q_t_parts, zJ cJ 64 (u.2))]) (va_runV (As := []) (rest := []) ⟨hx, hb, hml, hown, hts⟩ (zkX1_raise l D cI cJ cC q_t q_t_parts _  v_t_states v_t_exponent f_t_parts hw) (cwV 0 hts (z_gV wm_177 wm_178 wm_179 wm_133 wm_129) rfl rfl rfl (by decide +kernel) ⟨Nat.le_of_ble_eq_true rfl, Nat.le_of_ble_eq_true rfl⟩) (z_pvW hK hP hD [0, 2] rfl (by decide) rfl 0 1 rfl rfl) rfl rfl hl.1 rfl (lv_room (Nat.le_of_ble_eq_true rfl)) dX1_run_57 ⟨Nat.zero_le _, Nat.zero_le _⟩) hP hD hS hA [0, 2] [1, 3] rfl rfl (by decide) (by decide) (fun u9 H locs hw hP hD hS => ?_)
        obtain ⟨u9, u10⟩ := u9
        have hP : va_P D vwCl [(q_a1, zX0 q_a1_gates v_a1_count), (q_a1_gates, zI cI 64 f_a1_gates), (q_t, zX1 q_t_parts v_t_states u9), (q_t_parts, zJ cJ 64 u10)] H := hP
        have hD : va_D A [(q_a1, zX0 q_a1_gates v_a1_count), (q_a1_gates, zI cI 64 f_a1_gates), (q_t, zX1 q_t_parts v_t_states u9), (q_t_parts, zJ cJ 64 u10)] := hD
        try dsimp only at hw
        refine lv_iinc (v := (x5 + (-1))) (lv' := [(5, .int (x5 + (-1))), (0, .ref q_t), (1, .ref q_a1)]) hx hb dX1_run_60 hl (k := 2) rfl rfl (by decide) rfl (fun ls hl => ?_)
        refine lv_goto (tgt := 51) hx hb dX1_run_63 (by decide) ?_
        exact ih_51 (x5 + (-1)) v_t_states u9 u10 _ _ _ (hP.sub [2, 0, 3, 1] rfl) (hD.sub [2, 0, 3, 1] (by decide) rfl) hS (lv_sub hl [1, 2, 0] rfl) hw
  have J_41 : ∀ (x4 : Int32) (v_t_states : Int32) (v_t_exponent : Int32) (f_t_parts : Nat → Int64) (H : Heap) (locs : List Loc) (ls : Array Slot), va_P D vwCl [(q_t, zX1 q_t_parts v_t_states v_t_exponent), (q_a1, zX0 q_a1_gates v_a1_count), (q_t_parts, zJ cJ 64 f_t_parts), (q_a1_gates, zI cI 64 f_a1_gates)] H → va_D A [(q_t, zX1 q_t_parts v_t_states v_t_exponent), (q_a1, zX0 q_a1_gates v_a1_count), (q_t_parts, zJ cJ 64 f_t_parts), (q_a1_gates, zI cI 64 f_a1_gates)] → va_S A s.heap H locs → lv_has ls 6 [(0, .ref q_t), (1, .ref q_a1), (4, .int x4)] → wpX1_run_41 Q  v_a1_count f_a1_gates x4 v_t_states v_t_exponent f_t_parts → W p l e (headSpec wmX1_run zrX1_run).room s m ([.ref q_t, .ref q_a1, .int a2, .int a3, .int a4] : List Value).toArray below meth c H locs 0 0 (MQ below (va_Qv (fun u : (Int32) × (Int32) × (Nat → Int64) => Q (u.1) (u.2.1) (u.2.2)) (fun u t => zAt D A [(q_t, zX1 q_t_parts (u.1) (u.2.1)), (q_a1, zX0 q_a1_gates v_a1_count), (q_t_parts, zJ cJ 64 (u.2.2)), (q_a1_gates, zI cI 64 f_a1_gates)] t) A) ([.ref q_t, .ref q_a1, .int a2, .int a3, .int a4] : List Value).toArray s 0 0 A) (F0 m 41 ls []) := by
    intro x4 v_t_states v_t_exponent f_t_parts H locs ls hP hD hS hl hw
    unfold wpX1_run_41 at hw
    refine lv_iload hx hb dX1_run_41 (lv_at hl 2 rfl) ?_
    refine lv_aload_n hx hb dX1_run_43 rfl (lv_at hl 1 rfl) ?_
    refine lv_iconst (v := 1) hx hb dX1_run_44 (by decide) ?_
    refine z_ri (va_runV (As := [.int 1]) (rest := [.int x4]) ⟨hx, hb, hml, hown, hts⟩ (zkX0_countKind l D cI cJ cC q_a1 q_a1_gates 1 v_a1_count f_a1_gates hw) (cwV 1 hts (z_gV wm_176 wm_37 wm_38 wm_15 wm_27) rfl rfl rfl (by decide +kernel) ⟨Nat.le_of_ble_eq_true rfl, Nat.le_of_ble_eq_true rfl⟩) (z_pvR hK hP [1, 3] rfl 1 0 rfl rfl) rfl rfl hl.1 rfl (lv_room (Nat.le_of_ble_eq_true rfl)) dX1_run_45 ⟨Nat.zero_le _, Nat.zero_le _⟩) (fun r3 hw => ?_)
    refine lv_isub hx hb dX1_run_48 ?_
    refine lv_istore (lv' := [(5, .int (x4 - r3)), (0, .ref q_t), (1, .ref q_a1), (4, .int x4)]) hx hb dX1_run_49 hl (by decide) rfl (fun ls hl => ?_)
    obtain ⟨n_51, hw⟩ := hw
    exact L_51 n_51 (x4 - r3) v_t_states v_t_exponent f_t_parts _ _ _ hP hD hS (lv_sub hl [1, 2, 0] rfl) hw
  refine lv_aload_n hx hb dX1_run_0 rfl (lv_at hl 0 rfl) ?_
  refine va_get (D := D) (ci := 1) (v := .ref q_t_parts) (C := RX1) (T := TX1) (N := 3) hx hb hts hw_2 hown hK hP 0 rfl rfl 0 (by decide) hw_1 (fun _ h9 => h9) rfl dX1_run_1 ?_
  refine lv_lconst (v := 0) hx hb dX1_run_4 (by decide) ?_
  refine z_wv (wc := [(q_t_parts, zJ cJ 64 f_t_parts)]) (wr := [(q_t, zX1 q_t_parts v_t_states v_t_exponent), (q_a1, zX0 q_a1_gates v_a1_count), (q_a1_gates, zI cI 64 f_a1_gates)]) (W1 := fun u : (Nat → Int64) => [(q_t_parts, zJ cJ 64 u)]) (va_runS (As := [.ref q_t_parts, .long 0]) (rest := []) ⟨hx, hb, hml, hown, hts⟩ (zkJ7_fill_d0a16 l D cI cJ cC q_t_parts _ 0 f_t_parts hw) (va_cwS 2 hts (z_gS wm_173 wm_174 wm_175 wm_127) rfl rfl rfl (by decide +kernel) ⟨Nat.le_of_ble_eq_true rfl, Nat.le_of_ble_eq_true rfl⟩) (z_psW hK hP hD [2] rfl (by decide) rfl) rfl rfl hl.1 rfl (lv_room (Nat.le_of_ble_eq_true rfl)) dX1_run_5 ⟨Nat.zero_le _, Nat.zero_le _⟩) hP hD hS hA [2] [0, 1, 3] rfl rfl (by decide) (by decide) (fun u9 H locs hw hP hD hS => ?_)
  obtain ⟨u1, rfl⟩ : ∃ z, z = u9 := ⟨_, rfl⟩
  have hP : va_P D vwCl [(q_t, zX1 q_t_parts v_t_states v_t_exponent), (q_a1, zX0 q_a1_gates v_a1_count), (q_a1_gates, zI cI 64 f_a1_gates), (q_t_parts, zJ cJ 64 u1)] H := hP
  have hD : va_D A [(q_t, zX1 q_t_parts v_t_states v_t_exponent), (q_a1, zX0 q_a1_gates v_a1_count), (q_a1_gates, zI cI 64 f_a1_gates), (q_t_parts, zJ cJ 64 u1)] := hD
  try dsimp only at hw
  refine lv_aload_n hx hb dX1_run_8 rfl (lv_at hl 0 rfl) ?_
  refine lv_iconst (v := 1) hx hb dX1_run_9 (by decide) ?_
  refine lv_iload_n hx hb dX1_run_10 rfl (lv_at hl 3 rfl) ?_
  refine lv_ishl hx hb dX1_run_11 ?_
  refine va_put (D := D) (ci := 1) (v := .int ((1 : Int32) <<< (a3 &&& 31))) (ty := .int) (C := RX1) (T := TX1) (N := 3) hx hb hts hw_2 tyX1 tyX1_ok nmX1 hown hK hP hD hS 0 rfl rfl 1 (by decide) hw_3 (fun _ h9 => h9) rfl (by decide +kernel) rfl rfl (Nat.le_of_ble_eq_true rfl) dX1_run_12 (fun H locs hP hD hS => ?_)
  have hP : va_P D vwCl [(q_t, zX1 q_t_parts ((1 : Int32) <<< (a3 &&& 31)) v_t_exponent), (q_a1, zX0 q_a1_gates v_a1_count), (q_a1_gates, zI cI 64 f_a1_gates), (q_t_parts, zJ cJ 64 u1)] H := hP
  have hD : va_D A [(q_t, zX1 q_t_parts ((1 : Int32) <<< (a3 &&& 31)) v_t_exponent), (q_a1, zX0 q_a1_gates v_a1_count), (q_a1_gates, zI cI 64 f_a1_gates), (q_t_parts, zJ cJ 64 u1)] := hD
  refine lv_aload_n hx hb dX1_run_15 rfl (lv_at hl 0 rfl) ?_
  refine lv_iconst (v := 0) hx hb dX1_run_16 (by decide) ?_
  refine va_put (D := D) (ci := 1) (v := .int 0) (ty := .int) (C := RX1) (T := TX1) (N := 3) hx hb hts hw_2 tyX1 tyX1_ok nmX1 hown hK hP hD hS 0 rfl rfl 2 (by decide) hw_4 (fun _ h9 => h9) rfl (by decide +kernel) rfl rfl (Nat.le_of_ble_eq_true rfl) dX1_run_17 (fun H locs hP hD hS => ?_)
  have hP : va_P D vwCl [(q_t, zX1 q_t_parts ((1 : Int32) <<< (a3 &&& 31)) 0), (q_a1, zX0 q_a1_gates v_a1_count), (q_a1_gates, zI cI 64 f_a1_gates), (q_t_parts, zJ cJ 64 u1)] H := hP
  have hD : va_D A [(q_t, zX1 q_t_parts ((1 : Int32) <<< (a3 &&& 31)) 0), (q_a1, zX0 q_a1_gates v_a1_count), (q_a1_gates, zI cI 64 f_a1_gates), (q_t_parts, zJ cJ 64 u1)] := hD
  refine lv_iload_n hx hb dX1_run_20 rfl (lv_at hl 2 rfl) ?_
  refine lv_if_lt (tgt := 41) hx hb dX1_run_21 (by decide) (fun c2 => ?_) (fun c2 => ?_)
  · have hw := hw.1 c2
    exact J_41 a4 ((1 : Int32) <<< (a3 &&& 31)) 0 u1 _ _ _ (hP.sub [0, 1, 3, 2] rfl) (hD.sub [0, 1, 3, 2] (by decide) rfl) hS (lv_sub hl [0, 1, 4] rfl) hw
  · have hw := hw.2 c2
    refine lv_iload_n hx hb dX1_run_24 rfl (lv_at hl 2 rfl) ?_
    refine lv_aload_n hx hb dX1_run_25 rfl (lv_at hl 0 rfl) ?_
    refine va_get (D := D) (ci := 1) (v := .int ((1 : Int32) <<< (a3 &&& 31))) (C := RX1) (T := TX1) (N := 3) hx hb hts hw_2 hown hK hP 0 rfl rfl 1 (by decide) hw_3 (fun _ h9 => h9) rfl dX1_run_26 ?_
    refine lv_icmp_ge (tgt := 41) hx hb dX1_run_29 (by decide) (fun c11 => ?_) (fun c11 => ?_)
    · have hw := hw.1 c11
      exact J_41 a4 ((1 : Int32) <<< (a3 &&& 31)) 0 u1 _ _ _ (hP.sub [0, 1, 3, 2] rfl) (hD.sub [0, 1, 3, 2] (by decide) rfl) hS (lv_sub hl [0, 1, 4] rfl) hw
    · have hw := hw.2 c11
      refine lv_aload_n hx hb dX1_run_32 rfl (lv_at hl 0 rfl) ?_
      refine va_get (D := D) (ci := 1) (v := .ref q_t_parts) (C := RX1) (T := TX1) (N := 3) hx hb hts hw_2 hown hK hP 0 rfl rfl 0 (by decide) hw_1 (fun _ h9 => h9) rfl dX1_run_33 ?_
      refine lv_iconst (v := 4) hx hb dX1_run_36 (by decide) ?_
      refine lv_iload_n hx hb dX1_run_37 rfl (lv_at hl 2 rfl) ?_
      refine lv_imul hx hb dX1_run_38 ?_
      refine lv_lconst (v := 1) hx hb dX1_run_39 (by decide) ?_
      obtain ⟨h12, hw⟩ := hw
      refine va_last hx hb hK hP hD hS 3 1 rfl rfl h12 dX1_run_40 (fun H locs hP hD hS => ?_)
      have hP : va_P D vwCl [(q_t, zX1 q_t_parts ((1 : Int32) <<< (a3 &&& 31)) 0), (q_a1, zX0 q_a1_gates v_a1_count), (q_a1_gates, zI cI 64 f_a1_gates), (q_t_parts, zJ cJ 64 (vp_updL u1 (4 * a2).toNatClampNeg 1))] H := hP
      have hD : va_D A [(q_t, zX1 q_t_parts ((1 : Int32) <<< (a3 &&& 31)) 0), (q_a1, zX0 q_a1_gates v_a1_count), (q_a1_gates, zI cI 64 f_a1_gates), (q_t_parts, zJ cJ 64 (vp_updL u1 (4 * a2).toNatClampNeg 1))] := hD
      exact J_41 a4 ((1 : Int32) <<< (a3 &&& 31)) 0 (vp_updL u1 (4 * a2).toNatClampNeg 1) _ _ _ (hP.sub [0, 1, 3, 2] rfl) (hD.sub [0, 1, 3, 2] (by decide) rfl) hS (lv_sub hl [0, 1, 4] rfl) hw

def wpX1_canBeDivided_63 (Q : Int32 → Prop)  (v_t_states : Int32) (f_t_parts : Nat → Int64) (x1 : Int64) : Prop := (((lg_cmp (x1 &&& 1) 0) = 0 → Q 1) ∧ (¬ (lg_cmp (x1 &&& 1) 0) = 0 → Q 0))
def wpX1_canBeDivided_4b (Q : Int32 → Prop)  (R_4 : (Int64) → (Int32) → Prop) (v_t_states : Int32) (f_t_parts : Nat → Int64) (x1 : Int64) (x3 : Int32) : Prop := ((v_t_states ≤ x3 → wpX1_canBeDivided_63 Q  v_t_states f_t_parts x1) ∧ (¬ v_t_states ≤ x3 → vp_in (4 * x3) 64 ∧ vp_in ((4 * x3) + 2) 64 ∧ vp_in ((4 * x3) + 1) 64 ∧ vp_in ((4 * x3) + 3) 64 ∧ ∀ x1_7 : Int64, x1_7 = (x1 ||| (((f_t_parts (4 * x3).toNatClampNeg) ^^^ (f_t_parts ((4 * x3) + 2).toNatClampNeg)) ||| ((f_t_parts ((4 * x3) + 1).toNatClampNeg) ^^^ (f_t_parts ((4 * x3) + 3).toNatClampNeg)))) → R_4 x1_7 (x3 + 1)))
def wpX1_canBeDivided_4 (Q : Int32 → Prop)  (v_t_states : Int32) (f_t_parts : Nat → Int64) : Nat → (Int64) → (Int32) → Prop
  | 0 => fun _ _ => False
  | n + 1 => fun x1 x3 => wpX1_canBeDivided_4b Q  (wpX1_canBeDivided_4 Q  v_t_states f_t_parts n) v_t_states f_t_parts x1 x3
def wpX1_canBeDivided (Q : Int32 → Prop)  (v_t_states : Int32) (f_t_parts : Nat → Int64)  : Prop := ∃ n : Nat, wpX1_canBeDivided_4 Q  v_t_states f_t_parts n 0 0
abbrev zrX1_canBeDivided : Room := { frames := 0, cells := 0, slots := 0, locals := 0 }
set_option maxHeartbeats 4000000 in
set_option maxRecDepth 100000 in
theorem zkX1_canBeDivided (l : Launch) (D : va_G) (cI cJ cC : ClassId) (q_t q_t_parts : Nat)  (v_t_states : Int32) (v_t_exponent : Int32) (f_t_parts : Nat → Int64) {Q : Int32 → Prop} (hw : wpX1_canBeDivided Q v_t_states f_t_parts) : Met l yX1_canBeDivided wmX1_canBeDivided zrX1_canBeDivided (zPreR D (zT cI cJ cC) [(q_t, zX1 q_t_parts v_t_states v_t_exponent), (q_t_parts, zJ cJ 64 f_t_parts)] [.ref q_t]) (vp_Si (fun r => Q r)) 0 0 (fun _ => False) := by
  refine Met.ofW (cc := cX1_canBeDivided) (maxL := 5) (ret := (some .boolean)) (by decide) rfl ?_
  intro p e s m args below meth c s₁ B hml hv
  obtain ⟨rfl, hP, hK⟩ := hv
  have hx := B.exec
  have hb := B.bytes
  have hr := B.returns
  have hts := atoms_spec (ws := wmX1_canBeDivided) B.pre
  have hown : s.vm.findClass RX1 = some m.cls := findClass_of_methodNamed B.named
  have hlocks := B.notSynchronized
  have hw_1 := hts _ (z_in wm_123)
  have hw_2 : ∀ w ∈ u_ws RX1 TX1 3, w ∈ wmX1_canBeDivided := fun w h => z_in (wi_wsX10 w h)
  have hw_3 := hts _ (z_in wm_122)
  have hl := lv_entry ([.ref q_t]) (n := 5) (Nat.le_of_ble_eq_true rfl)
  rw [lg_entry_eq]
  generalize (lg_sl ([.ref q_t]) ++ List.replicate (5 - (lg_sl ([.ref q_t])).length) Slot.unset).toArray = ls at hl ⊢
  have hl : lv_has ls 5 [(0, .ref q_t)] := hl
  have J_63 : ∀ (x1 : Int64) (ls : Array Slot), lv_has ls 5 [(1, .long x1)] → wpX1_canBeDivided_63 Q  v_t_states f_t_parts x1 → W p l e (headSpec wmX1_canBeDivided zrX1_canBeDivided).room s m ([.ref q_t] : List Value).toArray below meth c s.heap [] 0 0 (MQ below (vp_Si (fun r => Q r)) ([.ref q_t] : List Value).toArray s 0 0 (fun _ => False)) (F0 m 63 ls []) := by
    intro x1 ls hl hw
    unfold wpX1_canBeDivided_63 at hw
    refine lv_lload_n hx hb dX1_canBeDivided_63 rfl (lv_at hl 0 rfl) ?_
    refine lv_lconst (v := 1) hx hb dX1_canBeDivided_64 (by decide) ?_
    refine lv_land hx hb dX1_canBeDivided_65 ?_
    refine lv_lconst (v := 0) hx hb dX1_canBeDivided_66 (by decide) ?_
    refine W.lcmp hx hb dX1_canBeDivided_67 ?_
    refine lv_if_ne (tgt := 75) hx hb dX1_canBeDivided_68 (by decide) (fun c2 => ?_) (fun c2 => ?_)
    · have hw := hw.2 c2
      refine lv_iconst (v := 0) hx hb dX1_canBeDivided_75 (by decide) ?_
      exact W.zret (v := 0) hx hb hr (by decide) (fun t ht hW => ⟨_, rfl, hw, ht⟩) (fun _ h => by cases h) dX1_canBeDivided_76
    · have hw := hw.1 c2
      refine lv_iconst (v := 1) hx hb dX1_canBeDivided_71 (by decide) ?_
      refine lv_goto (tgt := 76) hx hb dX1_canBeDivided_72 (by decide) ?_
      exact W.zret (v := 1) hx hb hr (by decide) (fun t ht hW => ⟨_, rfl, hw, ht⟩) (fun _ h => by cases h) dX1_canBeDivided_76
  have L_4 : ∀ (n : Nat), ∀ (x1 : Int64) (x3 : Int32) (ls : Array Slot), lv_has ls 5 [(0, .ref q_t), (1, .long x1), (3, .int x3)] → wpX1_canBeDivided_4 Q  v_t_states f_t_parts n x1 x3 → W p l e (headSpec wmX1_canBeDivided zrX1_canBeDivided).room s m ([.ref q_t] : List Value).toArray below meth c s.heap [] 0 0 (MQ below (vp_Si (fun r => Q r)) ([.ref q_t] : List Value).toArray s 0 0 (fun _ => False)) (F0 m 4 ls []) := by
    intro n
    induction n with
    | zero => intro x1 x3 ls hl hw; exact False.elim hw
    | succ n_4 ih_4 =>
      intro x1 x3 ls hl hw
      have hw : wpX1_canBeDivided_4b Q  (wpX1_canBeDivided_4 Q  v_t_states f_t_parts n_4) v_t_states f_t_parts x1 x3 := hw
      refine lv_iload_n hx hb dX1_canBeDivided_4 rfl (lv_at hl 2 rfl) ?_
      refine lv_aload_n hx hb dX1_canBeDivided_5 rfl (lv_at hl 0 rfl) ?_
      refine va_get (D := D) (ci := 1) (v := .int v_t_states) (C := RX1) (T := TX1) (N := 3) hx hb hts hw_2 hown hK hP 0 rfl rfl 1 (by decide) hw_1 (fun _ h9 => h9) rfl dX1_canBeDivided_6 ?_
      refine lv_icmp_ge (tgt := 63) hx hb dX1_canBeDivided_9 (by decide) (fun c1 => ?_) (fun c1 => ?_)
      · have hw := hw.1 c1
        exact J_63 x1 _ (lv_sub hl [1] rfl) hw
      · have hw := hw.2 c1
        refine lv_iconst (v := 4) hx hb dX1_canBeDivided_12 (by decide) ?_
        refine lv_iload_n hx hb dX1_canBeDivided_13 rfl (lv_at hl 2 rfl) ?_
        refine lv_imul hx hb dX1_canBeDivided_14 ?_
        refine lv_istore (lv' := [(4, .int (4 * x3)), (0, .ref q_t), (1, .long x1), (3, .int x3)]) hx hb dX1_canBeDivided_15 hl (by decide) rfl (fun ls hl => ?_)
        refine lv_lload_n hx hb dX1_canBeDivided_17 rfl (lv_at hl 2 rfl) ?_
        refine lv_aload_n hx hb dX1_canBeDivided_18 rfl (lv_at hl 1 rfl) ?_
        refine va_get (D := D) (ci := 1) (v := .ref q_t_parts) (C := RX1) (T := TX1) (N := 3) hx hb hts hw_2 hown hK hP 0 rfl rfl 0 (by decide) hw_3 (fun _ h9 => h9) rfl dX1_canBeDivided_19 ?_
        refine lv_iload hx hb dX1_canBeDivided_22 (lv_at hl 0 rfl) ?_
        obtain ⟨h3, hw⟩ := hw
        refine va_lald hx hb hK hP 1 1 rfl rfl h3 dX1_canBeDivided_24 ?_
        refine lv_aload_n hx hb dX1_canBeDivided_25 rfl (lv_at hl 1 rfl) ?_
        refine va_get (D := D) (ci := 1) (v := .ref q_t_parts) (C := RX1) (T := TX1) (N := 3) hx hb hts hw_2 hown hK hP 0 rfl rfl 0 (by decide) hw_3 (fun _ h9 => h9) rfl dX1_canBeDivided_26 ?_
        refine lv_iload hx hb dX1_canBeDivided_29 (lv_at hl 0 rfl) ?_
        refine lv_iconst (v := 2) hx hb dX1_canBeDivided_31 (by decide) ?_
        refine lv_iadd hx hb dX1_canBeDivided_32 ?_
        obtain ⟨h4, hw⟩ := hw
        refine va_lald hx hb hK hP 1 1 rfl rfl h4 dX1_canBeDivided_33 ?_
        refine lv_lxor hx hb dX1_canBeDivided_34 ?_
        refine lv_aload_n hx hb dX1_canBeDivided_35 rfl (lv_at hl 1 rfl) ?_
        refine va_get (D := D) (ci := 1) (v := .ref q_t_parts) (C := RX1) (T := TX1) (N := 3) hx hb hts hw_2 hown hK hP 0 rfl rfl 0 (by decide) hw_3 (fun _ h9 => h9) rfl dX1_canBeDivided_36 ?_
        refine lv_iload hx hb dX1_canBeDivided_39 (lv_at hl 0 rfl) ?_
        refine lv_iconst (v := 1) hx hb dX1_canBeDivided_41 (by decide) ?_
        refine lv_iadd hx hb dX1_canBeDivided_42 ?_
        obtain ⟨h5, hw⟩ := hw
        refine va_lald hx hb hK hP 1 1 rfl rfl h5 dX1_canBeDivided_43 ?_
        refine lv_aload_n hx hb dX1_canBeDivided_44 rfl (lv_at hl 1 rfl) ?_
        refine va_get (D := D) (ci := 1) (v := .ref q_t_parts) (C := RX1) (T := TX1) (N := 3) hx hb hts hw_2 hown hK hP 0 rfl rfl 0 (by decide) hw_3 (fun _ h9 => h9) rfl dX1_canBeDivided_45 ?_
        refine lv_iload hx hb dX1_canBeDivided_48 (lv_at hl 0 rfl) ?_
        refine lv_iconst (v := 3) hx hb dX1_canBeDivided_50 (by decide) ?_
        refine lv_iadd hx hb dX1_canBeDivided_51 ?_
        obtain ⟨h6, hw⟩ := hw
        refine va_lald hx hb hK hP 1 1 rfl rfl h6 dX1_canBeDivided_52 ?_
        refine lv_lxor hx hb dX1_canBeDivided_53 ?_
        refine lv_lor hx hb dX1_canBeDivided_54 ?_
        refine lv_lor hx hb dX1_canBeDivided_55 ?_
        refine lv_topl (fun x1_7 ex1_7 => ?_)
        have hw := hw x1_7 ex1_7
        refine lv_lstore_n (lv' := [(1, .long x1_7), (4, .int (4 * x3)), (0, .ref q_t), (3, .int x3)]) hx hb dX1_canBeDivided_56 rfl hl (by decide) rfl (fun ls hl => ?_)
        refine lv_iinc (v := (x3 + 1)) (lv' := [(3, .int (x3 + 1)), (1, .long x1_7), (4, .int (4 * x3)), (0, .ref q_t)]) hx hb dX1_canBeDivided_57 hl (k := 3) rfl rfl (by decide) rfl (fun ls hl => ?_)
        refine lv_goto (tgt := 4) hx hb dX1_canBeDivided_60 (by decide) ?_
        exact ih_4 x1_7 (x3 + 1) _ (lv_sub hl [3, 1, 0] rfl) hw
  refine lv_lconst (v := 0) hx hb dX1_canBeDivided_0 (by decide) ?_
  refine lv_lstore_n (lv' := [(1, .long 0), (0, .ref q_t)]) hx hb dX1_canBeDivided_1 rfl hl (by decide) rfl (fun ls hl => ?_)
  refine lv_iconst (v := 0) hx hb dX1_canBeDivided_2 (by decide) ?_
  refine lv_istore_n (lv' := [(3, .int 0), (1, .long 0), (0, .ref q_t)]) hx hb dX1_canBeDivided_3 rfl hl (by decide) rfl (fun ls hl => ?_)
  obtain ⟨n_4, hw⟩ := hw
  exact L_4 n_4 0 0 _ (lv_sub hl [2, 1, 0] rfl) hw

def wpX1_divide_21b (Q : (Nat → Int64) → Prop) (R_2 : (Int32) → (Nat → Int64) → Prop) (R_21 : (Int32) → (Int32) → (Int32) → (Nat → Int64) → Prop) (v_t_states : Int32) (x1 : Int32) (x2 : Int32) (x3 : Int32) (f_t_parts : Nat → Int64) : Prop := ((4 ≤ x3 → R_2 (x1 + 1) f_t_parts) ∧ (¬ 4 ≤ x3 → vp_in (x2 + x3) 64 ∧ ∀ z_5 : Int64, z_5 = ((f_t_parts (x2 + x3).toNatClampNeg) >>> ((1 : Int32).toInt64 &&& 63)) → vp_in (x2 + x3) 64 ∧ R_21 x1 x2 (x3 + 1) (vp_updL f_t_parts (x2 + x3).toNatClampNeg z_5)))
def wpX1_divide_21 (Q : (Nat → Int64) → Prop) (R_2 : (Int32) → (Nat → Int64) → Prop) (v_t_states : Int32) : Nat → (Int32) → (Int32) → (Int32) → (Nat → Int64) → Prop
  | 0 => fun _ _ _ _ => False
  | n + 1 => fun x1 x2 x3 f_t_parts => wpX1_divide_21b Q R_2 (wpX1_divide_21 Q R_2 v_t_states n) v_t_states x1 x2 x3 f_t_parts
def wpX1_divide_2b (Q : (Nat → Int64) → Prop)  (R_2 : (Int32) → (Nat → Int64) → Prop) (v_t_states : Int32) (x1 : Int32) (f_t_parts : Nat → Int64) : Prop := ((v_t_states ≤ x1 → Q f_t_parts) ∧ (¬ v_t_states ≤ x1 → wpX1_timesRoot (fun (u2 : Nat → Int64) => ∃ n : Nat, wpX1_divide_21 Q R_2 v_t_states n x1 (4 * x1) 0 u2) (4 * x1) f_t_parts))
def wpX1_divide_2 (Q : (Nat → Int64) → Prop)  (v_t_states : Int32) : Nat → (Int32) → (Nat → Int64) → Prop
  | 0 => fun _ _ => False
  | n + 1 => fun x1 f_t_parts => wpX1_divide_2b Q  (wpX1_divide_2 Q  v_t_states n) v_t_states x1 f_t_parts
def wpX1_divide (Q : (Nat → Int64) → Prop)  (v_t_states : Int32) (f_t_parts : Nat → Int64) : Prop := ∃ n : Nat, wpX1_divide_2 Q  v_t_states n 0 f_t_parts
abbrev zrX1_divide : Room := { frames := 1, cells := 0, slots := 0, locals := 29 }
set_option maxHeartbeats 4000000 in
set_option maxRecDepth 100000 in
theorem zkX1_divide (l : Launch) (D : va_G) (cI cJ cC : ClassId) (q_t q_t_parts : Nat) (sz : Nat)  (v_t_states : Int32) (v_t_exponent : Int32) (f_t_parts : Nat → Int64) {Q : (Nat → Int64) → Prop} (hw : wpX1_divide Q v_t_states f_t_parts) : Met l yX1_divide wmX1_divide zrX1_divide (zPreW D (zT cI cJ cC) [(q_t, zX1 q_t_parts v_t_states v_t_exponent), (q_t_parts, zJ cJ 64 f_t_parts)] sz [.ref q_t]) (va_Qv (fun u : (Nat → Int64) => Q u) (fun u t => zAt D (va_A [(q_t, zX1 q_t_parts v_t_states v_t_exponent), (q_t_parts, zJ cJ 64 f_t_parts)] sz) [(q_t, zX1 q_t_parts v_t_states v_t_exponent), (q_t_parts, zJ cJ 64 u)] t) (va_A [(q_t, zX1 q_t_parts v_t_states v_t_exponent), (q_t_parts, zJ cJ 64 f_t_parts)] sz)) 0 0 (va_A [(q_t, zX1 q_t_parts v_t_states v_t_exponent), (q_t_parts, zJ cJ 64 f_t_parts)] sz) := by
  refine Met.ofW (cc := cX1_divide) (maxL := 4) (ret := none) (by decide) rfl ?_
  intro p e s m args below meth c s₁ B hml hv
  obtain ⟨rfl, hsz, hP, hK, hD0⟩ := hv
  have hx := B.exec
  have hb := B.bytes
  have hr := B.returns
  have hts := atoms_spec (ws := wmX1_divide) B.pre
  have hown : s.vm.findClass RX1 = some m.cls := findClass_of_methodNamed B.named
  have hlocks := B.notSynchronized
  subst hsz
  have hD := hD0.self (sz := s.heap.size)
  generalize hAe : va_A [(q_t, zX1 q_t_parts v_t_states v_t_exponent), (q_t_parts, zJ cJ 64 f_t_parts)] s.heap.size = A at hD ⊢
  have hA : ∀ q : Nat, s.heap.size ≤ q → A q := fun q h => by rw [← hAe]; exact Or.inr h
  have hS : va_S A s.heap s.heap [] := va_S.rf
  have hP : va_P D vwCl [(q_t, zX1 q_t_parts v_t_states v_t_exponent), (q_t_parts, zJ cJ 64 f_t_parts)] s.heap := hP
  have hw_1 := hts _ (z_in wm_123)
  have hw_2 : ∀ w ∈ u_ws RX1 TX1 3, w ∈ wmX1_divide := fun w h => z_in (wi_wsX10 w h)
  have hw_3 := hts _ (z_in wm_122)
  have hl := lv_entry ([.ref q_t]) (n := 4) (Nat.le_of_ble_eq_true rfl)
  rw [lg_entry_eq]
  generalize (lg_sl ([.ref q_t]) ++ List.replicate (4 - (lg_sl ([.ref q_t])).length) Slot.unset).toArray = ls at hl ⊢
  have hl : lv_has ls 4 [(0, .ref q_t)] := hl
  have L_2 : ∀ (n : Nat), ∀ (x1 : Int32) (f_t_parts : Nat → Int64) (H : Heap) (locs : List Loc) (ls : Array Slot), va_P D vwCl [(q_t, zX1 q_t_parts v_t_states v_t_exponent), (q_t_parts, zJ cJ 64 f_t_parts)] H → va_D A [(q_t, zX1 q_t_parts v_t_states v_t_exponent), (q_t_parts, zJ cJ 64 f_t_parts)] → va_S A s.heap H locs → lv_has ls 4 [(0, .ref q_t), (1, .int x1)] → wpX1_divide_2 Q  v_t_states n x1 f_t_parts → W p l e (headSpec wmX1_divide zrX1_divide).room s m ([.ref q_t] : List Value).toArray below meth c H locs 0 0 (MQ below (va_Qv (fun u : (Nat → Int64) => Q u) (fun u t => zAt D A [(q_t, zX1 q_t_parts v_t_states v_t_exponent), (q_t_parts, zJ cJ 64 u)] t) A) ([.ref q_t] : List Value).toArray s 0 0 A) (F0 m 2 ls []) := by
    intro n
    induction n with
    | zero => intro x1 f_t_parts H locs ls hP hD hS hl hw; exact False.elim hw
    | succ n_2 ih_2 =>
      have L_21 : ∀ (n : Nat), ∀ (x1 : Int32) (x2 : Int32) (x3 : Int32) (f_t_parts : Nat → Int64) (H : Heap) (locs : List Loc) (ls : Array Slot), va_P D vwCl [(q_t, zX1 q_t_parts v_t_states v_t_exponent), (q_t_parts, zJ cJ 64 f_t_parts)] H → va_D A [(q_t, zX1 q_t_parts v_t_states v_t_exponent), (q_t_parts, zJ cJ 64 f_t_parts)] → va_S A s.heap H locs → lv_has ls 4 [(0, .ref q_t), (1, .int x1), (2, .int x2), (3, .int x3)] → wpX1_divide_21 Q (wpX1_divide_2 Q  v_t_states n_2) v_t_states n x1 x2 x3 f_t_parts → W p l e (headSpec wmX1_divide zrX1_divide).room s m ([.ref q_t] : List Value).toArray below meth c H locs 0 0 (MQ below (va_Qv (fun u : (Nat → Int64) => Q u) (fun u t => zAt D A [(q_t, zX1 q_t_parts v_t_states v_t_exponent), (q_t_parts, zJ cJ 64 u)] t) A) ([.ref q_t] : List Value).toArray s 0 0 A) (F0 m 21 ls []) := by
        intro n
        induction n with
        | zero => intro x1 x2 x3 f_t_parts H locs ls hP hD hS hl hw; exact False.elim hw
        | succ n_21 ih_21 =>
          intro x1 x2 x3 f_t_parts H locs ls hP hD hS hl hw
          have hw : wpX1_divide_21b Q (wpX1_divide_2 Q  v_t_states n_2) (wpX1_divide_21 Q (wpX1_divide_2 Q  v_t_states n_2) v_t_states n_21) v_t_states x1 x2 x3 f_t_parts := hw
          refine lv_iload_n hx hb dX1_divide_21 rfl (lv_at hl 3 rfl) ?_
          refine lv_iconst (v := 4) hx hb dX1_divide_22 (by decide) ?_
          refine lv_icmp_ge (tgt := 44) hx hb dX1_divide_23 (by decide) (fun c3 => ?_) (fun c3 => ?_)
          · have hw := hw.1 c3
            refine lv_iinc (v := (x1 + 1)) (lv' := [(1, .int (x1 + 1)), (0, .ref q_t), (2, .int x2), (3, .int x3)]) hx hb dX1_divide_44 hl (k := 1) rfl rfl (by decide) rfl (fun ls hl => ?_)
            refine lv_goto (tgt := 2) hx hb dX1_divide_47 (by decide) ?_
            exact ih_2 (x1 + 1) f_t_parts _ _ _ hP hD hS (lv_sub hl [1, 0] rfl) hw
          · have hw := hw.2 c3
            refine lv_aload_n hx hb dX1_divide_26 rfl (lv_at hl 0 rfl) ?_
            refine va_get (D := D) (ci := 1) (v := .ref q_t_parts) (C := RX1) (T := TX1) (N := 3) hx hb hts hw_2 hown hK hP 0 rfl rfl 0 (by decide) hw_3 (fun _ h9 => h9) rfl dX1_divide_27 ?_
            refine lv_iload_n hx hb dX1_divide_30 rfl (lv_at hl 2 rfl) ?_
            refine lv_iload_n hx hb dX1_divide_31 rfl (lv_at hl 3 rfl) ?_
            refine lv_iadd hx hb dX1_divide_32 ?_
            refine lv_dup2_11 hx hb dX1_divide_33 rfl rfl ?_
            obtain ⟨h4, hw⟩ := hw
            refine va_lald hx hb hK hP 1 1 rfl rfl h4 dX1_divide_34 ?_
            refine lv_iconst (v := 1) hx hb dX1_divide_35 (by decide) ?_
            refine lv_lshr hx hb dX1_divide_36 rfl ?_
            refine lv_topl (fun z_5 ez_5 => ?_)
            have hw := hw z_5 ez_5
            obtain ⟨h6, hw⟩ := hw
            refine va_last hx hb hK hP hD hS 1 1 rfl rfl h6 dX1_divide_37 (fun H locs hP hD hS => ?_)
            have hP : va_P D vwCl [(q_t, zX1 q_t_parts v_t_states v_t_exponent), (q_t_parts, zJ cJ 64 (vp_updL f_t_parts (x2 + x3).toNatClampNeg z_5))] H := hP
            have hD : va_D A [(q_t, zX1 q_t_parts v_t_states v_t_exponent), (q_t_parts, zJ cJ 64 (vp_updL f_t_parts (x2 + x3).toNatClampNeg z_5))] := hD
            refine lv_iinc (v := (x3 + 1)) (lv' := [(3, .int (x3 + 1)), (0, .ref q_t), (1, .int x1), (2, .int x2)]) hx hb dX1_divide_38 hl (k := 3) rfl rfl (by decide) rfl (fun ls hl => ?_)
            refine lv_goto (tgt := 21) hx hb dX1_divide_41 (by decide) ?_
            exact ih_21 x1 x2 (x3 + 1) (vp_updL f_t_parts (x2 + x3).toNatClampNeg z_5) _ _ _ hP hD hS (lv_sub hl [1, 2, 3, 0] rfl) hw
      intro x1 f_t_parts H locs ls hP hD hS hl hw
      have hw : wpX1_divide_2b Q  (wpX1_divide_2 Q  v_t_states n_2) v_t_states x1 f_t_parts := hw
      refine lv_iload_n hx hb dX1_divide_2 rfl (lv_at hl 1 rfl) ?_
      refine lv_aload_n hx hb dX1_divide_3 rfl (lv_at hl 0 rfl) ?_
      refine va_get (D := D) (ci := 1) (v := .int v_t_states) (C := RX1) (T := TX1) (N := 3) hx hb hts hw_2 hown hK hP 0 rfl rfl 1 (by decide) hw_1 (fun _ h9 => h9) rfl dX1_divide_4 ?_
      refine lv_icmp_ge (tgt := 50) hx hb dX1_divide_7 (by decide) (fun c1 => ?_) (fun c1 => ?_)
      · have hw := hw.1 c1
        exact W.vret hx hb hr (fun t ht hW => ⟨⟨(f_t_parts), rfl, hw, ⟨by rw [ht]; exact hP, hD⟩⟩, hS.F ht⟩) hS.2.2 dX1_divide_50
      · have hw := hw.2 c1
        refine lv_iconst (v := 4) hx hb dX1_divide_10 (by decide) ?_
        refine lv_iload_n hx hb dX1_divide_11 rfl (lv_at hl 1 rfl) ?_
        refine lv_imul hx hb dX1_divide_12 ?_
        refine lv_istore_n (lv' := [(2, .int (4 * x1)), (0, .ref q_t), (1, .int x1)]) hx hb dX1_divide_13 rfl hl (by decide) rfl (fun ls hl => ?_)
        refine lv_aload_n hx hb dX1_divide_14 rfl (lv_at hl 1 rfl) ?_
        refine lv_iload_n hx hb dX1_divide_15 rfl (lv_at hl 0 rfl) ?_
        refine z_wv (wc := [(q_t, zX1 q_t_parts v_t_states v_t_exponent), (q_t_parts, zJ cJ 64 f_t_parts)]) (wr := []) (W1 := fun u : (Nat → Int64) => [(q_t, zX1 q_t_parts v_t_states v_t_exponent), (q_t_parts, zJ cJ 64 u)]) (va_runV (As := [.int (4 * x1)]) (rest := []) ⟨hx, hb, hml, hown, hts⟩ (zkX1_timesRoot l D cI cJ cC q_t q_t_parts _ (4 * x1) v_t_states v_t_exponent f_t_parts hw) (cwV 1 hts (z_gV wm_130 wm_131 wm_132 wm_133 wm_128) rfl rfl rfl (by decide +kernel) ⟨Nat.le_of_ble_eq_true rfl, Nat.le_of_ble_eq_true rfl⟩) (z_pvW hK hP hD [0, 1] rfl (by decide) rfl 0 1 rfl rfl) rfl rfl hl.1 rfl (lv_room (Nat.le_of_ble_eq_true rfl)) dX1_divide_16 ⟨Nat.zero_le _, Nat.zero_le _⟩) hP hD hS hA [0, 1] [] rfl rfl (by decide) (by decide) (fun u9 H locs hw hP hD hS => ?_)
        obtain ⟨u2, rfl⟩ : ∃ z, z = u9 := ⟨_, rfl⟩
        have hP : va_P D vwCl [(q_t, zX1 q_t_parts v_t_states v_t_exponent), (q_t_parts, zJ cJ 64 u2)] H := hP
        have hD : va_D A [(q_t, zX1 q_t_parts v_t_states v_t_exponent), (q_t_parts, zJ cJ 64 u2)] := hD
        try dsimp only at hw
        refine lv_iconst (v := 0) hx hb dX1_divide_19 (by decide) ?_
        refine lv_istore_n (lv' := [(3, .int 0), (2, .int (4 * x1)), (0, .ref q_t), (1, .int x1)]) hx hb dX1_divide_20 rfl hl (by decide) rfl (fun ls hl => ?_)
        obtain ⟨n_21, hw⟩ := hw
        exact L_21 n_21 x1 (4 * x1) 0 u2 _ _ _ hP hD hS (lv_sub hl [2, 3, 1, 0] rfl) hw
  refine lv_iconst (v := 0) hx hb dX1_divide_0 (by decide) ?_
  refine lv_istore_n (lv' := [(1, .int 0), (0, .ref q_t)]) hx hb dX1_divide_1 rfl hl (by decide) rfl (fun ls hl => ?_)
  obtain ⟨n_2, hw⟩ := hw
  exact L_2 n_2 0 f_t_parts _ _ _ hP hD hS (lv_sub hl [1, 0] rfl) hw

def wpX1_lower_0b (Q : (Int32) → (Nat → Int64) → Prop)  (R_0 : (Int32) → (Nat → Int64) → Prop) (v_t_states : Int32) (v_t_exponent : Int32) (f_t_parts : Nat → Int64) : Prop := ((v_t_exponent ≤ 0 → Q v_t_exponent f_t_parts) ∧ (¬ v_t_exponent ≤ 0 → wpX1_canBeDivided (fun r6 : Int32 => ((r6 = 0 → Q v_t_exponent f_t_parts) ∧ (¬ r6 = 0 → wpX1_divide (fun (u8 : Nat → Int64) => R_0 (v_t_exponent - 1) u8) v_t_states f_t_parts))) v_t_states f_t_parts))
def wpX1_lower_0 (Q : (Int32) → (Nat → Int64) → Prop)  (v_t_states : Int32) : Nat → (Int32) → (Nat → Int64) → Prop
  | 0 => fun _ _ => False
  | n + 1 => fun v_t_exponent f_t_parts => wpX1_lower_0b Q  (wpX1_lower_0 Q  v_t_states n) v_t_states v_t_exponent f_t_parts
def wpX1_lower (Q : (Int32) → (Nat → Int64) → Prop)  (v_t_states : Int32) (v_t_exponent : Int32) (f_t_parts : Nat → Int64) : Prop := ((v_t_exponent ≤ 0 → Q v_t_exponent f_t_parts) ∧ (¬ v_t_exponent ≤ 0 → wpX1_canBeDivided (fun r2 : Int32 => ((r2 = 0 → Q v_t_exponent f_t_parts) ∧ (¬ r2 = 0 → wpX1_divide (fun (u4 : Nat → Int64) => ∃ n : Nat, wpX1_lower_0 Q  v_t_states n (v_t_exponent - 1) u4) v_t_states f_t_parts))) v_t_states f_t_parts))
abbrev zrX1_lower : Room := { frames := 2, cells := 0, slots := 0, locals := 52 }
set_option maxHeartbeats 4000000 in
set_option maxRecDepth 100000 in
theorem zkX1_lower (l : Launch) (D : va_G) (cI cJ cC : ClassId) (q_t q_t_parts : Nat) (sz : Nat)  (v_t_states : Int32) (v_t_exponent : Int32) (f_t_parts : Nat → Int64) {Q : (Int32) → (Nat → Int64) → Prop} (hw : wpX1_lower Q v_t_states v_t_exponent f_t_parts) : Met l yX1_lower wmX1_lower zrX1_lower (zPreW D (zT cI cJ cC) [(q_t, zX1 q_t_parts v_t_states v_t_exponent), (q_t_parts, zJ cJ 64 f_t_parts)] sz [.ref q_t]) (va_Qv (fun u : (Int32) × (Nat → Int64) => Q (u.1) (u.2)) (fun u t => zAt D (va_A [(q_t, zX1 q_t_parts v_t_states v_t_exponent), (q_t_parts, zJ cJ 64 f_t_parts)] sz) [(q_t, zX1 q_t_parts v_t_states (u.1)), (q_t_parts, zJ cJ 64 (u.2))] t) (va_A [(q_t, zX1 q_t_parts v_t_states v_t_exponent), (q_t_parts, zJ cJ 64 f_t_parts)] sz)) 0 0 (va_A [(q_t, zX1 q_t_parts v_t_states v_t_exponent), (q_t_parts, zJ cJ 64 f_t_parts)] sz) := by
  refine Met.ofW (cc := cX1_lower) (maxL := 1) (ret := none) (by decide) rfl ?_
  intro p e s m args below meth c s₁ B hml hv
  obtain ⟨rfl, hsz, hP, hK, hD0⟩ := hv
  have hx := B.exec
  have hb := B.bytes
  have hr := B.returns
  have hts := atoms_spec (ws := wmX1_lower) B.pre
  have hown : s.vm.findClass RX1 = some m.cls := findClass_of_methodNamed B.named
  have hlocks := B.notSynchronized
  subst hsz
  have hD := hD0.self (sz := s.heap.size)
  generalize hAe : va_A [(q_t, zX1 q_t_parts v_t_states v_t_exponent), (q_t_parts, zJ cJ 64 f_t_parts)] s.heap.size = A at hD ⊢
  have hA : ∀ q : Nat, s.heap.size ≤ q → A q := fun q h => by rw [← hAe]; exact Or.inr h
  have hS : va_S A s.heap s.heap [] := va_S.rf
  have hP : va_P D vwCl [(q_t, zX1 q_t_parts v_t_states v_t_exponent), (q_t_parts, zJ cJ 64 f_t_parts)] s.heap := hP
  have hw_1 := hts _ (z_in wm_124)
  have hw_2 : ∀ w ∈ u_ws RX1 TX1 3, w ∈ wmX1_lower := fun w h => z_in (wi_wsX10 w h)
  have hl := lv_entry ([.ref q_t]) (n := 1) (Nat.le_of_ble_eq_true rfl)
  rw [lg_entry_eq]
  generalize (lg_sl ([.ref q_t]) ++ List.replicate (1 - (lg_sl ([.ref q_t])).length) Slot.unset).toArray = ls at hl ⊢
  have hl : lv_has ls 1 [(0, .ref q_t)] := hl
  have L_0 : ∀ (n : Nat), ∀ (v_t_exponent : Int32) (f_t_parts : Nat → Int64) (H : Heap) (locs : List Loc) (ls : Array Slot), va_P D vwCl [(q_t, zX1 q_t_parts v_t_states v_t_exponent), (q_t_parts, zJ cJ 64 f_t_parts)] H → va_D A [(q_t, zX1 q_t_parts v_t_states v_t_exponent), (q_t_parts, zJ cJ 64 f_t_parts)] → va_S A s.heap H locs → lv_has ls 1 [(0, .ref q_t)] → wpX1_lower_0 Q  v_t_states n v_t_exponent f_t_parts → W p l e (headSpec wmX1_lower zrX1_lower).room s m ([.ref q_t] : List Value).toArray below meth c H locs 0 0 (MQ below (va_Qv (fun u : (Int32) × (Nat → Int64) => Q (u.1) (u.2)) (fun u t => zAt D A [(q_t, zX1 q_t_parts v_t_states (u.1)), (q_t_parts, zJ cJ 64 (u.2))] t) A) ([.ref q_t] : List Value).toArray s 0 0 A) (F0 m 0 ls []) := by
    intro n
    induction n with
    | zero => intro v_t_exponent f_t_parts H locs ls hP hD hS hl hw; exact False.elim hw
    | succ n_0 ih_0 =>
      intro v_t_exponent f_t_parts H locs ls hP hD hS hl hw
      have hw : wpX1_lower_0b Q  (wpX1_lower_0 Q  v_t_states n_0) v_t_states v_t_exponent f_t_parts := hw
      refine lv_aload_n hx hb dX1_lower_0 rfl (lv_at hl 0 rfl) ?_
      refine va_get (D := D) (ci := 1) (v := .int v_t_exponent) (C := RX1) (T := TX1) (N := 3) hx hb hts hw_2 hown hK hP 0 rfl rfl 2 (by decide) hw_1 (fun _ h9 => h9) rfl dX1_lower_1 ?_
      refine lv_if_le (tgt := 31) hx hb dX1_lower_4 (by decide) (fun c5 => ?_) (fun c5 => ?_)
      · have hw := hw.1 c5
        exact W.vret hx hb hr (fun t ht hW => ⟨⟨(v_t_exponent, f_t_parts), rfl, hw, ⟨by rw [ht]; exact hP, hD⟩⟩, hS.F ht⟩) hS.2.2 dX1_lower_31
      · have hw := hw.2 c5
        refine lv_aload_n hx hb dX1_lower_7 rfl (lv_at hl 0 rfl) ?_
        refine z_ri (va_runV (As := []) (rest := []) ⟨hx, hb, hml, hown, hts⟩ (zkX1_canBeDivided l D cI cJ cC q_t q_t_parts  v_t_states v_t_exponent f_t_parts hw) (cwV 0 hts (z_gV wm_191 wm_192 wm_193 wm_133 wm_188) rfl rfl rfl (by decide +kernel) ⟨Nat.le_of_ble_eq_true rfl, Nat.le_of_ble_eq_true rfl⟩) (z_pvR hK hP [0, 1] rfl 0 1 rfl rfl) rfl rfl hl.1 rfl (lv_room (Nat.le_of_ble_eq_true rfl)) dX1_lower_8 ⟨Nat.zero_le _, Nat.zero_le _⟩) (fun r6 hw => ?_)
        refine lv_if_eq (tgt := 31) hx hb dX1_lower_11 (by decide) (fun c7 => ?_) (fun c7 => ?_)
        · have hw := hw.1 c7
          exact W.vret hx hb hr (fun t ht hW => ⟨⟨(v_t_exponent, f_t_parts), rfl, hw, ⟨by rw [ht]; exact hP, hD⟩⟩, hS.F ht⟩) hS.2.2 dX1_lower_31
        · have hw := hw.2 c7
          refine lv_aload_n hx hb dX1_lower_14 rfl (lv_at hl 0 rfl) ?_
          refine z_wv (wc := [(q_t, zX1 q_t_parts v_t_states v_t_exponent), (q_t_parts, zJ cJ 64 f_t_parts)]) (wr := []) (W1 := fun u : (Nat → Int64) => [(q_t, zX1 q_t_parts v_t_states v_t_exponent), (q_t_parts, zJ cJ 64 u)]) (va_runV (As := []) (rest := []) ⟨hx, hb, hml, hown, hts⟩ (zkX1_divide l D cI cJ cC q_t q_t_parts _  v_t_states v_t_exponent f_t_parts hw) (cwV 0 hts (z_gV wm_194 wm_195 wm_196 wm_133 wm_189) rfl rfl rfl (by decide +kernel) ⟨Nat.le_of_ble_eq_true rfl, Nat.le_of_ble_eq_true rfl⟩) (z_pvW hK hP hD [0, 1] rfl (by decide) rfl 0 1 rfl rfl) rfl rfl hl.1 rfl (lv_room (Nat.le_of_ble_eq_true rfl)) dX1_lower_15 ⟨Nat.zero_le _, Nat.zero_le _⟩) hP hD hS hA [0, 1] [] rfl rfl (by decide) (by decide) (fun u9 H locs hw hP hD hS => ?_)
          obtain ⟨u8, rfl⟩ : ∃ z, z = u9 := ⟨_, rfl⟩
          have hP : va_P D vwCl [(q_t, zX1 q_t_parts v_t_states v_t_exponent), (q_t_parts, zJ cJ 64 u8)] H := hP
          have hD : va_D A [(q_t, zX1 q_t_parts v_t_states v_t_exponent), (q_t_parts, zJ cJ 64 u8)] := hD
          try dsimp only at hw
          refine lv_aload_n hx hb dX1_lower_18 rfl (lv_at hl 0 rfl) ?_
          refine lv_dup hx hb dX1_lower_19 rfl ?_
          refine va_get (D := D) (ci := 1) (v := .int v_t_exponent) (C := RX1) (T := TX1) (N := 3) hx hb hts hw_2 hown hK hP 0 rfl rfl 2 (by decide) hw_1 (fun _ h9 => h9) rfl dX1_lower_20 ?_
          refine lv_iconst (v := 1) hx hb dX1_lower_23 (by decide) ?_
          refine lv_isub hx hb dX1_lower_24 ?_
          refine va_put (D := D) (ci := 1) (v := .int (v_t_exponent - 1)) (ty := .int) (C := RX1) (T := TX1) (N := 3) hx hb hts hw_2 tyX1 tyX1_ok nmX1 hown hK hP hD hS 0 rfl rfl 2 (by decide) hw_1 (fun _ h9 => h9) rfl (by decide +kernel) rfl rfl (Nat.le_of_ble_eq_true rfl) dX1_lower_25 (fun H locs hP hD hS => ?_)
          have hP : va_P D vwCl [(q_t, zX1 q_t_parts v_t_states (v_t_exponent - 1)), (q_t_parts, zJ cJ 64 u8)] H := hP
          have hD : va_D A [(q_t, zX1 q_t_parts v_t_states (v_t_exponent - 1)), (q_t_parts, zJ cJ 64 u8)] := hD
          refine lv_goto (tgt := 0) hx hb dX1_lower_28 (by decide) ?_
          exact ih_0 (v_t_exponent - 1) u8 _ _ _ hP hD hS hl hw
  refine lv_aload_n hx hb dX1_lower_0 rfl (lv_at hl 0 rfl) ?_
  refine va_get (D := D) (ci := 1) (v := .int v_t_exponent) (C := RX1) (T := TX1) (N := 3) hx hb hts hw_2 hown hK hP 0 rfl rfl 2 (by decide) hw_1 (fun _ h9 => h9) rfl dX1_lower_1 ?_
  refine lv_if_le (tgt := 31) hx hb dX1_lower_4 (by decide) (fun c1 => ?_) (fun c1 => ?_)
  · have hw := hw.1 c1
    exact W.vret hx hb hr (fun t ht hW => ⟨⟨(v_t_exponent, f_t_parts), rfl, hw, ⟨by rw [ht]; exact hP, hD⟩⟩, hS.F ht⟩) hS.2.2 dX1_lower_31
  · have hw := hw.2 c1
    refine lv_aload_n hx hb dX1_lower_7 rfl (lv_at hl 0 rfl) ?_
    refine z_ri (va_runV (As := []) (rest := []) ⟨hx, hb, hml, hown, hts⟩ (zkX1_canBeDivided l D cI cJ cC q_t q_t_parts  v_t_states v_t_exponent f_t_parts hw) (cwV 0 hts (z_gV wm_191 wm_192 wm_193 wm_133 wm_188) rfl rfl rfl (by decide +kernel) ⟨Nat.le_of_ble_eq_true rfl, Nat.le_of_ble_eq_true rfl⟩) (z_pvR hK hP [0, 1] rfl 0 1 rfl rfl) rfl rfl hl.1 rfl (lv_room (Nat.le_of_ble_eq_true rfl)) dX1_lower_8 ⟨Nat.zero_le _, Nat.zero_le _⟩) (fun r2 hw => ?_)
    refine lv_if_eq (tgt := 31) hx hb dX1_lower_11 (by decide) (fun c3 => ?_) (fun c3 => ?_)
    · have hw := hw.1 c3
      exact W.vret hx hb hr (fun t ht hW => ⟨⟨(v_t_exponent, f_t_parts), rfl, hw, ⟨by rw [ht]; exact hP, hD⟩⟩, hS.F ht⟩) hS.2.2 dX1_lower_31
    · have hw := hw.2 c3
      refine lv_aload_n hx hb dX1_lower_14 rfl (lv_at hl 0 rfl) ?_
      refine z_wv (wc := [(q_t, zX1 q_t_parts v_t_states v_t_exponent), (q_t_parts, zJ cJ 64 f_t_parts)]) (wr := []) (W1 := fun u : (Nat → Int64) => [(q_t, zX1 q_t_parts v_t_states v_t_exponent), (q_t_parts, zJ cJ 64 u)]) (va_runV (As := []) (rest := []) ⟨hx, hb, hml, hown, hts⟩ (zkX1_divide l D cI cJ cC q_t q_t_parts _  v_t_states v_t_exponent f_t_parts hw) (cwV 0 hts (z_gV wm_194 wm_195 wm_196 wm_133 wm_189) rfl rfl rfl (by decide +kernel) ⟨Nat.le_of_ble_eq_true rfl, Nat.le_of_ble_eq_true rfl⟩) (z_pvW hK hP hD [0, 1] rfl (by decide) rfl 0 1 rfl rfl) rfl rfl hl.1 rfl (lv_room (Nat.le_of_ble_eq_true rfl)) dX1_lower_15 ⟨Nat.zero_le _, Nat.zero_le _⟩) hP hD hS hA [0, 1] [] rfl rfl (by decide) (by decide) (fun u9 H locs hw hP hD hS => ?_)
      obtain ⟨u4, rfl⟩ : ∃ z, z = u9 := ⟨_, rfl⟩
      have hP : va_P D vwCl [(q_t, zX1 q_t_parts v_t_states v_t_exponent), (q_t_parts, zJ cJ 64 u4)] H := hP
      have hD : va_D A [(q_t, zX1 q_t_parts v_t_states v_t_exponent), (q_t_parts, zJ cJ 64 u4)] := hD
      try dsimp only at hw
      refine lv_aload_n hx hb dX1_lower_18 rfl (lv_at hl 0 rfl) ?_
      refine lv_dup hx hb dX1_lower_19 rfl ?_
      refine va_get (D := D) (ci := 1) (v := .int v_t_exponent) (C := RX1) (T := TX1) (N := 3) hx hb hts hw_2 hown hK hP 0 rfl rfl 2 (by decide) hw_1 (fun _ h9 => h9) rfl dX1_lower_20 ?_
      refine lv_iconst (v := 1) hx hb dX1_lower_23 (by decide) ?_
      refine lv_isub hx hb dX1_lower_24 ?_
      refine va_put (D := D) (ci := 1) (v := .int (v_t_exponent - 1)) (ty := .int) (C := RX1) (T := TX1) (N := 3) hx hb hts hw_2 tyX1 tyX1_ok nmX1 hown hK hP hD hS 0 rfl rfl 2 (by decide) hw_1 (fun _ h9 => h9) rfl (by decide +kernel) rfl rfl (Nat.le_of_ble_eq_true rfl) dX1_lower_25 (fun H locs hP hD hS => ?_)
      have hP : va_P D vwCl [(q_t, zX1 q_t_parts v_t_states (v_t_exponent - 1)), (q_t_parts, zJ cJ 64 u4)] H := hP
      have hD : va_D A [(q_t, zX1 q_t_parts v_t_states (v_t_exponent - 1)), (q_t_parts, zJ cJ 64 u4)] := hD
      refine lv_goto (tgt := 0) hx hb dX1_lower_28 (by decide) ?_
      obtain ⟨n_0, hw⟩ := hw
      exact L_0 n_0 (v_t_exponent - 1) u4 _ _ _ hP hD hS hl hw

def wpX1_firstDifference_12b (Q : Int32 → Prop) (R_2 : (Int32) → Prop) (R_12 : (Int32) → (Int32) → Prop) (v_t_states : Int32) (f_t_parts : Nat → Int64) (f_a1_parts : Nat → Int64) (x2 : Int32) (x3 : Int32) : Prop := ((4 ≤ x3 → R_2 (x2 + 1)) ∧ (¬ 4 ≤ x3 → wpX1_part (fun r3 : Int64 => wpX1_part (fun r4 : Int64 => (((lg_cmp r3 r4) = 0 → R_12 x2 (x3 + 1)) ∧ (¬ (lg_cmp r3 r4) = 0 → Q x2))) x2 x3 f_a1_parts) x2 x3 f_t_parts))
def wpX1_firstDifference_12 (Q : Int32 → Prop) (R_2 : (Int32) → Prop) (v_t_states : Int32) (f_t_parts : Nat → Int64) (f_a1_parts : Nat → Int64) : Nat → (Int32) → (Int32) → Prop
  | 0 => fun _ _ => False
  | n + 1 => fun x2 x3 => wpX1_firstDifference_12b Q R_2 (wpX1_firstDifference_12 Q R_2 v_t_states f_t_parts f_a1_parts n) v_t_states f_t_parts f_a1_parts x2 x3
def wpX1_firstDifference_2b (Q : Int32 → Prop)  (R_2 : (Int32) → Prop) (v_t_states : Int32) (f_t_parts : Nat → Int64) (f_a1_parts : Nat → Int64) (x2 : Int32) : Prop := ((v_t_states ≤ x2 → Q (-1)) ∧ (¬ v_t_states ≤ x2 → ∃ n : Nat, wpX1_firstDifference_12 Q R_2 v_t_states f_t_parts f_a1_parts n x2 0))
def wpX1_firstDifference_2 (Q : Int32 → Prop)  (v_t_states : Int32) (f_t_parts : Nat → Int64) (f_a1_parts : Nat → Int64) : Nat → (Int32) → Prop
  | 0 => fun _ => False
  | n + 1 => fun x2 => wpX1_firstDifference_2b Q  (wpX1_firstDifference_2 Q  v_t_states f_t_parts f_a1_parts n) v_t_states f_t_parts f_a1_parts x2
def wpX1_firstDifference (Q : Int32 → Prop)  (v_t_states : Int32) (f_t_parts : Nat → Int64) (f_a1_parts : Nat → Int64)  : Prop := ∃ n : Nat, wpX1_firstDifference_2 Q  v_t_states f_t_parts f_a1_parts n 0
abbrev zrX1_firstDifference : Room := { frames := 1, cells := 0, slots := 0, locals := 23 }
set_option maxHeartbeats 4000000 in
set_option maxRecDepth 100000 in
theorem zkX1_firstDifference (l : Launch) (D : va_G) (cI cJ cC : ClassId) (q_t q_a1 q_t_parts q_a1_parts : Nat)  (v_t_states : Int32) (v_t_exponent : Int32) (v_a1_states : Int32) (v_a1_exponent : Int32) (f_t_parts : Nat → Int64) (f_a1_parts : Nat → Int64) {Q : Int32 → Prop} (hw : wpX1_firstDifference Q v_t_states f_t_parts f_a1_parts) : Met l yX1_firstDifference wmX1_firstDifference zrX1_firstDifference (zPreR D (zT cI cJ cC) [(q_t, zX1 q_t_parts v_t_states v_t_exponent), (q_a1, zX1 q_a1_parts v_a1_states v_a1_exponent), (q_t_parts, zJ cJ 64 f_t_parts), (q_a1_parts, zJ cJ 64 f_a1_parts)] [.ref q_t, .ref q_a1]) (vp_Si (fun r => Q r)) 0 0 (fun _ => False) := by
  refine Met.ofW (cc := cX1_firstDifference) (maxL := 4) (ret := (some .int)) (by decide) rfl ?_
  intro p e s m args below meth c s₁ B hml hv
  obtain ⟨rfl, hP, hK⟩ := hv
  have hx := B.exec
  have hb := B.bytes
  have hr := B.returns
  have hts := atoms_spec (ws := wmX1_firstDifference) B.pre
  have hown : s.vm.findClass RX1 = some m.cls := findClass_of_methodNamed B.named
  have hlocks := B.notSynchronized
  have hw_1 := hts _ (z_in wm_123)
  have hw_2 : ∀ w ∈ u_ws RX1 TX1 3, w ∈ wmX1_firstDifference := fun w h => z_in (wi_wsX10 w h)
  have hl := lv_entry ([.ref q_t, .ref q_a1]) (n := 4) (Nat.le_of_ble_eq_true rfl)
  rw [lg_entry_eq]
  generalize (lg_sl ([.ref q_t, .ref q_a1]) ++ List.replicate (4 - (lg_sl ([.ref q_t, .ref q_a1])).length) Slot.unset).toArray = ls at hl ⊢
  have hl : lv_has ls 4 [(0, .ref q_t), (1, .ref q_a1)] := hl
  have L_2 : ∀ (n : Nat), ∀ (x2 : Int32) (ls : Array Slot), lv_has ls 4 [(0, .ref q_t), (1, .ref q_a1), (2, .int x2)] → wpX1_firstDifference_2 Q  v_t_states f_t_parts f_a1_parts n x2 → W p l e (headSpec wmX1_firstDifference zrX1_firstDifference).room s m ([.ref q_t, .ref q_a1] : List Value).toArray below meth c s.heap [] 0 0 (MQ below (vp_Si (fun r => Q r)) ([.ref q_t, .ref q_a1] : List Value).toArray s 0 0 (fun _ => False)) (F0 m 2 ls []) := by
    intro n
    induction n with
    | zero => intro x2 ls hl hw; exact False.elim hw
    | succ n_2 ih_2 =>
      have L_12 : ∀ (n : Nat), ∀ (x2 : Int32) (x3 : Int32) (ls : Array Slot), lv_has ls 4 [(0, .ref q_t), (1, .ref q_a1), (2, .int x2), (3, .int x3)] → wpX1_firstDifference_12 Q (wpX1_firstDifference_2 Q  v_t_states f_t_parts f_a1_parts n_2) v_t_states f_t_parts f_a1_parts n x2 x3 → W p l e (headSpec wmX1_firstDifference zrX1_firstDifference).room s m ([.ref q_t, .ref q_a1] : List Value).toArray below meth c s.heap [] 0 0 (MQ below (vp_Si (fun r => Q r)) ([.ref q_t, .ref q_a1] : List Value).toArray s 0 0 (fun _ => False)) (F0 m 12 ls []) := by
        intro n
        induction n with
        | zero => intro x2 x3 ls hl hw; exact False.elim hw
        | succ n_12 ih_12 =>
          intro x2 x3 ls hl hw
          have hw : wpX1_firstDifference_12b Q (wpX1_firstDifference_2 Q  v_t_states f_t_parts f_a1_parts n_2) (wpX1_firstDifference_12 Q (wpX1_firstDifference_2 Q  v_t_states f_t_parts f_a1_parts n_2) v_t_states f_t_parts f_a1_parts n_12) v_t_states f_t_parts f_a1_parts x2 x3 := hw
          refine lv_iload_n hx hb dX1_firstDifference_12 rfl (lv_at hl 3 rfl) ?_
          refine lv_iconst (v := 4) hx hb dX1_firstDifference_13 (by decide) ?_
          refine lv_icmp_ge (tgt := 41) hx hb dX1_firstDifference_14 (by decide) (fun c2 => ?_) (fun c2 => ?_)
          · have hw := hw.1 c2
            refine lv_iinc (v := (x2 + 1)) (lv' := [(2, .int (x2 + 1)), (0, .ref q_t), (1, .ref q_a1), (3, .int x3)]) hx hb dX1_firstDifference_41 hl (k := 2) rfl rfl (by decide) rfl (fun ls hl => ?_)
            refine lv_goto (tgt := 2) hx hb dX1_firstDifference_44 (by decide) ?_
            exact ih_2 (x2 + 1) _ (lv_sub hl [1, 2, 0] rfl) hw
          · have hw := hw.2 c2
            refine lv_aload_n hx hb dX1_firstDifference_17 rfl (lv_at hl 0 rfl) ?_
            refine lv_iload_n hx hb dX1_firstDifference_18 rfl (lv_at hl 2 rfl) ?_
            refine lv_iload_n hx hb dX1_firstDifference_19 rfl (lv_at hl 3 rfl) ?_
            refine z_rl (va_runV (As := [.int x2, .int x3]) (rest := []) ⟨hx, hb, hml, hown, hts⟩ (zkX1_part l D cI cJ cC q_t q_t_parts x2 x3 v_t_states v_t_exponent f_t_parts hw) (cwV 2 hts (z_gV wm_198 wm_199 wm_200 wm_133 wm_126) rfl rfl rfl (by decide +kernel) ⟨Nat.le_of_ble_eq_true rfl, Nat.le_of_ble_eq_true rfl⟩) (z_pvR hK hP [0, 2] rfl 0 1 rfl rfl) rfl rfl hl.1 rfl (lv_room (Nat.le_of_ble_eq_true rfl)) dX1_firstDifference_20 ⟨Nat.zero_le _, Nat.zero_le _⟩) (fun r3 hw => ?_)
            refine lv_aload_n hx hb dX1_firstDifference_23 rfl (lv_at hl 1 rfl) ?_
            refine lv_iload_n hx hb dX1_firstDifference_24 rfl (lv_at hl 2 rfl) ?_
            refine lv_iload_n hx hb dX1_firstDifference_25 rfl (lv_at hl 3 rfl) ?_
            refine z_rl (va_runV (As := [.int x2, .int x3]) (rest := [.long r3]) ⟨hx, hb, hml, hown, hts⟩ (zkX1_part l D cI cJ cC q_a1 q_a1_parts x2 x3 v_a1_states v_a1_exponent f_a1_parts hw) (cwV 2 hts (z_gV wm_198 wm_199 wm_200 wm_133 wm_126) rfl rfl rfl (by decide +kernel) ⟨Nat.le_of_ble_eq_true rfl, Nat.le_of_ble_eq_true rfl⟩) (z_pvR hK hP [1, 3] rfl 1 1 rfl rfl) rfl rfl hl.1 rfl (lv_room (Nat.le_of_ble_eq_true rfl)) dX1_firstDifference_26 ⟨Nat.zero_le _, Nat.zero_le _⟩) (fun r4 hw => ?_)
            refine W.lcmp hx hb dX1_firstDifference_29 ?_
            refine lv_if_eq (tgt := 35) hx hb dX1_firstDifference_30 (by decide) (fun c5 => ?_) (fun c5 => ?_)
            · have hw := hw.1 c5
              refine lv_iinc (v := (x3 + 1)) (lv' := [(3, .int (x3 + 1)), (0, .ref q_t), (1, .ref q_a1), (2, .int x2)]) hx hb dX1_firstDifference_35 hl (k := 3) rfl rfl (by decide) rfl (fun ls hl => ?_)
              refine lv_goto (tgt := 12) hx hb dX1_firstDifference_38 (by decide) ?_
              exact ih_12 x2 (x3 + 1) _ (lv_sub hl [1, 2, 3, 0] rfl) hw
            · have hw := hw.2 c5
              refine lv_iload_n hx hb dX1_firstDifference_33 rfl (lv_at hl 2 rfl) ?_
              exact W.iret (v := x2) hx hb hr (fun t ht hW => ⟨_, rfl, hw, ht⟩) (fun _ h => by cases h) dX1_firstDifference_34
      intro x2 ls hl hw
      have hw : wpX1_firstDifference_2b Q  (wpX1_firstDifference_2 Q  v_t_states f_t_parts f_a1_parts n_2) v_t_states f_t_parts f_a1_parts x2 := hw
      refine lv_iload_n hx hb dX1_firstDifference_2 rfl (lv_at hl 2 rfl) ?_
      refine lv_aload_n hx hb dX1_firstDifference_3 rfl (lv_at hl 0 rfl) ?_
      refine va_get (D := D) (ci := 1) (v := .int v_t_states) (C := RX1) (T := TX1) (N := 3) hx hb hts hw_2 hown hK hP 0 rfl rfl 1 (by decide) hw_1 (fun _ h9 => h9) rfl dX1_firstDifference_4 ?_
      refine lv_icmp_ge (tgt := 47) hx hb dX1_firstDifference_7 (by decide) (fun c1 => ?_) (fun c1 => ?_)
      · have hw := hw.1 c1
        refine lv_iconst (v := -1) hx hb dX1_firstDifference_47 (by decide) ?_
        exact W.iret (v := (-1)) hx hb hr (fun t ht hW => ⟨_, rfl, hw, ht⟩) (fun _ h => by cases h) dX1_firstDifference_48
      · have hw := hw.2 c1
        refine lv_iconst (v := 0) hx hb dX1_firstDifference_10 (by decide) ?_
        refine lv_istore_n (lv' := [(3, .int 0), (0, .ref q_t), (1, .ref q_a1), (2, .int x2)]) hx hb dX1_firstDifference_11 rfl hl (by decide) rfl (fun ls hl => ?_)
        obtain ⟨n_12, hw⟩ := hw
        exact L_12 n_12 x2 0 _ (lv_sub hl [1, 2, 3, 0] rfl) hw
  refine lv_iconst (v := 0) hx hb dX1_firstDifference_0 (by decide) ?_
  refine lv_istore_n (lv' := [(2, .int 0), (0, .ref q_t), (1, .ref q_a1)]) hx hb dX1_firstDifference_1 rfl hl (by decide) rfl (fun ls hl => ?_)
  obtain ⟨n_2, hw⟩ := hw
  exact L_2 n_2 0 _ (lv_sub hl [1, 2, 0] rfl) hw

def wpX1_isTurned_54 (Q : Int32 → Prop) (R_2 : (Int32) → (Int32) → Prop) (R_13 : (Int32) → (Int32) → (Int32) → Prop) (v_t_states : Int32) (f_t_parts : Nat → Int64) (f_a1_parts : Nat → Int64) (x2 : Int32) (x3 : Int32) (x4 : Int32) (y0 : Int64) : Prop := wpX1_part (fun r6 : Int64 => (((lg_cmp r6 y0) = 0 → R_13 x2 x3 (x4 + 1)) ∧ (¬ (lg_cmp r6 y0) = 0 → Q 0))) x3 x4 f_t_parts
def wpX1_isTurned_13b (Q : Int32 → Prop) (R_2 : (Int32) → (Int32) → Prop) (R_13 : (Int32) → (Int32) → (Int32) → Prop) (v_t_states : Int32) (f_t_parts : Nat → Int64) (f_a1_parts : Nat → Int64) (x2 : Int32) (x3 : Int32) (x4 : Int32) : Prop := ((4 ≤ x4 → R_2 x2 (x3 + 1)) ∧ (¬ 4 ≤ x4 → ∀ x5_3 : Int32, x5_3 = ((x4 - x2) &&& 7) → ((4 ≤ x5_3 → wpX1_part (fun r5 : Int64 => wpX1_isTurned_54 Q R_2 R_13 v_t_states f_t_parts f_a1_parts x2 x3 x4 (-r5)) x3 (x5_3 - 4) f_a1_parts) ∧ (¬ 4 ≤ x5_3 → wpX1_part (fun r8 : Int64 => wpX1_isTurned_54 Q R_2 R_13 v_t_states f_t_parts f_a1_parts x2 x3 x4 r8) x3 x5_3 f_a1_parts))))
def wpX1_isTurned_13 (Q : Int32 → Prop) (R_2 : (Int32) → (Int32) → Prop) (v_t_states : Int32) (f_t_parts : Nat → Int64) (f_a1_parts : Nat → Int64) : Nat → (Int32) → (Int32) → (Int32) → Prop
  | 0 => fun _ _ _ => False
  | n + 1 => fun x2 x3 x4 => wpX1_isTurned_13b Q R_2 (wpX1_isTurned_13 Q R_2 v_t_states f_t_parts f_a1_parts n) v_t_states f_t_parts f_a1_parts x2 x3 x4
def wpX1_isTurned_2b (Q : Int32 → Prop)  (R_2 : (Int32) → (Int32) → Prop) (v_t_states : Int32) (f_t_parts : Nat → Int64) (f_a1_parts : Nat → Int64) (x2 : Int32) (x3 : Int32) : Prop := ((v_t_states ≤ x3 → Q 1) ∧ (¬ v_t_states ≤ x3 → ∃ n : Nat, wpX1_isTurned_13 Q R_2 v_t_states f_t_parts f_a1_parts n x2 x3 0))
def wpX1_isTurned_2 (Q : Int32 → Prop)  (v_t_states : Int32) (f_t_parts : Nat → Int64) (f_a1_parts : Nat → Int64) : Nat → (Int32) → (Int32) → Prop
  | 0 => fun _ _ => False
  | n + 1 => fun x2 x3 => wpX1_isTurned_2b Q  (wpX1_isTurned_2 Q  v_t_states f_t_parts f_a1_parts n) v_t_states f_t_parts f_a1_parts x2 x3
def wpX1_isTurned (Q : Int32 → Prop) (a2 : Int32) (v_t_states : Int32) (f_t_parts : Nat → Int64) (f_a1_parts : Nat → Int64)  : Prop := ∃ n : Nat, wpX1_isTurned_2 Q  v_t_states f_t_parts f_a1_parts n a2 0
abbrev zrX1_isTurned : Room := { frames := 1, cells := 0, slots := 0, locals := 23 }
set_option maxHeartbeats 4000000 in
set_option maxRecDepth 100000 in
theorem zkX1_isTurned (l : Launch) (D : va_G) (cI cJ cC : ClassId) (q_t q_a1 q_t_parts q_a1_parts : Nat) (a2 : Int32) (v_t_states : Int32) (v_t_exponent : Int32) (v_a1_states : Int32) (v_a1_exponent : Int32) (f_t_parts : Nat → Int64) (f_a1_parts : Nat → Int64) {Q : Int32 → Prop} (hw : wpX1_isTurned Q a2 v_t_states f_t_parts f_a1_parts) : Met l yX1_isTurned wmX1_isTurned zrX1_isTurned (zPreR D (zT cI cJ cC) [(q_t, zX1 q_t_parts v_t_states v_t_exponent), (q_a1, zX1 q_a1_parts v_a1_states v_a1_exponent), (q_t_parts, zJ cJ 64 f_t_parts), (q_a1_parts, zJ cJ 64 f_a1_parts)] [.ref q_t, .ref q_a1, .int a2]) (vp_Si (fun r => Q r)) 0 0 (fun _ => False) := by
  refine Met.ofW (cc := cX1_isTurned) (maxL := 8) (ret := (some .boolean)) (by decide) rfl ?_
  intro p e s m args below meth c s₁ B hml hv
  obtain ⟨rfl, hP, hK⟩ := hv
  have hx := B.exec
  have hb := B.bytes
  have hr := B.returns
  have hts := atoms_spec (ws := wmX1_isTurned) B.pre
  have hown : s.vm.findClass RX1 = some m.cls := findClass_of_methodNamed B.named
  have hlocks := B.notSynchronized
  have hw_1 := hts _ (z_in wm_123)
  have hw_2 : ∀ w ∈ u_ws RX1 TX1 3, w ∈ wmX1_isTurned := fun w h => z_in (wi_wsX10 w h)
  have hl := lv_entry ([.ref q_t, .ref q_a1, .int a2]) (n := 8) (Nat.le_of_ble_eq_true rfl)
  rw [lg_entry_eq]
  generalize (lg_sl ([.ref q_t, .ref q_a1, .int a2]) ++ List.replicate (8 - (lg_sl ([.ref q_t, .ref q_a1, .int a2])).length) Slot.unset).toArray = ls at hl ⊢
  have hl : lv_has ls 8 [(0, .ref q_t), (1, .ref q_a1), (2, .int a2)] := hl
  have L_2 : ∀ (n : Nat), ∀ (x2 : Int32) (x3 : Int32) (ls : Array Slot), lv_has ls 8 [(0, .ref q_t), (1, .ref q_a1), (2, .int x2), (3, .int x3)] → wpX1_isTurned_2 Q  v_t_states f_t_parts f_a1_parts n x2 x3 → W p l e (headSpec wmX1_isTurned zrX1_isTurned).room s m ([.ref q_t, .ref q_a1, .int a2] : List Value).toArray below meth c s.heap [] 0 0 (MQ below (vp_Si (fun r => Q r)) ([.ref q_t, .ref q_a1, .int a2] : List Value).toArray s 0 0 (fun _ => False)) (F0 m 2 ls []) := by
    intro n
    induction n with
    | zero => intro x2 x3 ls hl hw; exact False.elim hw
    | succ n_2 ih_2 =>
      have L_13 : ∀ (n : Nat), ∀ (x2 : Int32) (x3 : Int32) (x4 : Int32) (ls : Array Slot), lv_has ls 8 [(0, .ref q_t), (1, .ref q_a1), (2, .int x2), (3, .int x3), (4, .int x4)] → wpX1_isTurned_13 Q (wpX1_isTurned_2 Q  v_t_states f_t_parts f_a1_parts n_2) v_t_states f_t_parts f_a1_parts n x2 x3 x4 → W p l e (headSpec wmX1_isTurned zrX1_isTurned).room s m ([.ref q_t, .ref q_a1, .int a2] : List Value).toArray below meth c s.heap [] 0 0 (MQ below (vp_Si (fun r => Q r)) ([.ref q_t, .ref q_a1, .int a2] : List Value).toArray s 0 0 (fun _ => False)) (F0 m 13 ls []) := by
        intro n
        induction n with
        | zero => intro x2 x3 x4 ls hl hw; exact False.elim hw
        | succ n_13 ih_13 =>
          have J_54 : ∀ (x2 : Int32) (x3 : Int32) (x4 : Int32) (y0 : Int64) (ls : Array Slot), lv_has ls 8 [(0, .ref q_t), (1, .ref q_a1), (2, .int x2), (3, .int x3), (4, .int x4)] → wpX1_isTurned_54 Q (wpX1_isTurned_2 Q  v_t_states f_t_parts f_a1_parts n_2) (wpX1_isTurned_13 Q (wpX1_isTurned_2 Q  v_t_states f_t_parts f_a1_parts n_2) v_t_states f_t_parts f_a1_parts n_13) v_t_states f_t_parts f_a1_parts x2 x3 x4 y0 → W p l e (headSpec wmX1_isTurned zrX1_isTurned).room s m ([.ref q_t, .ref q_a1, .int a2] : List Value).toArray below meth c s.heap [] 0 0 (MQ below (vp_Si (fun r => Q r)) ([.ref q_t, .ref q_a1, .int a2] : List Value).toArray s 0 0 (fun _ => False)) (F0 m 54 ls [.long y0]) := by
            intro x2 x3 x4 y0 ls hl hw
            unfold wpX1_isTurned_54 at hw
            refine lv_lstore (lv' := [(6, .long y0), (0, .ref q_t), (1, .ref q_a1), (2, .int x2), (3, .int x3), (4, .int x4)]) hx hb dX1_isTurned_54 hl (by decide) rfl (fun ls hl => ?_)
            refine lv_aload_n hx hb dX1_isTurned_56 rfl (lv_at hl 1 rfl) ?_
            refine lv_iload_n hx hb dX1_isTurned_57 rfl (lv_at hl 4 rfl) ?_
            refine lv_iload hx hb dX1_isTurned_58 (lv_at hl 5 rfl) ?_
            refine z_rl (va_runV (As := [.int x3, .int x4]) (rest := []) ⟨hx, hb, hml, hown, hts⟩ (zkX1_part l D cI cJ cC q_t q_t_parts x3 x4 v_t_states v_t_exponent f_t_parts hw) (cwV 2 hts (z_gV wm_198 wm_199 wm_200 wm_133 wm_126) rfl rfl rfl (by decide +kernel) ⟨Nat.le_of_ble_eq_true rfl, Nat.le_of_ble_eq_true rfl⟩) (z_pvR hK hP [0, 2] rfl 0 1 rfl rfl) rfl rfl hl.1 rfl (lv_room (Nat.le_of_ble_eq_true rfl)) dX1_isTurned_60 ⟨Nat.zero_le _, Nat.zero_le _⟩) (fun r6 hw => ?_)
            refine lv_lload hx hb dX1_isTurned_63 (lv_at hl 0 rfl) ?_
            refine W.lcmp hx hb dX1_isTurned_65 ?_
            refine lv_if_eq (tgt := 71) hx hb dX1_isTurned_66 (by decide) (fun c7 => ?_) (fun c7 => ?_)
            · have hw := hw.1 c7
              refine lv_iinc (v := (x4 + 1)) (lv' := [(4, .int (x4 + 1)), (6, .long y0), (0, .ref q_t), (1, .ref q_a1), (2, .int x2), (3, .int x3)]) hx hb dX1_isTurned_71 hl (k := 5) rfl rfl (by decide) rfl (fun ls hl => ?_)
              refine lv_goto (tgt := 13) hx hb dX1_isTurned_74 (by decide) ?_
              exact ih_13 x2 x3 (x4 + 1) _ (lv_sub hl [2, 3, 4, 5, 0] rfl) hw
            · have hw := hw.2 c7
              refine lv_iconst (v := 0) hx hb dX1_isTurned_69 (by decide) ?_
              exact W.zret (v := 0) hx hb hr (by decide) (fun t ht hW => ⟨_, rfl, hw, ht⟩) (fun _ h => by cases h) dX1_isTurned_70
          intro x2 x3 x4 ls hl hw
          have hw : wpX1_isTurned_13b Q (wpX1_isTurned_2 Q  v_t_states f_t_parts f_a1_parts n_2) (wpX1_isTurned_13 Q (wpX1_isTurned_2 Q  v_t_states f_t_parts f_a1_parts n_2) v_t_states f_t_parts f_a1_parts n_13) v_t_states f_t_parts f_a1_parts x2 x3 x4 := hw
          refine lv_iload hx hb dX1_isTurned_13 (lv_at hl 4 rfl) ?_
          refine lv_iconst (v := 4) hx hb dX1_isTurned_15 (by decide) ?_
          refine lv_icmp_ge (tgt := 77) hx hb dX1_isTurned_16 (by decide) (fun c2 => ?_) (fun c2 => ?_)
          · have hw := hw.1 c2
            refine lv_iinc (v := (x3 + 1)) (lv' := [(3, .int (x3 + 1)), (0, .ref q_t), (1, .ref q_a1), (2, .int x2), (4, .int x4)]) hx hb dX1_isTurned_77 hl (k := 3) rfl rfl (by decide) rfl (fun ls hl => ?_)
            refine lv_goto (tgt := 2) hx hb dX1_isTurned_80 (by decide) ?_
            exact ih_2 x2 (x3 + 1) _ (lv_sub hl [1, 2, 3, 0] rfl) hw
          · have hw := hw.2 c2
            refine lv_iload hx hb dX1_isTurned_19 (lv_at hl 4 rfl) ?_
            refine lv_iload_n hx hb dX1_isTurned_21 rfl (lv_at hl 2 rfl) ?_
            refine lv_isub hx hb dX1_isTurned_22 ?_
            refine lv_bipush (v := 7) hx hb dX1_isTurned_23 (by decide) ?_
            refine lv_iand hx hb dX1_isTurned_25 ?_
            refine lv_topi (fun x5_3 ex5_3 => ?_)
            have hw := hw x5_3 ex5_3
            refine lv_istore (lv' := [(5, .int x5_3), (0, .ref q_t), (1, .ref q_a1), (2, .int x2), (3, .int x3), (4, .int x4)]) hx hb dX1_isTurned_26 hl (by decide) rfl (fun ls hl => ?_)
            refine lv_iload hx hb dX1_isTurned_28 (lv_at hl 0 rfl) ?_
            refine lv_iconst (v := 4) hx hb dX1_isTurned_30 (by decide) ?_
            refine lv_icmp_ge (tgt := 44) hx hb dX1_isTurned_31 (by decide) (fun c4 => ?_) (fun c4 => ?_)
            · have hw := hw.1 c4
              refine lv_aload_n hx hb dX1_isTurned_44 rfl (lv_at hl 2 rfl) ?_
              refine lv_iload_n hx hb dX1_isTurned_45 rfl (lv_at hl 4 rfl) ?_
              refine lv_iload hx hb dX1_isTurned_46 (lv_at hl 0 rfl) ?_
              refine lv_iconst (v := 4) hx hb dX1_isTurned_48 (by decide) ?_
              refine lv_isub hx hb dX1_isTurned_49 ?_
              refine z_rl (va_runV (As := [.int x3, .int (x5_3 - 4)]) (rest := []) ⟨hx, hb, hml, hown, hts⟩ (zkX1_part l D cI cJ cC q_a1 q_a1_parts x3 (x5_3 - 4) v_a1_states v_a1_exponent f_a1_parts hw) (cwV 2 hts (z_gV wm_198 wm_199 wm_200 wm_133 wm_126) rfl rfl rfl (by decide +kernel) ⟨Nat.le_of_ble_eq_true rfl, Nat.le_of_ble_eq_true rfl⟩) (z_pvR hK hP [1, 3] rfl 1 1 rfl rfl) rfl rfl hl.1 rfl (lv_room (Nat.le_of_ble_eq_true rfl)) dX1_isTurned_50 ⟨Nat.zero_le _, Nat.zero_le _⟩) (fun r5 hw => ?_)
              refine lv_lneg hx hb dX1_isTurned_53 ?_
              exact J_54 x2 x3 x4 (-r5) _ (lv_sub hl [1, 2, 3, 4, 5] rfl) hw
            · have hw := hw.2 c4
              refine lv_aload_n hx hb dX1_isTurned_34 rfl (lv_at hl 2 rfl) ?_
              refine lv_iload_n hx hb dX1_isTurned_35 rfl (lv_at hl 4 rfl) ?_
              refine lv_iload hx hb dX1_isTurned_36 (lv_at hl 0 rfl) ?_
              refine z_rl (va_runV (As := [.int x3, .int x5_3]) (rest := []) ⟨hx, hb, hml, hown, hts⟩ (zkX1_part l D cI cJ cC q_a1 q_a1_parts x3 x5_3 v_a1_states v_a1_exponent f_a1_parts hw) (cwV 2 hts (z_gV wm_198 wm_199 wm_200 wm_133 wm_126) rfl rfl rfl (by decide +kernel) ⟨Nat.le_of_ble_eq_true rfl, Nat.le_of_ble_eq_true rfl⟩) (z_pvR hK hP [1, 3] rfl 1 1 rfl rfl) rfl rfl hl.1 rfl (lv_room (Nat.le_of_ble_eq_true rfl)) dX1_isTurned_38 ⟨Nat.zero_le _, Nat.zero_le _⟩) (fun r8 hw => ?_)
              refine lv_goto (tgt := 54) hx hb dX1_isTurned_41 (by decide) ?_
              exact J_54 x2 x3 x4 r8 _ (lv_sub hl [1, 2, 3, 4, 5] rfl) hw
      intro x2 x3 ls hl hw
      have hw : wpX1_isTurned_2b Q  (wpX1_isTurned_2 Q  v_t_states f_t_parts f_a1_parts n_2) v_t_states f_t_parts f_a1_parts x2 x3 := hw
      refine lv_iload_n hx hb dX1_isTurned_2 rfl (lv_at hl 3 rfl) ?_
      refine lv_aload_n hx hb dX1_isTurned_3 rfl (lv_at hl 0 rfl) ?_
      refine va_get (D := D) (ci := 1) (v := .int v_t_states) (C := RX1) (T := TX1) (N := 3) hx hb hts hw_2 hown hK hP 0 rfl rfl 1 (by decide) hw_1 (fun _ h9 => h9) rfl dX1_isTurned_4 ?_
      refine lv_icmp_ge (tgt := 83) hx hb dX1_isTurned_7 (by decide) (fun c1 => ?_) (fun c1 => ?_)
      · have hw := hw.1 c1
        refine lv_iconst (v := 1) hx hb dX1_isTurned_83 (by decide) ?_
        exact W.zret (v := 1) hx hb hr (by decide) (fun t ht hW => ⟨_, rfl, hw, ht⟩) (fun _ h => by cases h) dX1_isTurned_84
      · have hw := hw.2 c1
        refine lv_iconst (v := 0) hx hb dX1_isTurned_10 (by decide) ?_
        refine lv_istore (lv' := [(4, .int 0), (0, .ref q_t), (1, .ref q_a1), (2, .int x2), (3, .int x3)]) hx hb dX1_isTurned_11 hl (by decide) rfl (fun ls hl => ?_)
        obtain ⟨n_13, hw⟩ := hw
        exact L_13 n_13 x2 x3 0 _ (lv_sub hl [1, 2, 3, 4, 0] rfl) hw
  refine lv_iconst (v := 0) hx hb dX1_isTurned_0 (by decide) ?_
  refine lv_istore_n (lv' := [(3, .int 0), (0, .ref q_t), (1, .ref q_a1), (2, .int a2)]) hx hb dX1_isTurned_1 rfl hl (by decide) rfl (fun ls hl => ?_)
  obtain ⟨n_2, hw⟩ := hw
  exact L_2 n_2 a2 0 _ (lv_sub hl [1, 2, 3, 0] rfl) hw

def wpX1_weightWhole_5b (Q : Int64 → Prop)  (R_5 : (Int32) → (Int32) → (Int64) → (Int32) → Prop) (v_t_states : Int32) (f_t_parts : Nat → Int64) (x1 : Int32) (x2 : Int32) (x3 : Int64) (x5 : Int32) : Prop := ((v_t_states ≤ x5 → Q x3) ∧ (¬ v_t_states ≤ x5 → ((((x5 >>> (x1 &&& 31)) &&& 1) = x2 → vp_in (4 * x5) 64 ∧ vp_in (4 * x5) 64 ∧ vp_in ((4 * x5) + 1) 64 ∧ vp_in ((4 * x5) + 1) 64 ∧ ∀ x3_7 : Int64, x3_7 = (x3 + (((f_t_parts (4 * x5).toNatClampNeg) * (f_t_parts (4 * x5).toNatClampNeg)) + ((f_t_parts ((4 * x5) + 1).toNatClampNeg) * (f_t_parts ((4 * x5) + 1).toNatClampNeg)))) → vp_in ((4 * x5) + 2) 64 ∧ vp_in ((4 * x5) + 2) 64 ∧ vp_in ((4 * x5) + 3) 64 ∧ vp_in ((4 * x5) + 3) 64 ∧ ∀ x3_12 : Int64, x3_12 = (x3_7 + (((f_t_parts ((4 * x5) + 2).toNatClampNeg) * (f_t_parts ((4 * x5) + 2).toNatClampNeg)) + ((f_t_parts ((4 * x5) + 3).toNatClampNeg) * (f_t_parts ((4 * x5) + 3).toNatClampNeg)))) → R_5 x1 x2 x3_12 (x5 + 1)) ∧ (¬ ((x5 >>> (x1 &&& 31)) &&& 1) = x2 → R_5 x1 x2 x3 (x5 + 1)))))
def wpX1_weightWhole_5 (Q : Int64 → Prop)  (v_t_states : Int32) (f_t_parts : Nat → Int64) : Nat → (Int32) → (Int32) → (Int64) → (Int32) → Prop
  | 0 => fun _ _ _ _ => False
  | n + 1 => fun x1 x2 x3 x5 => wpX1_weightWhole_5b Q  (wpX1_weightWhole_5 Q  v_t_states f_t_parts n) v_t_states f_t_parts x1 x2 x3 x5
def wpX1_weightWhole (Q : Int64 → Prop) (a1 : Int32) (a2 : Int32) (v_t_states : Int32) (f_t_parts : Nat → Int64)  : Prop := ∃ n : Nat, wpX1_weightWhole_5 Q  v_t_states f_t_parts n a1 a2 0 0
abbrev zrX1_weightWhole : Room := { frames := 0, cells := 0, slots := 0, locals := 0 }
set_option maxHeartbeats 4000000 in
set_option maxRecDepth 100000 in
theorem zkX1_weightWhole (l : Launch) (D : va_G) (cI cJ cC : ClassId) (q_t q_t_parts : Nat) (a1 : Int32) (a2 : Int32) (v_t_states : Int32) (v_t_exponent : Int32) (f_t_parts : Nat → Int64) {Q : Int64 → Prop} (hw : wpX1_weightWhole Q a1 a2 v_t_states f_t_parts) : Met l yX1_weightWhole wmX1_weightWhole zrX1_weightWhole (zPreR D (zT cI cJ cC) [(q_t, zX1 q_t_parts v_t_states v_t_exponent), (q_t_parts, zJ cJ 64 f_t_parts)] [.ref q_t, .int a1, .int a2]) (vp_Sl (fun r => Q r)) 0 0 (fun _ => False) := by
  refine Met.ofW (cc := cX1_weightWhole) (maxL := 7) (ret := (some .long)) (by decide) rfl ?_
  intro p e s m args below meth c s₁ B hml hv
  obtain ⟨rfl, hP, hK⟩ := hv
  have hx := B.exec
  have hb := B.bytes
  have hr := B.returns
  have hts := atoms_spec (ws := wmX1_weightWhole) B.pre
  have hown : s.vm.findClass RX1 = some m.cls := findClass_of_methodNamed B.named
  have hlocks := B.notSynchronized
  have hw_1 := hts _ (z_in wm_123)
  have hw_2 : ∀ w ∈ u_ws RX1 TX1 3, w ∈ wmX1_weightWhole := fun w h => z_in (wi_wsX10 w h)
  have hw_3 := hts _ (z_in wm_122)
  have hl := lv_entry ([.ref q_t, .int a1, .int a2]) (n := 7) (Nat.le_of_ble_eq_true rfl)
  rw [lg_entry_eq]
  generalize (lg_sl ([.ref q_t, .int a1, .int a2]) ++ List.replicate (7 - (lg_sl ([.ref q_t, .int a1, .int a2])).length) Slot.unset).toArray = ls at hl ⊢
  have hl : lv_has ls 7 [(0, .ref q_t), (1, .int a1), (2, .int a2)] := hl
  have L_5 : ∀ (n : Nat), ∀ (x1 : Int32) (x2 : Int32) (x3 : Int64) (x5 : Int32) (ls : Array Slot), lv_has ls 7 [(0, .ref q_t), (1, .int x1), (2, .int x2), (3, .long x3), (5, .int x5)] → wpX1_weightWhole_5 Q  v_t_states f_t_parts n x1 x2 x3 x5 → W p l e (headSpec wmX1_weightWhole zrX1_weightWhole).room s m ([.ref q_t, .int a1, .int a2] : List Value).toArray below meth c s.heap [] 0 0 (MQ below (vp_Sl (fun r => Q r)) ([.ref q_t, .int a1, .int a2] : List Value).toArray s 0 0 (fun _ => False)) (F0 m 5 ls []) := by
    intro n
    induction n with
    | zero => intro x1 x2 x3 x5 ls hl hw; exact False.elim hw
    | succ n_5 ih_5 =>
      intro x1 x2 x3 x5 ls hl hw
      have hw : wpX1_weightWhole_5b Q  (wpX1_weightWhole_5 Q  v_t_states f_t_parts n_5) v_t_states f_t_parts x1 x2 x3 x5 := hw
      refine lv_iload hx hb dX1_weightWhole_5 (lv_at hl 4 rfl) ?_
      refine lv_aload_n hx hb dX1_weightWhole_7 rfl (lv_at hl 0 rfl) ?_
      refine va_get (D := D) (ci := 1) (v := .int v_t_states) (C := RX1) (T := TX1) (N := 3) hx hb hts hw_2 hown hK hP 0 rfl rfl 1 (by decide) hw_1 (fun _ h9 => h9) rfl dX1_weightWhole_8 ?_
      refine lv_icmp_ge (tgt := 116) hx hb dX1_weightWhole_11 (by decide) (fun c1 => ?_) (fun c1 => ?_)
      · have hw := hw.1 c1
        refine lv_lload_n hx hb dX1_weightWhole_116 rfl (lv_at hl 3 rfl) ?_
        exact W.lret (v := x3) hx hb hr (fun t ht hW => ⟨_, rfl, hw, ht⟩) (fun _ h => by cases h) dX1_weightWhole_117
      · have hw := hw.2 c1
        refine lv_iload hx hb dX1_weightWhole_14 (lv_at hl 4 rfl) ?_
        refine lv_iload_n hx hb dX1_weightWhole_16 rfl (lv_at hl 1 rfl) ?_
        refine lv_ishr hx hb dX1_weightWhole_17 ?_
        refine lv_iconst (v := 1) hx hb dX1_weightWhole_18 (by decide) ?_
        refine lv_iand hx hb dX1_weightWhole_19 ?_
        refine lv_iload_n hx hb dX1_weightWhole_20 rfl (lv_at hl 2 rfl) ?_
        refine lv_icmp_ne (tgt := 110) hx hb dX1_weightWhole_21 (by decide) (fun c2 => ?_) (fun c2 => ?_)
        · have hw := hw.2 c2
          refine lv_iinc (v := (x5 + 1)) (lv' := [(5, .int (x5 + 1)), (0, .ref q_t), (1, .int x1), (2, .int x2), (3, .long x3)]) hx hb dX1_weightWhole_110 hl (k := 4) rfl rfl (by decide) rfl (fun ls hl => ?_)
          refine lv_goto (tgt := 5) hx hb dX1_weightWhole_113 (by decide) ?_
          exact ih_5 x1 x2 x3 (x5 + 1) _ (lv_sub hl [1, 2, 3, 4, 0] rfl) hw
        · have hw := hw.1 c2
          refine lv_iconst (v := 4) hx hb dX1_weightWhole_24 (by decide) ?_
          refine lv_iload hx hb dX1_weightWhole_25 (lv_at hl 4 rfl) ?_
          refine lv_imul hx hb dX1_weightWhole_27 ?_
          refine lv_istore (lv' := [(6, .int (4 * x5)), (0, .ref q_t), (1, .int x1), (2, .int x2), (3, .long x3), (5, .int x5)]) hx hb dX1_weightWhole_28 hl (by decide) rfl (fun ls hl => ?_)
          refine lv_lload_n hx hb dX1_weightWhole_30 rfl (lv_at hl 4 rfl) ?_
          refine lv_aload_n hx hb dX1_weightWhole_31 rfl (lv_at hl 1 rfl) ?_
          refine va_get (D := D) (ci := 1) (v := .ref q_t_parts) (C := RX1) (T := TX1) (N := 3) hx hb hts hw_2 hown hK hP 0 rfl rfl 0 (by decide) hw_3 (fun _ h9 => h9) rfl dX1_weightWhole_32 ?_
          refine lv_iload hx hb dX1_weightWhole_35 (lv_at hl 0 rfl) ?_
          obtain ⟨h3, hw⟩ := hw
          refine va_lald hx hb hK hP 1 1 rfl rfl h3 dX1_weightWhole_37 ?_
          refine lv_aload_n hx hb dX1_weightWhole_38 rfl (lv_at hl 1 rfl) ?_
          refine va_get (D := D) (ci := 1) (v := .ref q_t_parts) (C := RX1) (T := TX1) (N := 3) hx hb hts hw_2 hown hK hP 0 rfl rfl 0 (by decide) hw_3 (fun _ h9 => h9) rfl dX1_weightWhole_39 ?_
          refine lv_iload hx hb dX1_weightWhole_42 (lv_at hl 0 rfl) ?_
          obtain ⟨h4, hw⟩ := hw
          refine va_lald hx hb hK hP 1 1 rfl rfl h4 dX1_weightWhole_44 ?_
          refine lv_lmul hx hb dX1_weightWhole_45 ?_
          refine lv_aload_n hx hb dX1_weightWhole_46 rfl (lv_at hl 1 rfl) ?_
          refine va_get (D := D) (ci := 1) (v := .ref q_t_parts) (C := RX1) (T := TX1) (N := 3) hx hb hts hw_2 hown hK hP 0 rfl rfl 0 (by decide) hw_3 (fun _ h9 => h9) rfl dX1_weightWhole_47 ?_
          refine lv_iload hx hb dX1_weightWhole_50 (lv_at hl 0 rfl) ?_
          refine lv_iconst (v := 1) hx hb dX1_weightWhole_52 (by decide) ?_
          refine lv_iadd hx hb dX1_weightWhole_53 ?_
          obtain ⟨h5, hw⟩ := hw
          refine va_lald hx hb hK hP 1 1 rfl rfl h5 dX1_weightWhole_54 ?_
          refine lv_aload_n hx hb dX1_weightWhole_55 rfl (lv_at hl 1 rfl) ?_
          refine va_get (D := D) (ci := 1) (v := .ref q_t_parts) (C := RX1) (T := TX1) (N := 3) hx hb hts hw_2 hown hK hP 0 rfl rfl 0 (by decide) hw_3 (fun _ h9 => h9) rfl dX1_weightWhole_56 ?_
          refine lv_iload hx hb dX1_weightWhole_59 (lv_at hl 0 rfl) ?_
          refine lv_iconst (v := 1) hx hb dX1_weightWhole_61 (by decide) ?_
          refine lv_iadd hx hb dX1_weightWhole_62 ?_
          obtain ⟨h6, hw⟩ := hw
          refine va_lald hx hb hK hP 1 1 rfl rfl h6 dX1_weightWhole_63 ?_
          refine lv_lmul hx hb dX1_weightWhole_64 ?_
          refine lv_ladd hx hb dX1_weightWhole_65 ?_
          refine lv_ladd hx hb dX1_weightWhole_66 ?_
          refine lv_topl (fun x3_7 ex3_7 => ?_)
          have hw := hw x3_7 ex3_7
          refine lv_lstore_n (lv' := [(3, .long x3_7), (6, .int (4 * x5)), (0, .ref q_t), (1, .int x1), (2, .int x2), (5, .int x5)]) hx hb dX1_weightWhole_67 rfl hl (by decide) rfl (fun ls hl => ?_)
          refine lv_lload_n hx hb dX1_weightWhole_68 rfl (lv_at hl 0 rfl) ?_
          refine lv_aload_n hx hb dX1_weightWhole_69 rfl (lv_at hl 2 rfl) ?_
          refine va_get (D := D) (ci := 1) (v := .ref q_t_parts) (C := RX1) (T := TX1) (N := 3) hx hb hts hw_2 hown hK hP 0 rfl rfl 0 (by decide) hw_3 (fun _ h9 => h9) rfl dX1_weightWhole_70 ?_
          refine lv_iload hx hb dX1_weightWhole_73 (lv_at hl 1 rfl) ?_
          refine lv_iconst (v := 2) hx hb dX1_weightWhole_75 (by decide) ?_
          refine lv_iadd hx hb dX1_weightWhole_76 ?_
          obtain ⟨h8, hw⟩ := hw
          refine va_lald hx hb hK hP 1 1 rfl rfl h8 dX1_weightWhole_77 ?_
          refine lv_aload_n hx hb dX1_weightWhole_78 rfl (lv_at hl 2 rfl) ?_
          refine va_get (D := D) (ci := 1) (v := .ref q_t_parts) (C := RX1) (T := TX1) (N := 3) hx hb hts hw_2 hown hK hP 0 rfl rfl 0 (by decide) hw_3 (fun _ h9 => h9) rfl dX1_weightWhole_79 ?_
          refine lv_iload hx hb dX1_weightWhole_82 (lv_at hl 1 rfl) ?_
          refine lv_iconst (v := 2) hx hb dX1_weightWhole_84 (by decide) ?_
          refine lv_iadd hx hb dX1_weightWhole_85 ?_
          obtain ⟨h9, hw⟩ := hw
          refine va_lald hx hb hK hP 1 1 rfl rfl h9 dX1_weightWhole_86 ?_
          refine lv_lmul hx hb dX1_weightWhole_87 ?_
          refine lv_aload_n hx hb dX1_weightWhole_88 rfl (lv_at hl 2 rfl) ?_
          refine va_get (D := D) (ci := 1) (v := .ref q_t_parts) (C := RX1) (T := TX1) (N := 3) hx hb hts hw_2 hown hK hP 0 rfl rfl 0 (by decide) hw_3 (fun _ h9 => h9) rfl dX1_weightWhole_89 ?_
          refine lv_iload hx hb dX1_weightWhole_92 (lv_at hl 1 rfl) ?_
          refine lv_iconst (v := 3) hx hb dX1_weightWhole_94 (by decide) ?_
          refine lv_iadd hx hb dX1_weightWhole_95 ?_
          obtain ⟨h10, hw⟩ := hw
          refine va_lald hx hb hK hP 1 1 rfl rfl h10 dX1_weightWhole_96 ?_
          refine lv_aload_n hx hb dX1_weightWhole_97 rfl (lv_at hl 2 rfl) ?_
          refine va_get (D := D) (ci := 1) (v := .ref q_t_parts) (C := RX1) (T := TX1) (N := 3) hx hb hts hw_2 hown hK hP 0 rfl rfl 0 (by decide) hw_3 (fun _ h9 => h9) rfl dX1_weightWhole_98 ?_
          refine lv_iload hx hb dX1_weightWhole_101 (lv_at hl 1 rfl) ?_
          refine lv_iconst (v := 3) hx hb dX1_weightWhole_103 (by decide) ?_
          refine lv_iadd hx hb dX1_weightWhole_104 ?_
          obtain ⟨h11, hw⟩ := hw
          refine va_lald hx hb hK hP 1 1 rfl rfl h11 dX1_weightWhole_105 ?_
          refine lv_lmul hx hb dX1_weightWhole_106 ?_
          refine lv_ladd hx hb dX1_weightWhole_107 ?_
          refine lv_ladd hx hb dX1_weightWhole_108 ?_
          refine lv_topl (fun x3_12 ex3_12 => ?_)
          have hw := hw x3_12 ex3_12
          refine lv_lstore_n (lv' := [(3, .long x3_12), (6, .int (4 * x5)), (0, .ref q_t), (1, .int x1), (2, .int x2), (5, .int x5)]) hx hb dX1_weightWhole_109 rfl hl (by decide) rfl (fun ls hl => ?_)
          refine lv_iinc (v := (x5 + 1)) (lv' := [(5, .int (x5 + 1)), (3, .long x3_12), (6, .int (4 * x5)), (0, .ref q_t), (1, .int x1), (2, .int x2)]) hx hb dX1_weightWhole_110 hl (k := 5) rfl rfl (by decide) rfl (fun ls hl => ?_)
          refine lv_goto (tgt := 5) hx hb dX1_weightWhole_113 (by decide) ?_
          exact ih_5 x1 x2 x3_12 (x5 + 1) _ (lv_sub hl [3, 4, 5, 1, 0] rfl) hw
  refine lv_lconst (v := 0) hx hb dX1_weightWhole_0 (by decide) ?_
  refine lv_lstore_n (lv' := [(3, .long 0), (0, .ref q_t), (1, .int a1), (2, .int a2)]) hx hb dX1_weightWhole_1 rfl hl (by decide) rfl (fun ls hl => ?_)
  refine lv_iconst (v := 0) hx hb dX1_weightWhole_2 (by decide) ?_
  refine lv_istore (lv' := [(5, .int 0), (3, .long 0), (0, .ref q_t), (1, .int a1), (2, .int a2)]) hx hb dX1_weightWhole_3 hl (by decide) rfl (fun ls hl => ?_)
  obtain ⟨n_5, hw⟩ := hw
  exact L_5 n_5 a1 a2 0 0 _ (lv_sub hl [2, 3, 4, 1, 0] rfl) hw

def wpX1_weightRoot_5b (Q : Int64 → Prop)  (R_5 : (Int32) → (Int32) → (Int64) → (Int32) → Prop) (v_t_states : Int32) (f_t_parts : Nat → Int64) (x1 : Int32) (x2 : Int32) (x3 : Int64) (x5 : Int32) : Prop := ((v_t_states ≤ x5 → Q x3) ∧ (¬ v_t_states ≤ x5 → ((((x5 >>> (x1 &&& 31)) &&& 1) = x2 → vp_in (4 * x5) 64 ∧ vp_in ((4 * x5) + 1) 64 ∧ vp_in ((4 * x5) + 1) 64 ∧ vp_in ((4 * x5) + 2) 64 ∧ ∀ x3_7 : Int64, x3_7 = (x3 + (((f_t_parts (4 * x5).toNatClampNeg) * (f_t_parts ((4 * x5) + 1).toNatClampNeg)) + ((f_t_parts ((4 * x5) + 1).toNatClampNeg) * (f_t_parts ((4 * x5) + 2).toNatClampNeg)))) → vp_in ((4 * x5) + 2) 64 ∧ vp_in ((4 * x5) + 3) 64 ∧ vp_in ((4 * x5) + 3) 64 ∧ vp_in (4 * x5) 64 ∧ ∀ x3_12 : Int64, x3_12 = (x3_7 + (((f_t_parts ((4 * x5) + 2).toNatClampNeg) * (f_t_parts ((4 * x5) + 3).toNatClampNeg)) - ((f_t_parts ((4 * x5) + 3).toNatClampNeg) * (f_t_parts (4 * x5).toNatClampNeg)))) → R_5 x1 x2 x3_12 (x5 + 1)) ∧ (¬ ((x5 >>> (x1 &&& 31)) &&& 1) = x2 → R_5 x1 x2 x3 (x5 + 1)))))
def wpX1_weightRoot_5 (Q : Int64 → Prop)  (v_t_states : Int32) (f_t_parts : Nat → Int64) : Nat → (Int32) → (Int32) → (Int64) → (Int32) → Prop
  | 0 => fun _ _ _ _ => False
  | n + 1 => fun x1 x2 x3 x5 => wpX1_weightRoot_5b Q  (wpX1_weightRoot_5 Q  v_t_states f_t_parts n) v_t_states f_t_parts x1 x2 x3 x5
def wpX1_weightRoot (Q : Int64 → Prop) (a1 : Int32) (a2 : Int32) (v_t_states : Int32) (f_t_parts : Nat → Int64)  : Prop := ∃ n : Nat, wpX1_weightRoot_5 Q  v_t_states f_t_parts n a1 a2 0 0
abbrev zrX1_weightRoot : Room := { frames := 0, cells := 0, slots := 0, locals := 0 }
set_option maxHeartbeats 4000000 in
set_option maxRecDepth 100000 in
theorem zkX1_weightRoot (l : Launch) (D : va_G) (cI cJ cC : ClassId) (q_t q_t_parts : Nat) (a1 : Int32) (a2 : Int32) (v_t_states : Int32) (v_t_exponent : Int32) (f_t_parts : Nat → Int64) {Q : Int64 → Prop} (hw : wpX1_weightRoot Q a1 a2 v_t_states f_t_parts) : Met l yX1_weightRoot wmX1_weightRoot zrX1_weightRoot (zPreR D (zT cI cJ cC) [(q_t, zX1 q_t_parts v_t_states v_t_exponent), (q_t_parts, zJ cJ 64 f_t_parts)] [.ref q_t, .int a1, .int a2]) (vp_Sl (fun r => Q r)) 0 0 (fun _ => False) := by
  refine Met.ofW (cc := cX1_weightRoot) (maxL := 7) (ret := (some .long)) (by decide) rfl ?_
  intro p e s m args below meth c s₁ B hml hv
  obtain ⟨rfl, hP, hK⟩ := hv
  have hx := B.exec
  have hb := B.bytes
  have hr := B.returns
  have hts := atoms_spec (ws := wmX1_weightRoot) B.pre
  have hown : s.vm.findClass RX1 = some m.cls := findClass_of_methodNamed B.named
  have hlocks := B.notSynchronized
  have hw_1 := hts _ (z_in wm_123)
  have hw_2 : ∀ w ∈ u_ws RX1 TX1 3, w ∈ wmX1_weightRoot := fun w h => z_in (wi_wsX10 w h)
  have hw_3 := hts _ (z_in wm_122)
  have hl := lv_entry ([.ref q_t, .int a1, .int a2]) (n := 7) (Nat.le_of_ble_eq_true rfl)
  rw [lg_entry_eq]
  generalize (lg_sl ([.ref q_t, .int a1, .int a2]) ++ List.replicate (7 - (lg_sl ([.ref q_t, .int a1, .int a2])).length) Slot.unset).toArray = ls at hl ⊢
  have hl : lv_has ls 7 [(0, .ref q_t), (1, .int a1), (2, .int a2)] := hl
  have L_5 : ∀ (n : Nat), ∀ (x1 : Int32) (x2 : Int32) (x3 : Int64) (x5 : Int32) (ls : Array Slot), lv_has ls 7 [(0, .ref q_t), (1, .int x1), (2, .int x2), (3, .long x3), (5, .int x5)] → wpX1_weightRoot_5 Q  v_t_states f_t_parts n x1 x2 x3 x5 → W p l e (headSpec wmX1_weightRoot zrX1_weightRoot).room s m ([.ref q_t, .int a1, .int a2] : List Value).toArray below meth c s.heap [] 0 0 (MQ below (vp_Sl (fun r => Q r)) ([.ref q_t, .int a1, .int a2] : List Value).toArray s 0 0 (fun _ => False)) (F0 m 5 ls []) := by
    intro n
    induction n with
    | zero => intro x1 x2 x3 x5 ls hl hw; exact False.elim hw
    | succ n_5 ih_5 =>
      intro x1 x2 x3 x5 ls hl hw
      have hw : wpX1_weightRoot_5b Q  (wpX1_weightRoot_5 Q  v_t_states f_t_parts n_5) v_t_states f_t_parts x1 x2 x3 x5 := hw
      refine lv_iload hx hb dX1_weightRoot_5 (lv_at hl 4 rfl) ?_
      refine lv_aload_n hx hb dX1_weightRoot_7 rfl (lv_at hl 0 rfl) ?_
      refine va_get (D := D) (ci := 1) (v := .int v_t_states) (C := RX1) (T := TX1) (N := 3) hx hb hts hw_2 hown hK hP 0 rfl rfl 1 (by decide) hw_1 (fun _ h9 => h9) rfl dX1_weightRoot_8 ?_
      refine lv_icmp_ge (tgt := 116) hx hb dX1_weightRoot_11 (by decide) (fun c1 => ?_) (fun c1 => ?_)
      · have hw := hw.1 c1
        refine lv_lload_n hx hb dX1_weightRoot_116 rfl (lv_at hl 3 rfl) ?_
        exact W.lret (v := x3) hx hb hr (fun t ht hW => ⟨_, rfl, hw, ht⟩) (fun _ h => by cases h) dX1_weightRoot_117
      · have hw := hw.2 c1
        refine lv_iload hx hb dX1_weightRoot_14 (lv_at hl 4 rfl) ?_
        refine lv_iload_n hx hb dX1_weightRoot_16 rfl (lv_at hl 1 rfl) ?_
        refine lv_ishr hx hb dX1_weightRoot_17 ?_
        refine lv_iconst (v := 1) hx hb dX1_weightRoot_18 (by decide) ?_
        refine lv_iand hx hb dX1_weightRoot_19 ?_
        refine lv_iload_n hx hb dX1_weightRoot_20 rfl (lv_at hl 2 rfl) ?_
        refine lv_icmp_ne (tgt := 110) hx hb dX1_weightRoot_21 (by decide) (fun c2 => ?_) (fun c2 => ?_)
        · have hw := hw.2 c2
          refine lv_iinc (v := (x5 + 1)) (lv' := [(5, .int (x5 + 1)), (0, .ref q_t), (1, .int x1), (2, .int x2), (3, .long x3)]) hx hb dX1_weightRoot_110 hl (k := 4) rfl rfl (by decide) rfl (fun ls hl => ?_)
          refine lv_goto (tgt := 5) hx hb dX1_weightRoot_113 (by decide) ?_
          exact ih_5 x1 x2 x3 (x5 + 1) _ (lv_sub hl [1, 2, 3, 4, 0] rfl) hw
        · have hw := hw.1 c2
          refine lv_iconst (v := 4) hx hb dX1_weightRoot_24 (by decide) ?_
          refine lv_iload hx hb dX1_weightRoot_25 (lv_at hl 4 rfl) ?_
          refine lv_imul hx hb dX1_weightRoot_27 ?_
          refine lv_istore (lv' := [(6, .int (4 * x5)), (0, .ref q_t), (1, .int x1), (2, .int x2), (3, .long x3), (5, .int x5)]) hx hb dX1_weightRoot_28 hl (by decide) rfl (fun ls hl => ?_)
          refine lv_lload_n hx hb dX1_weightRoot_30 rfl (lv_at hl 4 rfl) ?_
          refine lv_aload_n hx hb dX1_weightRoot_31 rfl (lv_at hl 1 rfl) ?_
          refine va_get (D := D) (ci := 1) (v := .ref q_t_parts) (C := RX1) (T := TX1) (N := 3) hx hb hts hw_2 hown hK hP 0 rfl rfl 0 (by decide) hw_3 (fun _ h9 => h9) rfl dX1_weightRoot_32 ?_
          refine lv_iload hx hb dX1_weightRoot_35 (lv_at hl 0 rfl) ?_
          obtain ⟨h3, hw⟩ := hw
          refine va_lald hx hb hK hP 1 1 rfl rfl h3 dX1_weightRoot_37 ?_
          refine lv_aload_n hx hb dX1_weightRoot_38 rfl (lv_at hl 1 rfl) ?_
          refine va_get (D := D) (ci := 1) (v := .ref q_t_parts) (C := RX1) (T := TX1) (N := 3) hx hb hts hw_2 hown hK hP 0 rfl rfl 0 (by decide) hw_3 (fun _ h9 => h9) rfl dX1_weightRoot_39 ?_
          refine lv_iload hx hb dX1_weightRoot_42 (lv_at hl 0 rfl) ?_
          refine lv_iconst (v := 1) hx hb dX1_weightRoot_44 (by decide) ?_
          refine lv_iadd hx hb dX1_weightRoot_45 ?_
          obtain ⟨h4, hw⟩ := hw
          refine va_lald hx hb hK hP 1 1 rfl rfl h4 dX1_weightRoot_46 ?_
          refine lv_lmul hx hb dX1_weightRoot_47 ?_
          refine lv_aload_n hx hb dX1_weightRoot_48 rfl (lv_at hl 1 rfl) ?_
          refine va_get (D := D) (ci := 1) (v := .ref q_t_parts) (C := RX1) (T := TX1) (N := 3) hx hb hts hw_2 hown hK hP 0 rfl rfl 0 (by decide) hw_3 (fun _ h9 => h9) rfl dX1_weightRoot_49 ?_
          refine lv_iload hx hb dX1_weightRoot_52 (lv_at hl 0 rfl) ?_
          refine lv_iconst (v := 1) hx hb dX1_weightRoot_54 (by decide) ?_
          refine lv_iadd hx hb dX1_weightRoot_55 ?_
          obtain ⟨h5, hw⟩ := hw
          refine va_lald hx hb hK hP 1 1 rfl rfl h5 dX1_weightRoot_56 ?_
          refine lv_aload_n hx hb dX1_weightRoot_57 rfl (lv_at hl 1 rfl) ?_
          refine va_get (D := D) (ci := 1) (v := .ref q_t_parts) (C := RX1) (T := TX1) (N := 3) hx hb hts hw_2 hown hK hP 0 rfl rfl 0 (by decide) hw_3 (fun _ h9 => h9) rfl dX1_weightRoot_58 ?_
          refine lv_iload hx hb dX1_weightRoot_61 (lv_at hl 0 rfl) ?_
          refine lv_iconst (v := 2) hx hb dX1_weightRoot_63 (by decide) ?_
          refine lv_iadd hx hb dX1_weightRoot_64 ?_
          obtain ⟨h6, hw⟩ := hw
          refine va_lald hx hb hK hP 1 1 rfl rfl h6 dX1_weightRoot_65 ?_
          refine lv_lmul hx hb dX1_weightRoot_66 ?_
          refine lv_ladd hx hb dX1_weightRoot_67 ?_
          refine lv_ladd hx hb dX1_weightRoot_68 ?_
          refine lv_topl (fun x3_7 ex3_7 => ?_)
          have hw := hw x3_7 ex3_7
          refine lv_lstore_n (lv' := [(3, .long x3_7), (6, .int (4 * x5)), (0, .ref q_t), (1, .int x1), (2, .int x2), (5, .int x5)]) hx hb dX1_weightRoot_69 rfl hl (by decide) rfl (fun ls hl => ?_)
          refine lv_lload_n hx hb dX1_weightRoot_70 rfl (lv_at hl 0 rfl) ?_
          refine lv_aload_n hx hb dX1_weightRoot_71 rfl (lv_at hl 2 rfl) ?_
          refine va_get (D := D) (ci := 1) (v := .ref q_t_parts) (C := RX1) (T := TX1) (N := 3) hx hb hts hw_2 hown hK hP 0 rfl rfl 0 (by decide) hw_3 (fun _ h9 => h9) rfl dX1_weightRoot_72 ?_
          refine lv_iload hx hb dX1_weightRoot_75 (lv_at hl 1 rfl) ?_
          refine lv_iconst (v := 2) hx hb dX1_weightRoot_77 (by decide) ?_
          refine lv_iadd hx hb dX1_weightRoot_78 ?_
          obtain ⟨h8, hw⟩ := hw
          refine va_lald hx hb hK hP 1 1 rfl rfl h8 dX1_weightRoot_79 ?_
          refine lv_aload_n hx hb dX1_weightRoot_80 rfl (lv_at hl 2 rfl) ?_
          refine va_get (D := D) (ci := 1) (v := .ref q_t_parts) (C := RX1) (T := TX1) (N := 3) hx hb hts hw_2 hown hK hP 0 rfl rfl 0 (by decide) hw_3 (fun _ h9 => h9) rfl dX1_weightRoot_81 ?_
          refine lv_iload hx hb dX1_weightRoot_84 (lv_at hl 1 rfl) ?_
          refine lv_iconst (v := 3) hx hb dX1_weightRoot_86 (by decide) ?_
          refine lv_iadd hx hb dX1_weightRoot_87 ?_
          obtain ⟨h9, hw⟩ := hw
          refine va_lald hx hb hK hP 1 1 rfl rfl h9 dX1_weightRoot_88 ?_
          refine lv_lmul hx hb dX1_weightRoot_89 ?_
          refine lv_aload_n hx hb dX1_weightRoot_90 rfl (lv_at hl 2 rfl) ?_
          refine va_get (D := D) (ci := 1) (v := .ref q_t_parts) (C := RX1) (T := TX1) (N := 3) hx hb hts hw_2 hown hK hP 0 rfl rfl 0 (by decide) hw_3 (fun _ h9 => h9) rfl dX1_weightRoot_91 ?_
          refine lv_iload hx hb dX1_weightRoot_94 (lv_at hl 1 rfl) ?_
          refine lv_iconst (v := 3) hx hb dX1_weightRoot_96 (by decide) ?_
          refine lv_iadd hx hb dX1_weightRoot_97 ?_
          obtain ⟨h10, hw⟩ := hw
          refine va_lald hx hb hK hP 1 1 rfl rfl h10 dX1_weightRoot_98 ?_
          refine lv_aload_n hx hb dX1_weightRoot_99 rfl (lv_at hl 2 rfl) ?_
          refine va_get (D := D) (ci := 1) (v := .ref q_t_parts) (C := RX1) (T := TX1) (N := 3) hx hb hts hw_2 hown hK hP 0 rfl rfl 0 (by decide) hw_3 (fun _ h9 => h9) rfl dX1_weightRoot_100 ?_
          refine lv_iload hx hb dX1_weightRoot_103 (lv_at hl 1 rfl) ?_
          obtain ⟨h11, hw⟩ := hw
          refine va_lald hx hb hK hP 1 1 rfl rfl h11 dX1_weightRoot_105 ?_
          refine lv_lmul hx hb dX1_weightRoot_106 ?_
          refine lv_lsub hx hb dX1_weightRoot_107 ?_
          refine lv_ladd hx hb dX1_weightRoot_108 ?_
          refine lv_topl (fun x3_12 ex3_12 => ?_)
          have hw := hw x3_12 ex3_12
          refine lv_lstore_n (lv' := [(3, .long x3_12), (6, .int (4 * x5)), (0, .ref q_t), (1, .int x1), (2, .int x2), (5, .int x5)]) hx hb dX1_weightRoot_109 rfl hl (by decide) rfl (fun ls hl => ?_)
          refine lv_iinc (v := (x5 + 1)) (lv' := [(5, .int (x5 + 1)), (3, .long x3_12), (6, .int (4 * x5)), (0, .ref q_t), (1, .int x1), (2, .int x2)]) hx hb dX1_weightRoot_110 hl (k := 5) rfl rfl (by decide) rfl (fun ls hl => ?_)
          refine lv_goto (tgt := 5) hx hb dX1_weightRoot_113 (by decide) ?_
          exact ih_5 x1 x2 x3_12 (x5 + 1) _ (lv_sub hl [3, 4, 5, 1, 0] rfl) hw
  refine lv_lconst (v := 0) hx hb dX1_weightRoot_0 (by decide) ?_
  refine lv_lstore_n (lv' := [(3, .long 0), (0, .ref q_t), (1, .int a1), (2, .int a2)]) hx hb dX1_weightRoot_1 rfl hl (by decide) rfl (fun ls hl => ?_)
  refine lv_iconst (v := 0) hx hb dX1_weightRoot_2 (by decide) ?_
  refine lv_istore (lv' := [(5, .int 0), (3, .long 0), (0, .ref q_t), (1, .int a1), (2, .int a2)]) hx hb dX1_weightRoot_3 hl (by decide) rfl (fun ls hl => ?_)
  obtain ⟨n_5, hw⟩ := hw
  exact L_5 n_5 a1 a2 0 0 _ (lv_sub hl [2, 3, 4, 1, 0] rfl) hw

def wpX1_hasAny_2b (Q : Int32 → Prop)  (R_2 : (Int32) → (Int32) → (Int32) → Prop) (v_t_states : Int32) (f_t_parts : Nat → Int64) (x1 : Int32) (x2 : Int32) (x3 : Int32) : Prop := (((4 * v_t_states) ≤ x3 → Q 0) ∧ (¬ (4 * v_t_states) ≤ x3 → (((((x3 / 4) >>> (x1 &&& 31)) &&& 1) = x2 → vp_in x3 64 ∧ (((lg_cmp (f_t_parts x3.toNatClampNeg) 0) = 0 → R_2 x1 x2 (x3 + 1)) ∧ (¬ (lg_cmp (f_t_parts x3.toNatClampNeg) 0) = 0 → Q 1))) ∧ (¬ (((x3 / 4) >>> (x1 &&& 31)) &&& 1) = x2 → R_2 x1 x2 (x3 + 1)))))
def wpX1_hasAny_2 (Q : Int32 → Prop)  (v_t_states : Int32) (f_t_parts : Nat → Int64) : Nat → (Int32) → (Int32) → (Int32) → Prop
  | 0 => fun _ _ _ => False
  | n + 1 => fun x1 x2 x3 => wpX1_hasAny_2b Q  (wpX1_hasAny_2 Q  v_t_states f_t_parts n) v_t_states f_t_parts x1 x2 x3
def wpX1_hasAny (Q : Int32 → Prop) (a1 : Int32) (a2 : Int32) (v_t_states : Int32) (f_t_parts : Nat → Int64)  : Prop := ∃ n : Nat, wpX1_hasAny_2 Q  v_t_states f_t_parts n a1 a2 0
abbrev zrX1_hasAny : Room := { frames := 0, cells := 0, slots := 0, locals := 0 }
set_option maxHeartbeats 4000000 in
set_option maxRecDepth 100000 in
theorem zkX1_hasAny (l : Launch) (D : va_G) (cI cJ cC : ClassId) (q_t q_t_parts : Nat) (a1 : Int32) (a2 : Int32) (v_t_states : Int32) (v_t_exponent : Int32) (f_t_parts : Nat → Int64) {Q : Int32 → Prop} (hw : wpX1_hasAny Q a1 a2 v_t_states f_t_parts) : Met l yX1_hasAny wmX1_hasAny zrX1_hasAny (zPreR D (zT cI cJ cC) [(q_t, zX1 q_t_parts v_t_states v_t_exponent), (q_t_parts, zJ cJ 64 f_t_parts)] [.ref q_t, .int a1, .int a2]) (vp_Si (fun r => Q r)) 0 0 (fun _ => False) := by
  refine Met.ofW (cc := cX1_hasAny) (maxL := 4) (ret := (some .boolean)) (by decide) rfl ?_
  intro p e s m args below meth c s₁ B hml hv
  obtain ⟨rfl, hP, hK⟩ := hv
  have hx := B.exec
  have hb := B.bytes
  have hr := B.returns
  have hts := atoms_spec (ws := wmX1_hasAny) B.pre
  have hown : s.vm.findClass RX1 = some m.cls := findClass_of_methodNamed B.named
  have hlocks := B.notSynchronized
  have hw_1 := hts _ (z_in wm_123)
  have hw_2 : ∀ w ∈ u_ws RX1 TX1 3, w ∈ wmX1_hasAny := fun w h => z_in (wi_wsX10 w h)
  have hw_3 := hts _ (z_in wm_122)
  have hl := lv_entry ([.ref q_t, .int a1, .int a2]) (n := 4) (Nat.le_of_ble_eq_true rfl)
  rw [lg_entry_eq]
  generalize (lg_sl ([.ref q_t, .int a1, .int a2]) ++ List.replicate (4 - (lg_sl ([.ref q_t, .int a1, .int a2])).length) Slot.unset).toArray = ls at hl ⊢
  have hl : lv_has ls 4 [(0, .ref q_t), (1, .int a1), (2, .int a2)] := hl
  have L_2 : ∀ (n : Nat), ∀ (x1 : Int32) (x2 : Int32) (x3 : Int32) (ls : Array Slot), lv_has ls 4 [(0, .ref q_t), (1, .int x1), (2, .int x2), (3, .int x3)] → wpX1_hasAny_2 Q  v_t_states f_t_parts n x1 x2 x3 → W p l e (headSpec wmX1_hasAny zrX1_hasAny).room s m ([.ref q_t, .int a1, .int a2] : List Value).toArray below meth c s.heap [] 0 0 (MQ below (vp_Si (fun r => Q r)) ([.ref q_t, .int a1, .int a2] : List Value).toArray s 0 0 (fun _ => False)) (F0 m 2 ls []) := by
    intro n
    induction n with
    | zero => intro x1 x2 x3 ls hl hw; exact False.elim hw
    | succ n_2 ih_2 =>
      intro x1 x2 x3 ls hl hw
      have hw : wpX1_hasAny_2b Q  (wpX1_hasAny_2 Q  v_t_states f_t_parts n_2) v_t_states f_t_parts x1 x2 x3 := hw
      refine lv_iload_n hx hb dX1_hasAny_2 rfl (lv_at hl 3 rfl) ?_
      refine lv_iconst (v := 4) hx hb dX1_hasAny_3 (by decide) ?_
      refine lv_aload_n hx hb dX1_hasAny_4 rfl (lv_at hl 0 rfl) ?_
      refine va_get (D := D) (ci := 1) (v := .int v_t_states) (C := RX1) (T := TX1) (N := 3) hx hb hts hw_2 hown hK hP 0 rfl rfl 1 (by decide) hw_1 (fun _ h9 => h9) rfl dX1_hasAny_5 ?_
      refine lv_imul hx hb dX1_hasAny_8 ?_
      refine lv_icmp_ge (tgt := 42) hx hb dX1_hasAny_9 (by decide) (fun c1 => ?_) (fun c1 => ?_)
      · have hw := hw.1 c1
        refine lv_iconst (v := 0) hx hb dX1_hasAny_42 (by decide) ?_
        exact W.zret (v := 0) hx hb hr (by decide) (fun t ht hW => ⟨_, rfl, hw, ht⟩) (fun _ h => by cases h) dX1_hasAny_43
      · have hw := hw.2 c1
        refine lv_iload_n hx hb dX1_hasAny_12 rfl (lv_at hl 3 rfl) ?_
        refine lv_iconst (v := 4) hx hb dX1_hasAny_13 (by decide) ?_
        refine lv_idiv hx hb dX1_hasAny_14 (by decide) ?_
        refine lv_iload_n hx hb dX1_hasAny_15 rfl (lv_at hl 1 rfl) ?_
        refine lv_ishr hx hb dX1_hasAny_16 ?_
        refine lv_iconst (v := 1) hx hb dX1_hasAny_17 (by decide) ?_
        refine lv_iand hx hb dX1_hasAny_18 ?_
        refine lv_iload_n hx hb dX1_hasAny_19 rfl (lv_at hl 2 rfl) ?_
        refine lv_icmp_ne (tgt := 36) hx hb dX1_hasAny_20 (by decide) (fun c2 => ?_) (fun c2 => ?_)
        · have hw := hw.2 c2
          refine lv_iinc (v := (x3 + 1)) (lv' := [(3, .int (x3 + 1)), (0, .ref q_t), (1, .int x1), (2, .int x2)]) hx hb dX1_hasAny_36 hl (k := 3) rfl rfl (by decide) rfl (fun ls hl => ?_)
          refine lv_goto (tgt := 2) hx hb dX1_hasAny_39 (by decide) ?_
          exact ih_2 x1 x2 (x3 + 1) _ (lv_sub hl [1, 2, 3, 0] rfl) hw
        · have hw := hw.1 c2
          refine lv_aload_n hx hb dX1_hasAny_23 rfl (lv_at hl 0 rfl) ?_
          refine va_get (D := D) (ci := 1) (v := .ref q_t_parts) (C := RX1) (T := TX1) (N := 3) hx hb hts hw_2 hown hK hP 0 rfl rfl 0 (by decide) hw_3 (fun _ h9 => h9) rfl dX1_hasAny_24 ?_
          refine lv_iload_n hx hb dX1_hasAny_27 rfl (lv_at hl 3 rfl) ?_
          obtain ⟨h3, hw⟩ := hw
          refine va_lald hx hb hK hP 1 1 rfl rfl h3 dX1_hasAny_28 ?_
          refine lv_lconst (v := 0) hx hb dX1_hasAny_29 (by decide) ?_
          refine W.lcmp hx hb dX1_hasAny_30 ?_
          refine lv_if_eq (tgt := 36) hx hb dX1_hasAny_31 (by decide) (fun c4 => ?_) (fun c4 => ?_)
          · have hw := hw.1 c4
            refine lv_iinc (v := (x3 + 1)) (lv' := [(3, .int (x3 + 1)), (0, .ref q_t), (1, .int x1), (2, .int x2)]) hx hb dX1_hasAny_36 hl (k := 3) rfl rfl (by decide) rfl (fun ls hl => ?_)
            refine lv_goto (tgt := 2) hx hb dX1_hasAny_39 (by decide) ?_
            exact ih_2 x1 x2 (x3 + 1) _ (lv_sub hl [1, 2, 3, 0] rfl) hw
          · have hw := hw.2 c4
            refine lv_iconst (v := 1) hx hb dX1_hasAny_34 (by decide) ?_
            exact W.zret (v := 1) hx hb hr (by decide) (fun t ht hW => ⟨_, rfl, hw, ht⟩) (fun _ h => by cases h) dX1_hasAny_35
  refine lv_iconst (v := 0) hx hb dX1_hasAny_0 (by decide) ?_
  refine lv_istore_n (lv' := [(3, .int 0), (0, .ref q_t), (1, .int a1), (2, .int a2)]) hx hb dX1_hasAny_1 rfl hl (by decide) rfl (fun ls hl => ?_)
  obtain ⟨n_2, hw⟩ := hw
  exact L_2 n_2 a1 a2 0 _ (lv_sub hl [1, 2, 3, 0] rfl) hw

def wpX1_keepOnly_2b (Q : (Nat → Int64) → Prop)  (R_2 : (Int32) → (Int32) → (Int32) → (Nat → Int64) → Prop) (v_t_states : Int32) (x1 : Int32) (x2 : Int32) (x3 : Int32) (f_t_parts : Nat → Int64) : Prop := (((4 * v_t_states) ≤ x3 → Q f_t_parts) ∧ (¬ (4 * v_t_states) ≤ x3 → (((((x3 / 4) >>> (x1 &&& 31)) &&& 1) = x2 → R_2 x1 x2 (x3 + 1) f_t_parts) ∧ (¬ (((x3 / 4) >>> (x1 &&& 31)) &&& 1) = x2 → vp_in x3 64 ∧ R_2 x1 x2 (x3 + 1) (vp_updL f_t_parts x3.toNatClampNeg 0)))))
def wpX1_keepOnly_2 (Q : (Nat → Int64) → Prop)  (v_t_states : Int32) : Nat → (Int32) → (Int32) → (Int32) → (Nat → Int64) → Prop
  | 0 => fun _ _ _ _ => False
  | n + 1 => fun x1 x2 x3 f_t_parts => wpX1_keepOnly_2b Q  (wpX1_keepOnly_2 Q  v_t_states n) v_t_states x1 x2 x3 f_t_parts
def wpX1_keepOnly (Q : (Nat → Int64) → Prop) (a1 : Int32) (a2 : Int32) (v_t_states : Int32) (f_t_parts : Nat → Int64) : Prop := ∃ n : Nat, wpX1_keepOnly_2 Q  v_t_states n a1 a2 0 f_t_parts
abbrev zrX1_keepOnly : Room := { frames := 0, cells := 0, slots := 0, locals := 0 }
set_option maxHeartbeats 4000000 in
set_option maxRecDepth 100000 in
theorem zkX1_keepOnly (l : Launch) (D : va_G) (cI cJ cC : ClassId) (q_t q_t_parts : Nat) (sz : Nat) (a1 : Int32) (a2 : Int32) (v_t_states : Int32) (v_t_exponent : Int32) (f_t_parts : Nat → Int64) {Q : (Nat → Int64) → Prop} (hw : wpX1_keepOnly Q a1 a2 v_t_states f_t_parts) : Met l yX1_keepOnly wmX1_keepOnly zrX1_keepOnly (zPreW D (zT cI cJ cC) [(q_t, zX1 q_t_parts v_t_states v_t_exponent), (q_t_parts, zJ cJ 64 f_t_parts)] sz [.ref q_t, .int a1, .int a2]) (va_Qv (fun u : (Nat → Int64) => Q u) (fun u t => zAt D (va_A [(q_t, zX1 q_t_parts v_t_states v_t_exponent), (q_t_parts, zJ cJ 64 f_t_parts)] sz) [(q_t, zX1 q_t_parts v_t_states v_t_exponent), (q_t_parts, zJ cJ 64 u)] t) (va_A [(q_t, zX1 q_t_parts v_t_states v_t_exponent), (q_t_parts, zJ cJ 64 f_t_parts)] sz)) 0 0 (va_A [(q_t, zX1 q_t_parts v_t_states v_t_exponent), (q_t_parts, zJ cJ 64 f_t_parts)] sz) := by
  refine Met.ofW (cc := cX1_keepOnly) (maxL := 4) (ret := none) (by decide) rfl ?_
  intro p e s m args below meth c s₁ B hml hv
  obtain ⟨rfl, hsz, hP, hK, hD0⟩ := hv
  have hx := B.exec
  have hb := B.bytes
  have hr := B.returns
  have hts := atoms_spec (ws := wmX1_keepOnly) B.pre
  have hown : s.vm.findClass RX1 = some m.cls := findClass_of_methodNamed B.named
  have hlocks := B.notSynchronized
  subst hsz
  have hD := hD0.self (sz := s.heap.size)
  generalize hAe : va_A [(q_t, zX1 q_t_parts v_t_states v_t_exponent), (q_t_parts, zJ cJ 64 f_t_parts)] s.heap.size = A at hD ⊢
  have hA : ∀ q : Nat, s.heap.size ≤ q → A q := fun q h => by rw [← hAe]; exact Or.inr h
  have hS : va_S A s.heap s.heap [] := va_S.rf
  have hP : va_P D vwCl [(q_t, zX1 q_t_parts v_t_states v_t_exponent), (q_t_parts, zJ cJ 64 f_t_parts)] s.heap := hP
  have hw_1 := hts _ (z_in wm_123)
  have hw_2 : ∀ w ∈ u_ws RX1 TX1 3, w ∈ wmX1_keepOnly := fun w h => z_in (wi_wsX10 w h)
  have hw_3 := hts _ (z_in wm_122)
  have hl := lv_entry ([.ref q_t, .int a1, .int a2]) (n := 4) (Nat.le_of_ble_eq_true rfl)
  rw [lg_entry_eq]
  generalize (lg_sl ([.ref q_t, .int a1, .int a2]) ++ List.replicate (4 - (lg_sl ([.ref q_t, .int a1, .int a2])).length) Slot.unset).toArray = ls at hl ⊢
  have hl : lv_has ls 4 [(0, .ref q_t), (1, .int a1), (2, .int a2)] := hl
  have L_2 : ∀ (n : Nat), ∀ (x1 : Int32) (x2 : Int32) (x3 : Int32) (f_t_parts : Nat → Int64) (H : Heap) (locs : List Loc) (ls : Array Slot), va_P D vwCl [(q_t, zX1 q_t_parts v_t_states v_t_exponent), (q_t_parts, zJ cJ 64 f_t_parts)] H → va_D A [(q_t, zX1 q_t_parts v_t_states v_t_exponent), (q_t_parts, zJ cJ 64 f_t_parts)] → va_S A s.heap H locs → lv_has ls 4 [(0, .ref q_t), (1, .int x1), (2, .int x2), (3, .int x3)] → wpX1_keepOnly_2 Q  v_t_states n x1 x2 x3 f_t_parts → W p l e (headSpec wmX1_keepOnly zrX1_keepOnly).room s m ([.ref q_t, .int a1, .int a2] : List Value).toArray below meth c H locs 0 0 (MQ below (va_Qv (fun u : (Nat → Int64) => Q u) (fun u t => zAt D A [(q_t, zX1 q_t_parts v_t_states v_t_exponent), (q_t_parts, zJ cJ 64 u)] t) A) ([.ref q_t, .int a1, .int a2] : List Value).toArray s 0 0 A) (F0 m 2 ls []) := by
    intro n
    induction n with
    | zero => intro x1 x2 x3 f_t_parts H locs ls hP hD hS hl hw; exact False.elim hw
    | succ n_2 ih_2 =>
      intro x1 x2 x3 f_t_parts H locs ls hP hD hS hl hw
      have hw : wpX1_keepOnly_2b Q  (wpX1_keepOnly_2 Q  v_t_states n_2) v_t_states x1 x2 x3 f_t_parts := hw
      refine lv_iload_n hx hb dX1_keepOnly_2 rfl (lv_at hl 3 rfl) ?_
      refine lv_iconst (v := 4) hx hb dX1_keepOnly_3 (by decide) ?_
      refine lv_aload_n hx hb dX1_keepOnly_4 rfl (lv_at hl 0 rfl) ?_
      refine va_get (D := D) (ci := 1) (v := .int v_t_states) (C := RX1) (T := TX1) (N := 3) hx hb hts hw_2 hown hK hP 0 rfl rfl 1 (by decide) hw_1 (fun _ h9 => h9) rfl dX1_keepOnly_5 ?_
      refine lv_imul hx hb dX1_keepOnly_8 ?_
      refine lv_icmp_ge (tgt := 36) hx hb dX1_keepOnly_9 (by decide) (fun c1 => ?_) (fun c1 => ?_)
      · have hw := hw.1 c1
        exact W.vret hx hb hr (fun t ht hW => ⟨⟨(f_t_parts), rfl, hw, ⟨by rw [ht]; exact hP, hD⟩⟩, hS.F ht⟩) hS.2.2 dX1_keepOnly_36
      · have hw := hw.2 c1
        refine lv_iload_n hx hb dX1_keepOnly_12 rfl (lv_at hl 3 rfl) ?_
        refine lv_iconst (v := 4) hx hb dX1_keepOnly_13 (by decide) ?_
        refine lv_idiv hx hb dX1_keepOnly_14 (by decide) ?_
        refine lv_iload_n hx hb dX1_keepOnly_15 rfl (lv_at hl 1 rfl) ?_
        refine lv_ishr hx hb dX1_keepOnly_16 ?_
        refine lv_iconst (v := 1) hx hb dX1_keepOnly_17 (by decide) ?_
        refine lv_iand hx hb dX1_keepOnly_18 ?_
        refine lv_iload_n hx hb dX1_keepOnly_19 rfl (lv_at hl 2 rfl) ?_
        refine lv_icmp_eq (tgt := 30) hx hb dX1_keepOnly_20 (by decide) (fun c2 => ?_) (fun c2 => ?_)
        · have hw := hw.1 c2
          refine lv_iinc (v := (x3 + 1)) (lv' := [(3, .int (x3 + 1)), (0, .ref q_t), (1, .int x1), (2, .int x2)]) hx hb dX1_keepOnly_30 hl (k := 3) rfl rfl (by decide) rfl (fun ls hl => ?_)
          refine lv_goto (tgt := 2) hx hb dX1_keepOnly_33 (by decide) ?_
          exact ih_2 x1 x2 (x3 + 1) f_t_parts _ _ _ hP hD hS (lv_sub hl [1, 2, 3, 0] rfl) hw
        · have hw := hw.2 c2
          refine lv_aload_n hx hb dX1_keepOnly_23 rfl (lv_at hl 0 rfl) ?_
          refine va_get (D := D) (ci := 1) (v := .ref q_t_parts) (C := RX1) (T := TX1) (N := 3) hx hb hts hw_2 hown hK hP 0 rfl rfl 0 (by decide) hw_3 (fun _ h9 => h9) rfl dX1_keepOnly_24 ?_
          refine lv_iload_n hx hb dX1_keepOnly_27 rfl (lv_at hl 3 rfl) ?_
          refine lv_lconst (v := 0) hx hb dX1_keepOnly_28 (by decide) ?_
          obtain ⟨h3, hw⟩ := hw
          refine va_last hx hb hK hP hD hS 1 1 rfl rfl h3 dX1_keepOnly_29 (fun H locs hP hD hS => ?_)
          have hP : va_P D vwCl [(q_t, zX1 q_t_parts v_t_states v_t_exponent), (q_t_parts, zJ cJ 64 (vp_updL f_t_parts x3.toNatClampNeg 0))] H := hP
          have hD : va_D A [(q_t, zX1 q_t_parts v_t_states v_t_exponent), (q_t_parts, zJ cJ 64 (vp_updL f_t_parts x3.toNatClampNeg 0))] := hD
          refine lv_iinc (v := (x3 + 1)) (lv' := [(3, .int (x3 + 1)), (0, .ref q_t), (1, .int x1), (2, .int x2)]) hx hb dX1_keepOnly_30 hl (k := 3) rfl rfl (by decide) rfl (fun ls hl => ?_)
          refine lv_goto (tgt := 2) hx hb dX1_keepOnly_33 (by decide) ?_
          exact ih_2 x1 x2 (x3 + 1) (vp_updL f_t_parts x3.toNatClampNeg 0) _ _ _ hP hD hS (lv_sub hl [1, 2, 3, 0] rfl) hw
  refine lv_iconst (v := 0) hx hb dX1_keepOnly_0 (by decide) ?_
  refine lv_istore_n (lv' := [(3, .int 0), (0, .ref q_t), (1, .int a1), (2, .int a2)]) hx hb dX1_keepOnly_1 rfl hl (by decide) rfl (fun ls hl => ?_)
  obtain ⟨n_2, hw⟩ := hw
  exact L_2 n_2 a1 a2 0 f_t_parts _ _ _ hP hD hS (lv_sub hl [1, 2, 3, 0] rfl) hw
