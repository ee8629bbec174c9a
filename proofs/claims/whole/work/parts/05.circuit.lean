/-! Walks, written by wip/whole/gen.py out of the listing of the class. -/
def zvX0_count  (v_t_count : Int32) : Int32 := v_t_count
abbrev zrX0_count : Room := { frames := 0, cells := 0, slots := 0, locals := 0 }
set_option maxHeartbeats 4000000 in
set_option maxRecDepth 100000 in
theorem zkX0_count (l : Launch) (D : va_G) (cI cJ cC : ClassId) (q_t q_t_gates : Nat)  (v_t_count : Int32) : Met l yX0_count wmX0_count zrX0_count (zPreR D (zT cI cJ cC) [(q_t, zX0 q_t_gates v_t_count)] [.ref q_t]) (vp_Si (fun r => r = zvX0_count v_t_count)) 0 0 (fun _ => False) := by
  refine Met.ofW (cc := cX0_count) (maxL := 1) (ret := (some .int)) (by decide) rfl ?_
  intro p e s m args below meth c s₁ B hml hv
  obtain ⟨rfl, hP, hK⟩ := hv
  have hx := B.exec
  have hb := B.bytes
  have hr := B.returns
  have hts := atoms_spec (ws := wmX0_count) B.pre
  have hown : s.vm.findClass RX0 = some m.cls := findClass_of_methodNamed B.named
  have hlocks := B.notSynchronized
  have hw_1 := hts _ (z_in wm_6)
  have hw_2 : ∀ w ∈ u_ws RX0 TX0 2, w ∈ wmX0_count := fun w h => z_in (wi_wsX00 w h)
  have hl := lv_entry ([.ref q_t]) (n := 1) (Nat.le_of_ble_eq_true rfl)
  rw [lg_entry_eq]
  generalize (lg_sl ([.ref q_t]) ++ List.replicate (1 - (lg_sl ([.ref q_t])).length) Slot.unset).toArray = ls at hl ⊢
  have hl : lv_has ls 1 [(0, .ref q_t)] := hl
  refine lv_aload_n hx hb dX0_count_0 rfl (lv_at hl 0 rfl) ?_
  refine va_get (D := D) (ci := 0) (v := .int v_t_count) (C := RX0) (T := TX0) (N := 2) hx hb hts hw_2 hown hK hP 0 rfl rfl 1 (by decide) hw_1 (fun _ h9 => h9) rfl dX0_count_1 ?_
  exact W.iret (v := v_t_count) hx hb hr (fun t ht hW => ⟨_, rfl, (by rw [zvX0_count]), ht⟩) (fun _ h => by cases h) dX0_count_4

def wpX0_at (Q : Int32 → Prop) (a1 : Int32) (v_t_count : Int32) (f_t_gates : Nat → Int32)  : Prop := ((a1 < 0 → Q (-1)) ∧ (¬ a1 < 0 → ((v_t_count ≤ a1 → Q (-1)) ∧ (¬ v_t_count ≤ a1 → vp_in a1 64 ∧ Q (f_t_gates a1.toNatClampNeg)))))
abbrev zrX0_at : Room := { frames := 0, cells := 0, slots := 0, locals := 0 }
set_option maxHeartbeats 4000000 in
set_option maxRecDepth 100000 in
theorem zkX0_at (l : Launch) (D : va_G) (cI cJ cC : ClassId) (q_t q_t_gates : Nat) (a1 : Int32) (v_t_count : Int32) (f_t_gates : Nat → Int32) {Q : Int32 → Prop} (hw : wpX0_at Q a1 v_t_count f_t_gates) : Met l yX0_at wmX0_at zrX0_at (zPreR D (zT cI cJ cC) [(q_t, zX0 q_t_gates v_t_count), (q_t_gates, zI cI 64 f_t_gates)] [.ref q_t, .int a1]) (vp_Si (fun r => Q r)) 0 0 (fun _ => False) := by
  refine Met.ofW (cc := cX0_at) (maxL := 2) (ret := (some .int)) (by decide) rfl ?_
  intro p e s m args below meth c s₁ B hml hv
  obtain ⟨rfl, hP, hK⟩ := hv
  have hx := B.exec
  have hb := B.bytes
  have hr := B.returns
  have hts := atoms_spec (ws := wmX0_at) B.pre
  have hown : s.vm.findClass RX0 = some m.cls := findClass_of_methodNamed B.named
  have hlocks := B.notSynchronized
  have hw_1 := hts _ (z_in wm_6)
  have hw_2 : ∀ w ∈ u_ws RX0 TX0 2, w ∈ wmX0_at := fun w h => z_in (wi_wsX00 w h)
  have hw_3 := hts _ (z_in wm_5)
  have hl := lv_entry ([.ref q_t, .int a1]) (n := 2) (Nat.le_of_ble_eq_true rfl)
  rw [lg_entry_eq]
  generalize (lg_sl ([.ref q_t, .int a1]) ++ List.replicate (2 - (lg_sl ([.ref q_t, .int a1])).length) Slot.unset).toArray = ls at hl ⊢
  have hl : lv_has ls 2 [(0, .ref q_t), (1, .int a1)] := hl
  refine lv_iload_n hx hb dX0_at_0 rfl (lv_at hl 1 rfl) ?_
  refine lv_if_lt (tgt := 21) hx hb dX0_at_1 (by decide) (fun c1 => ?_) (fun c1 => ?_)
  · have hw := hw.1 c1
    refine lv_iconst (v := -1) hx hb dX0_at_21 (by decide) ?_
    exact W.iret (v := (-1)) hx hb hr (fun t ht hW => ⟨_, rfl, hw, ht⟩) (fun _ h => by cases h) dX0_at_22
  · have hw := hw.2 c1
    refine lv_iload_n hx hb dX0_at_4 rfl (lv_at hl 1 rfl) ?_
    refine lv_aload_n hx hb dX0_at_5 rfl (lv_at hl 0 rfl) ?_
    refine va_get (D := D) (ci := 0) (v := .int v_t_count) (C := RX0) (T := TX0) (N := 2) hx hb hts hw_2 hown hK hP 0 rfl rfl 1 (by decide) hw_1 (fun _ h9 => h9) rfl dX0_at_6 ?_
    refine lv_icmp_ge (tgt := 21) hx hb dX0_at_9 (by decide) (fun c2 => ?_) (fun c2 => ?_)
    · have hw := hw.1 c2
      refine lv_iconst (v := -1) hx hb dX0_at_21 (by decide) ?_
      exact W.iret (v := (-1)) hx hb hr (fun t ht hW => ⟨_, rfl, hw, ht⟩) (fun _ h => by cases h) dX0_at_22
    · have hw := hw.2 c2
      refine lv_aload_n hx hb dX0_at_12 rfl (lv_at hl 0 rfl) ?_
      refine va_get (D := D) (ci := 0) (v := .ref q_t_gates) (C := RX0) (T := TX0) (N := 2) hx hb hts hw_2 hown hK hP 0 rfl rfl 0 (by decide) hw_3 (fun _ h9 => h9) rfl dX0_at_13 ?_
      refine lv_iload_n hx hb dX0_at_16 rfl (lv_at hl 1 rfl) ?_
      obtain ⟨h3, hw⟩ := hw
      refine va_iald hx hb hK hP 1 0 rfl rfl h3 dX0_at_17 ?_
      refine lv_goto (tgt := 22) hx hb dX0_at_18 (by decide) ?_
      exact W.iret (v := (f_t_gates a1.toNatClampNeg)) hx hb hr (fun t ht hW => ⟨_, rfl, hw, ht⟩) (fun _ h => by cases h) dX0_at_22

def wpX0_removeAll (Q : (Int32) → Prop)   (v_t_count : Int32) : Prop := Q 0
abbrev zrX0_removeAll : Room := { frames := 0, cells := 0, slots := 0, locals := 0 }
set_option maxHeartbeats 4000000 in
set_option maxRecDepth 100000 in
theorem zkX0_removeAll (l : Launch) (D : va_G) (cI cJ cC : ClassId) (q_t q_t_gates : Nat) (sz : Nat)  (v_t_count : Int32) {Q : (Int32) → Prop} (hw : wpX0_removeAll Q v_t_count) : Met l yX0_removeAll wmX0_removeAll zrX0_removeAll (zPreW D (zT cI cJ cC) [(q_t, zX0 q_t_gates v_t_count)] sz [.ref q_t]) (va_Qv (fun u : (Int32) => Q u) (fun u t => zAt D (va_A [(q_t, zX0 q_t_gates v_t_count)] sz) [(q_t, zX0 q_t_gates u)] t) (va_A [(q_t, zX0 q_t_gates v_t_count)] sz)) 0 0 (va_A [(q_t, zX0 q_t_gates v_t_count)] sz) := by
  refine Met.ofW (cc := cX0_removeAll) (maxL := 1) (ret := none) (by decide) rfl ?_
  intro p e s m args below meth c s₁ B hml hv
  obtain ⟨rfl, hsz, hP, hK, hD0⟩ := hv
  have hx := B.exec
  have hb := B.bytes
  have hr := B.returns
  have hts := atoms_spec (ws := wmX0_removeAll) B.pre
  have hown : s.vm.findClass RX0 = some m.cls := findClass_of_methodNamed B.named
  have hlocks := B.notSynchronized
  subst hsz
  have hD := hD0.self (sz := s.heap.size)
  generalize hAe : va_A [(q_t, zX0 q_t_gates v_t_count)] s.heap.size = A at hD ⊢
  have hA : ∀ q : Nat, s.heap.size ≤ q → A q := fun q h => by rw [← hAe]; exact Or.inr h
  have hS : va_S A s.heap s.heap [] := va_S.rf
  have hP : va_P D vwCl [(q_t, zX0 q_t_gates v_t_count)] s.heap := hP
  have hw_1 := hts _ (z_in wm_6)
  have hw_2 : ∀ w ∈ u_ws RX0 TX0 2, w ∈ wmX0_removeAll := fun w h => z_in (wi_wsX00 w h)
  have hl := lv_entry ([.ref q_t]) (n := 1) (Nat.le_of_ble_eq_true rfl)
  rw [lg_entry_eq]
  generalize (lg_sl ([.ref q_t]) ++ List.replicate (1 - (lg_sl ([.ref q_t])).length) Slot.unset).toArray = ls at hl ⊢
  have hl : lv_has ls 1 [(0, .ref q_t)] := hl
  refine lv_aload_n hx hb dX0_removeAll_0 rfl (lv_at hl 0 rfl) ?_
  refine lv_iconst (v := 0) hx hb dX0_removeAll_1 (by decide) ?_
  refine va_put (D := D) (ci := 0) (v := .int 0) (ty := .int) (C := RX0) (T := TX0) (N := 2) hx hb hts hw_2 tyX0 tyX0_ok nmX0 hown hK hP hD hS 0 rfl rfl 1 (by decide) hw_1 (fun _ h9 => h9) rfl (by decide +kernel) rfl rfl (Nat.le_of_ble_eq_true rfl) dX0_removeAll_2 (fun H locs hP hD hS => ?_)
  have hP : va_P D vwCl [(q_t, zX0 q_t_gates 0)] H := hP
  have hD : va_D A [(q_t, zX0 q_t_gates 0)] := hD
  exact W.vret hx hb hr (fun t ht hW => ⟨⟨(0), rfl, hw, ⟨by rw [ht]; exact hP, hD⟩⟩, hS.F ht⟩) hS.2.2 dX0_removeAll_5

def wpX0_add (Q : (Int32) → (Nat → Int32) → Prop) (a1 : Int32)  (v_t_count : Int32) (f_t_gates : Nat → Int32) : Prop := ((64 ≤ v_t_count → Q v_t_count f_t_gates) ∧ (¬ 64 ≤ v_t_count → vp_in v_t_count 64 ∧ Q (v_t_count + 1) (upd f_t_gates v_t_count.toNatClampNeg a1)))
abbrev zrX0_add : Room := { frames := 0, cells := 0, slots := 0, locals := 0 }
set_option maxHeartbeats 4000000 in
set_option maxRecDepth 100000 in
theorem zkX0_add (l : Launch) (D : va_G) (cI cJ cC : ClassId) (q_t q_t_gates : Nat) (sz : Nat) (a1 : Int32) (v_t_count : Int32) (f_t_gates : Nat → Int32) {Q : (Int32) → (Nat → Int32) → Prop} (hw : wpX0_add Q a1 v_t_count f_t_gates) : Met l yX0_add wmX0_add zrX0_add (zPreW D (zT cI cJ cC) [(q_t, zX0 q_t_gates v_t_count), (q_t_gates, zI cI 64 f_t_gates)] sz [.ref q_t, .int a1]) (va_Qv (fun u : (Int32) × (Nat → Int32) => Q (u.1) (u.2)) (fun u t => zAt D (va_A [(q_t, zX0 q_t_gates v_t_count), (q_t_gates, zI cI 64 f_t_gates)] sz) [(q_t, zX0 q_t_gates (u.1)), (q_t_gates, zI cI 64 (u.2))] t) (va_A [(q_t, zX0 q_t_gates v_t_count), (q_t_gates, zI cI 64 f_t_gates)] sz)) 0 0 (va_A [(q_t, zX0 q_t_gates v_t_count), (q_t_gates, zI cI 64 f_t_gates)] sz) := by
  refine Met.ofW (cc := cX0_add) (maxL := 2) (ret := none) (by decide) rfl ?_
  intro p e s m args below meth c s₁ B hml hv
  obtain ⟨rfl, hsz, hP, hK, hD0⟩ := hv
  have hx := B.exec
  have hb := B.bytes
  have hr := B.returns
  have hts := atoms_spec (ws := wmX0_add) B.pre
  have hown : s.vm.findClass RX0 = some m.cls := findClass_of_methodNamed B.named
  have hlocks := B.notSynchronized
  subst hsz
  have hD := hD0.self (sz := s.heap.size)
  generalize hAe : va_A [(q_t, zX0 q_t_gates v_t_count), (q_t_gates, zI cI 64 f_t_gates)] s.heap.size = A at hD ⊢
  have hA : ∀ q : Nat, s.heap.size ≤ q → A q := fun q h => by rw [← hAe]; exact Or.inr h
  have hS : va_S A s.heap s.heap [] := va_S.rf
  have hP : va_P D vwCl [(q_t, zX0 q_t_gates v_t_count), (q_t_gates, zI cI 64 f_t_gates)] s.heap := hP
  have hw_1 := hts _ (z_in wm_6)
  have hw_2 : ∀ w ∈ u_ws RX0 TX0 2, w ∈ wmX0_add := fun w h => z_in (wi_wsX00 w h)
  have hw_3 := hts _ (z_in wm_5)
  have hl := lv_entry ([.ref q_t, .int a1]) (n := 2) (Nat.le_of_ble_eq_true rfl)
  rw [lg_entry_eq]
  generalize (lg_sl ([.ref q_t, .int a1]) ++ List.replicate (2 - (lg_sl ([.ref q_t, .int a1])).length) Slot.unset).toArray = ls at hl ⊢
  have hl : lv_has ls 2 [(0, .ref q_t), (1, .int a1)] := hl
  refine lv_aload_n hx hb dX0_add_0 rfl (lv_at hl 0 rfl) ?_
  refine va_get (D := D) (ci := 0) (v := .int v_t_count) (C := RX0) (T := TX0) (N := 2) hx hb hts hw_2 hown hK hP 0 rfl rfl 1 (by decide) hw_1 (fun _ h9 => h9) rfl dX0_add_1 ?_
  refine lv_bipush (v := 64) hx hb dX0_add_4 (by decide) ?_
  refine lv_icmp_ge (tgt := 29) hx hb dX0_add_6 (by decide) (fun c1 => ?_) (fun c1 => ?_)
  · have hw := hw.1 c1
    exact W.vret hx hb hr (fun t ht hW => ⟨⟨(v_t_count, f_t_gates), rfl, hw, ⟨by rw [ht]; exact hP, hD⟩⟩, hS.F ht⟩) hS.2.2 dX0_add_29
  · have hw := hw.2 c1
    refine lv_aload_n hx hb dX0_add_9 rfl (lv_at hl 0 rfl) ?_
    refine va_get (D := D) (ci := 0) (v := .ref q_t_gates) (C := RX0) (T := TX0) (N := 2) hx hb hts hw_2 hown hK hP 0 rfl rfl 0 (by decide) hw_3 (fun _ h9 => h9) rfl dX0_add_10 ?_
    refine lv_aload_n hx hb dX0_add_13 rfl (lv_at hl 0 rfl) ?_
    refine va_get (D := D) (ci := 0) (v := .int v_t_count) (C := RX0) (T := TX0) (N := 2) hx hb hts hw_2 hown hK hP 0 rfl rfl 1 (by decide) hw_1 (fun _ h9 => h9) rfl dX0_add_14 ?_
    refine lv_iload_n hx hb dX0_add_17 rfl (lv_at hl 1 rfl) ?_
    obtain ⟨h2, hw⟩ := hw
    refine va_iast hx hb hK hP hD hS 1 0 rfl rfl h2 dX0_add_18 (fun H locs hP hD hS => ?_)
    have hP : va_P D vwCl [(q_t, zX0 q_t_gates v_t_count), (q_t_gates, zI cI 64 (upd f_t_gates v_t_count.toNatClampNeg a1))] H := hP
    have hD : va_D A [(q_t, zX0 q_t_gates v_t_count), (q_t_gates, zI cI 64 (upd f_t_gates v_t_count.toNatClampNeg a1))] := hD
    refine lv_aload_n hx hb dX0_add_19 rfl (lv_at hl 0 rfl) ?_
    refine lv_dup hx hb dX0_add_20 rfl ?_
    refine va_get (D := D) (ci := 0) (v := .int v_t_count) (C := RX0) (T := TX0) (N := 2) hx hb hts hw_2 hown hK hP 0 rfl rfl 1 (by decide) hw_1 (fun _ h9 => h9) rfl dX0_add_21 ?_
    refine lv_iconst (v := 1) hx hb dX0_add_24 (by decide) ?_
    refine lv_iadd hx hb dX0_add_25 ?_
    refine va_put (D := D) (ci := 0) (v := .int (v_t_count + 1)) (ty := .int) (C := RX0) (T := TX0) (N := 2) hx hb hts hw_2 tyX0 tyX0_ok nmX0 hown hK hP hD hS 0 rfl rfl 1 (by decide) hw_1 (fun _ h9 => h9) rfl (by decide +kernel) rfl rfl (Nat.le_of_ble_eq_true rfl) dX0_add_26 (fun H locs hP hD hS => ?_)
    have hP : va_P D vwCl [(q_t, zX0 q_t_gates (v_t_count + 1)), (q_t_gates, zI cI 64 (upd f_t_gates v_t_count.toNatClampNeg a1))] H := hP
    have hD : va_D A [(q_t, zX0 q_t_gates (v_t_count + 1)), (q_t_gates, zI cI 64 (upd f_t_gates v_t_count.toNatClampNeg a1))] := hD
    exact W.vret hx hb hr (fun t ht hW => ⟨⟨((v_t_count + 1), (upd f_t_gates v_t_count.toNatClampNeg a1)), rfl, hw, ⟨by rw [ht]; exact hP, hD⟩⟩, hS.F ht⟩) hS.2.2 dX0_add_29

def wpX0_addAll_7b (Q : (Int32) → (Nat → Int32) → Prop)  (R_7 : (Int32) → (Int32) → (Int32) → (Nat → Int32) → Prop) (v_a1_count : Int32) (f_a1_gates : Nat → Int32) (x2 : Int32) (x3 : Int32) (v_t_count : Int32) (f_t_gates : Nat → Int32) : Prop := ((x2 ≤ x3 → Q v_t_count f_t_gates) ∧ (¬ x2 ≤ x3 → wpX0_at (fun r2 : Int32 => wpX0_add (fun (u3 : Int32) (u4 : Nat → Int32) => R_7 x2 (x3 + 1) u3 u4) r2 v_t_count f_t_gates) x3 v_a1_count f_a1_gates))
def wpX0_addAll_7 (Q : (Int32) → (Nat → Int32) → Prop)  (v_a1_count : Int32) (f_a1_gates : Nat → Int32) : Nat → (Int32) → (Int32) → (Int32) → (Nat → Int32) → Prop
  | 0 => fun _ _ _ _ => False
  | n + 1 => fun x2 x3 v_t_count f_t_gates => wpX0_addAll_7b Q  (wpX0_addAll_7 Q  v_a1_count f_a1_gates n) v_a1_count f_a1_gates x2 x3 v_t_count f_t_gates
def wpX0_addAll (Q : (Int32) → (Nat → Int32) → Prop)  (v_a1_count : Int32) (f_a1_gates : Nat → Int32) (v_t_count : Int32) (f_t_gates : Nat → Int32) : Prop := ∃ n : Nat, wpX0_addAll_7 Q  v_a1_count f_a1_gates n v_a1_count 0 v_t_count f_t_gates
abbrev zrX0_addAll : Room := { frames := 1, cells := 0, slots := 0, locals := 21 }
set_option maxHeartbeats 4000000 in
set_option maxRecDepth 100000 in
theorem zkX0_addAll (l : Launch) (D : va_G) (cI cJ cC : ClassId) (q_t q_a1 q_t_gates q_a1_gates : Nat) (sz : Nat)  (v_t_count : Int32) (v_a1_count : Int32) (f_t_gates : Nat → Int32) (f_a1_gates : Nat → Int32) {Q : (Int32) → (Nat → Int32) → Prop} (hw : wpX0_addAll Q v_a1_count f_a1_gates v_t_count f_t_gates) : Met l yX0_addAll wmX0_addAll zrX0_addAll (zPreW D (zT cI cJ cC) [(q_t, zX0 q_t_gates v_t_count), (q_a1, zX0 q_a1_gates v_a1_count), (q_t_gates, zI cI 64 f_t_gates), (q_a1_gates, zI cI 64 f_a1_gates)] sz [.ref q_t, .ref q_a1]) (va_Qv (fun u : (Int32) × (Nat → Int32) => Q (u.1) (u.2)) (fun u t => zAt D (va_A [(q_t, zX0 q_t_gates v_t_count), (q_a1, zX0 q_a1_gates v_a1_count), (q_t_gates, zI cI 64 f_t_gates), (q_a1_gates, zI cI 64 f_a1_gates)] sz) [(q_t, zX0 q_t_gates (u.1)), (q_a1, zX0 q_a1_gates v_a1_count), (q_t_gates, zI cI 64 (u.2)), (q_a1_gates, zI cI 64 f_a1_gates)] t) (va_A [(q_t, zX0 q_t_gates v_t_count), (q_a1, zX0 q_a1_gates v_a1_count), (q_t_gates, zI cI 64 f_t_gates), (q_a1_gates, zI cI 64 f_a1_gates)] sz)) 0 0 (va_A [(q_t, zX0 q_t_gates v_t_count), (q_a1, zX0 q_a1_gates v_a1_count), (q_t_gates, zI cI 64 f_t_gates), (q_a1_gates, zI cI 64 f_a1_gates)] sz) := by
  refine Met.ofW (cc := cX0_addAll) (maxL := 4) (ret := none) (by decide) rfl ?_
  intro p e s m args below meth c s₁ B hml hv
  obtain ⟨rfl, hsz, hP, hK, hD0⟩ := hv
  have hx := B.exec
  have hb := B.bytes
  have hr := B.returns
  have hts := atoms_spec (ws := wmX0_addAll) B.pre
  have hown : s.vm.findClass RX0 = some m.cls := findClass_of_methodNamed B.named
  have hlocks := B.notSynchronized
  subst hsz
  have hD := hD0.self (sz := s.heap.size)
  generalize hAe : va_A [(q_t, zX0 q_t_gates v_t_count), (q_a1, zX0 q_a1_gates v_a1_count), (q_t_gates, zI cI 64 f_t_gates), (q_a1_gates, zI cI 64 f_a1_gates)] s.heap.size = A at hD ⊢
  have hA : ∀ q : Nat, s.heap.size ≤ q → A q := fun q h => by rw [← hAe]; exact Or.inr h
  have hS : va_S A s.heap s.heap [] := va_S.rf
  have hP : va_P D vwCl [(q_t, zX0 q_t_gates v_t_count), (q_a1, zX0 q_a1_gates v_a1_count), (q_t_gates, zI cI 64 f_t_gates), (q_a1_gates, zI cI 64 f_a1_gates)] s.heap := hP
  have hw_1 := hts _ (z_in wm_6)
  have hw_2 : ∀ w ∈ u_ws RX0 TX0 2, w ∈ wmX0_addAll := fun w h => z_in (wi_wsX00 w h)
  have hl := lv_entry ([.ref q_t, .ref q_a1]) (n := 4) (Nat.le_of_ble_eq_true rfl)
  rw [lg_entry_eq]
  generalize (lg_sl ([.ref q_t, .ref q_a1]) ++ List.replicate (4 - (lg_sl ([.ref q_t, .ref q_a1])).length) Slot.unset).toArray = ls at hl ⊢
  have hl : lv_has ls 4 [(0, .ref q_t), (1, .ref q_a1)] := hl
  have L_7 : ∀ (n : Nat), ∀ (x2 : Int32) (x3 : Int32) (v_t_count : Int32) (f_t_gates : Nat → Int32) (H : Heap) (locs : List Loc) (ls : Array Slot), va_P D vwCl [(q_t, zX0 q_t_gates v_t_count), (q_a1, zX0 q_a1_gates v_a1_count), (q_t_gates, zI cI 64 f_t_gates), (q_a1_gates, zI cI 64 f_a1_gates)] H → va_D A [(q_t, zX0 q_t_gates v_t_count), (q_a1, zX0 q_a1_gates v_a1_count), (q_t_gates, zI cI 64 f_t_gates), (q_a1_gates, zI cI 64 f_a1_gates)] → va_S A s.heap H locs → lv_has ls 4 [(0, .ref q_t), (1, .ref q_a1), (2, .int x2), (3, .int x3)] → wpX0_addAll_7 Q  v_a1_count f_a1_gates n x2 x3 v_t_count f_t_gates → W p l e (headSpec wmX0_addAll zrX0_addAll).room s m ([.ref q_t, .ref q_a1] : List Value).toArray below meth c H locs 0 0 (MQ below (va_Qv (fun u : (Int32) × (Nat → Int32) => Q (u.1) (u.2)) (fun u t => zAt D A [(q_t, zX0 q_t_gates (u.1)), (q_a1, zX0 q_a1_gates v_a1_count), (q_t_gates, zI cI 64 (u.2)), (q_a1_gates, zI cI 64 f_a1_gates)] t) A) ([.ref q_t, .ref q_a1] : List Value).toArray s 0 0 A) (F0 m 7 ls []) := by
    intro n
    induction n with
    | zero => intro x2 x3 v_t_count f_t_gates H locs ls hP hD hS hl hw; exact False.elim hw
    | succ n_7 ih_7 =>
      intro x2 x3 v_t_count f_t_gates H locs ls hP hD hS hl hw
      have hw : wpX0_addAll_7b Q  (wpX0_addAll_7 Q  v_a1_count f_a1_gates n_7) v_a1_count f_a1_gates x2 x3 v_t_count f_t_gates := hw
      refine lv_iload_n hx hb dX0_addAll_7 rfl (lv_at hl 3 rfl) ?_
      refine lv_iload_n hx hb dX0_addAll_8 rfl (lv_at hl 2 rfl) ?_
      refine lv_icmp_ge (tgt := 27) hx hb dX0_addAll_9 (by decide) (fun c1 => ?_) (fun c1 => ?_)
      · have hw := hw.1 c1
        exact W.vret hx hb hr (fun t ht hW => ⟨⟨(v_t_count, f_t_gates), rfl, hw, ⟨by rw [ht]; exact hP, hD⟩⟩, hS.F ht⟩) hS.2.2 dX0_addAll_27
      · have hw := hw.2 c1
        refine lv_aload_n hx hb dX0_addAll_12 rfl (lv_at hl 0 rfl) ?_
        refine lv_aload_n hx hb dX0_addAll_13 rfl (lv_at hl 1 rfl) ?_
        refine lv_iload_n hx hb dX0_addAll_14 rfl (lv_at hl 3 rfl) ?_
        refine z_ri (va_runV (As := [.int x3]) (rest := [.ref q_t]) ⟨hx, hb, hml, hown, hts⟩ (zkX0_at l D cI cJ cC q_a1 q_a1_gates x3 v_a1_count f_a1_gates hw) (cwV 1 hts (z_gV wm_12 wm_13 wm_14 wm_15 wm_8) rfl rfl rfl (by decide +kernel) ⟨Nat.le_of_ble_eq_true rfl, Nat.le_of_ble_eq_true rfl⟩) (z_pvR hK hP [1, 3] rfl 1 0 rfl rfl) rfl rfl hl.1 rfl (lv_room (Nat.le_of_ble_eq_true rfl)) dX0_addAll_15 ⟨Nat.zero_le _, Nat.zero_le _⟩) (fun r2 hw => ?_)
        refine z_wv (wc := [(q_t, zX0 q_t_gates v_t_count), (q_t_gates, zI cI 64 f_t_gates)]) (wr := [(q_a1, zX0 q_a1_gates v_a1_count), (q_a1_gates, zI cI 64 f_a1_gates)]) (W1 := fun u : (Int32) × (Nat → Int32) => [(q_t, zX0 q_t_gates (u.1)), (q_t_gates, zI cI 64 (u.2))]) (va_runV (As := [.int r2]) (rest := []) ⟨hx, hb, hml, hown, hts⟩ (zkX0_add l D cI cJ cC q_t q_t_gates _ r2 v_t_count f_t_gates hw) (cwV 1 hts (z_gV wm_16 wm_17 wm_18 wm_15 wm_10) rfl rfl rfl (by decide +kernel) ⟨Nat.le_of_ble_eq_true rfl, Nat.le_of_ble_eq_true rfl⟩) (z_pvW hK hP hD [0, 2] rfl (by decide) rfl 0 0 rfl rfl) rfl rfl hl.1 rfl (lv_room (Nat.le_of_ble_eq_true rfl)) dX0_addAll_18 ⟨Nat.zero_le _, Nat.zero_le _⟩) hP hD hS hA [0, 2] [1, 3] rfl rfl (by decide) (by decide) (fun u9 H locs hw hP hD hS => ?_)
        obtain ⟨u3, u4⟩ := u9
        have hP : va_P D vwCl [(q_a1, zX0 q_a1_gates v_a1_count), (q_a1_gates, zI cI 64 f_a1_gates), (q_t, zX0 q_t_gates u3), (q_t_gates, zI cI 64 u4)] H := hP
        have hD : va_D A [(q_a1, zX0 q_a1_gates v_a1_count), (q_a1_gates, zI cI 64 f_a1_gates), (q_t, zX0 q_t_gates u3), (q_t_gates, zI cI 64 u4)] := hD
        try dsimp only at hw
        refine lv_iinc (v := (x3 + 1)) (lv' := [(3, .int (x3 + 1)), (0, .ref q_t), (1, .ref q_a1), (2, .int x2)]) hx hb dX0_addAll_21 hl (k := 3) rfl rfl (by decide) rfl (fun ls hl => ?_)
        refine lv_goto (tgt := 7) hx hb dX0_addAll_24 (by decide) ?_
        exact ih_7 x2 (x3 + 1) u3 u4 _ _ _ (hP.sub [2, 0, 3, 1] rfl) (hD.sub [2, 0, 3, 1] (by decide) rfl) hS (lv_sub hl [1, 2, 3, 0] rfl) hw
  refine lv_aload_n hx hb dX0_addAll_0 rfl (lv_at hl 1 rfl) ?_
  refine va_get (D := D) (ci := 0) (v := .int v_a1_count) (C := RX0) (T := TX0) (N := 2) hx hb hts hw_2 hown hK hP 1 rfl rfl 1 (by decide) hw_1 (fun _ h9 => h9) rfl dX0_addAll_1 ?_
  refine lv_istore_n (lv' := [(2, .int v_a1_count), (0, .ref q_t), (1, .ref q_a1)]) hx hb dX0_addAll_4 rfl hl (by decide) rfl (fun ls hl => ?_)
  refine lv_iconst (v := 0) hx hb dX0_addAll_5 (by decide) ?_
  refine lv_istore_n (lv' := [(3, .int 0), (2, .int v_a1_count), (0, .ref q_t), (1, .ref q_a1)]) hx hb dX0_addAll_6 rfl hl (by decide) rfl (fun ls hl => ?_)
  obtain ⟨n_7, hw⟩ := hw
  exact L_7 n_7 v_a1_count 0 v_t_count f_t_gates _ _ _ hP hD hS (lv_sub hl [2, 3, 1, 0] rfl) hw

def wpX0_become (Q : (Int32) → (Nat → Int32) → Prop)  (v_a1_count : Int32) (f_a1_gates : Nat → Int32) (v_t_count : Int32) (f_t_gates : Nat → Int32) : Prop := wpX0_removeAll (fun (u1 : Int32) => wpX0_addAll (fun (u2 : Int32) (u3 : Nat → Int32) => Q u2 u3) v_a1_count f_a1_gates u1 f_t_gates) v_t_count
abbrev zrX0_become : Room := { frames := 2, cells := 0, slots := 0, locals := 44 }
set_option maxHeartbeats 4000000 in
set_option maxRecDepth 100000 in
theorem zkX0_become (l : Launch) (D : va_G) (cI cJ cC : ClassId) (q_t q_a1 q_t_gates q_a1_gates : Nat) (sz : Nat)  (v_t_count : Int32) (v_a1_count : Int32) (f_t_gates : Nat → Int32) (f_a1_gates : Nat → Int32) {Q : (Int32) → (Nat → Int32) → Prop} (hw : wpX0_become Q v_a1_count f_a1_gates v_t_count f_t_gates) : Met l yX0_become wmX0_become zrX0_become (zPreW D (zT cI cJ cC) [(q_t, zX0 q_t_gates v_t_count), (q_a1, zX0 q_a1_gates v_a1_count), (q_t_gates, zI cI 64 f_t_gates), (q_a1_gates, zI cI 64 f_a1_gates)] sz [.ref q_t, .ref q_a1]) (va_Qv (fun u : (Int32) × (Nat → Int32) => Q (u.1) (u.2)) (fun u t => zAt D (va_A [(q_t, zX0 q_t_gates v_t_count), (q_a1, zX0 q_a1_gates v_a1_count), (q_t_gates, zI cI 64 f_t_gates), (q_a1_gates, zI cI 64 f_a1_gates)] sz) [(q_t, zX0 q_t_gates (u.1)), (q_a1, zX0 q_a1_gates v_a1_count), (q_t_gates, zI cI 64 (u.2)), (q_a1_gates, zI cI 64 f_a1_gates)] t) (va_A [(q_t, zX0 q_t_gates v_t_count), (q_a1, zX0 q_a1_gates v_a1_count), (q_t_gates, zI cI 64 f_t_gates), (q_a1_gates, zI cI 64 f_a1_gates)] sz)) 0 0 (va_A [(q_t, zX0 q_t_gates v_t_count), (q_a1, zX0 q_a1_gates v_a1_count), (q_t_gates, zI cI 64 f_t_gates), (q_a1_gates, zI cI 64 f_a1_gates)] sz) := by
  refine Met.ofW (cc := cX0_become) (maxL := 2) (ret := none) (by decide) rfl ?_
  intro p e s m args below meth c s₁ B hml hv
  obtain ⟨rfl, hsz, hP, hK, hD0⟩ := hv
  have hx := B.exec
  have hb := B.bytes
  have hr := B.returns
  have hts := atoms_spec (ws := wmX0_become) B.pre
  have hown : s.vm.findClass RX0 = some m.cls := findClass_of_methodNamed B.named
  have hlocks := B.notSynchronized
  subst hsz
  have hD := hD0.self (sz := s.heap.size)
  generalize hAe : va_A [(q_t, zX0 q_t_gates v_t_count), (q_a1, zX0 q_a1_gates v_a1_count), (q_t_gates, zI cI 64 f_t_gates), (q_a1_gates, zI cI 64 f_a1_gates)] s.heap.size = A at hD ⊢
  have hA : ∀ q : Nat, s.heap.size ≤ q → A q := fun q h => by rw [← hAe]; exact Or.inr h
  have hS : va_S A s.heap s.heap [] := va_S.rf
  have hP : va_P D vwCl [(q_t, zX0 q_t_gates v_t_count), (q_a1, zX0 q_a1_gates v_a1_count), (q_t_gates, zI cI 64 f_t_gates), (q_a1_gates, zI cI 64 f_a1_gates)] s.heap := hP
  have hl := lv_entry ([.ref q_t, .ref q_a1]) (n := 2) (Nat.le_of_ble_eq_true rfl)
  rw [lg_entry_eq]
  generalize (lg_sl ([.ref q_t, .ref q_a1]) ++ List.replicate (2 - (lg_sl ([.ref q_t, .ref q_a1])).length) Slot.unset).toArray = ls at hl ⊢
  have hl : lv_has ls 2 [(0, .ref q_t), (1, .ref q_a1)] := hl
  refine lv_aload_n hx hb dX0_become_0 rfl (lv_at hl 0 rfl) ?_
  refine z_wv (wc := [(q_t, zX0 q_t_gates v_t_count)]) (wr := [(q_a1, zX0 q_a1_gates v_a1_count), (q_t_gates, zI cI 64 f_t_gates), (q_a1_gates, zI cI 64 f_a1_gates)]) (W1 := fun u : (Int32) => [(q_t, zX0 q_t_gates u)]) (va_runV (As := []) (rest := []) ⟨hx, hb, hml, hown, hts⟩ (zkX0_removeAll l D cI cJ cC q_t q_t_gates _  v_t_count hw) (cwV 0 hts (z_gV wm_20 wm_21 wm_22 wm_15 wm_9) rfl rfl rfl (by decide +kernel) ⟨Nat.le_of_ble_eq_true rfl, Nat.le_of_ble_eq_true rfl⟩) (z_pvW hK hP hD [0] rfl (by decide) rfl 0 0 rfl rfl) rfl rfl hl.1 rfl (lv_room (Nat.le_of_ble_eq_true rfl)) dX0_become_1 ⟨Nat.zero_le _, Nat.zero_le _⟩) hP hD hS hA [0] [1, 2, 3] rfl rfl (by decide) (by decide) (fun u9 H locs hw hP hD hS => ?_)
  obtain ⟨u1, rfl⟩ : ∃ z, z = u9 := ⟨_, rfl⟩
  have hP : va_P D vwCl [(q_a1, zX0 q_a1_gates v_a1_count), (q_t_gates, zI cI 64 f_t_gates), (q_a1_gates, zI cI 64 f_a1_gates), (q_t, zX0 q_t_gates u1)] H := hP
  have hD : va_D A [(q_a1, zX0 q_a1_gates v_a1_count), (q_t_gates, zI cI 64 f_t_gates), (q_a1_gates, zI cI 64 f_a1_gates), (q_t, zX0 q_t_gates u1)] := hD
  try dsimp only at hw
  refine lv_aload_n hx hb dX0_become_4 rfl (lv_at hl 0 rfl) ?_
  refine lv_aload_n hx hb dX0_become_5 rfl (lv_at hl 1 rfl) ?_
  refine z_wv (wc := [(q_t, zX0 q_t_gates u1), (q_a1, zX0 q_a1_gates v_a1_count), (q_t_gates, zI cI 64 f_t_gates), (q_a1_gates, zI cI 64 f_a1_gates)]) (wr := []) (W1 := fun u : (Int32) × (Nat → Int32) => [(q_t, zX0 q_t_gates (u.1)), (q_a1, zX0 q_a1_gates v_a1_count), (q_t_gates, zI cI 64 (u.2)), (q_a1_gates, zI cI 64 f_a1_gates)]) (va_runV (As := [.ref q_a1]) (rest := []) ⟨hx, hb, hml, hown, hts⟩ (zkX0_addAll l D cI cJ cC q_t q_a1 q_t_gates q_a1_gates _  u1 v_a1_count f_t_gates f_a1_gates hw) (cwV 1 hts (z_gV wm_23 wm_24 wm_25 wm_15 wm_11) rfl rfl rfl (by decide +kernel) ⟨Nat.le_of_ble_eq_true rfl, Nat.le_of_ble_eq_true rfl⟩) (z_pvW hK hP hD [3, 0, 1, 2] rfl (by decide) rfl 3 0 rfl rfl) rfl rfl hl.1 rfl (lv_room (Nat.le_of_ble_eq_true rfl)) dX0_become_6 ⟨Nat.zero_le _, Nat.zero_le _⟩) hP hD hS hA [3, 0, 1, 2] [] rfl rfl (by decide) (by decide) (fun u9 H locs hw hP hD hS => ?_)
  obtain ⟨u2, u3⟩ := u9
  have hP : va_P D vwCl [(q_t, zX0 q_t_gates u2), (q_a1, zX0 q_a1_gates v_a1_count), (q_t_gates, zI cI 64 u3), (q_a1_gates, zI cI 64 f_a1_gates)] H := hP
  have hD : va_D A [(q_t, zX0 q_t_gates u2), (q_a1, zX0 q_a1_gates v_a1_count), (q_t_gates, zI cI 64 u3), (q_a1_gates, zI cI 64 f_a1_gates)] := hD
  try dsimp only at hw
  exact W.vret hx hb hr (fun t ht hW => ⟨⟨(u2, u3), rfl, hw, ⟨by rw [ht]; exact hP, hD⟩⟩, hS.F ht⟩) hS.2.2 dX0_become_9

def wpX0_countKind_4b (Q : Int32 → Prop)  (R_4 : (Int32) → (Int32) → (Int32) → Prop) (v_t_count : Int32) (f_t_gates : Nat → Int32) (x1 : Int32) (x2 : Int32) (x3 : Int32) : Prop := ((v_t_count ≤ x3 → Q x2) ∧ (¬ v_t_count ≤ x3 → vp_in x3 64 ∧ (((zvX2_kind (f_t_gates x3.toNatClampNeg)) = x1 → R_4 x1 (x2 + 1) (x3 + 1)) ∧ (¬ (zvX2_kind (f_t_gates x3.toNatClampNeg)) = x1 → R_4 x1 (x2 + 0) (x3 + 1)))))
def wpX0_countKind_4 (Q : Int32 → Prop)  (v_t_count : Int32) (f_t_gates : Nat → Int32) : Nat → (Int32) → (Int32) → (Int32) → Prop
  | 0 => fun _ _ _ => False
  | n + 1 => fun x1 x2 x3 => wpX0_countKind_4b Q  (wpX0_countKind_4 Q  v_t_count f_t_gates n) v_t_count f_t_gates x1 x2 x3
def wpX0_countKind (Q : Int32 → Prop) (a1 : Int32) (v_t_count : Int32) (f_t_gates : Nat → Int32)  : Prop := ∃ n : Nat, wpX0_countKind_4 Q  v_t_count f_t_gates n a1 0 0
abbrev zrX0_countKind : Room := { frames := 1, cells := 0, slots := 0, locals := 20 }
set_option maxHeartbeats 4000000 in
set_option maxRecDepth 100000 in
theorem zkX0_countKind (l : Launch) (D : va_G) (cI cJ cC : ClassId) (q_t q_t_gates : Nat) (a1 : Int32) (v_t_count : Int32) (f_t_gates : Nat → Int32) {Q : Int32 → Prop} (hw : wpX0_countKind Q a1 v_t_count f_t_gates) : Met l yX0_countKind wmX0_countKind zrX0_countKind (zPreR D (zT cI cJ cC) [(q_t, zX0 q_t_gates v_t_count), (q_t_gates, zI cI 64 f_t_gates)] [.ref q_t, .int a1]) (vp_Si (fun r => Q r)) 0 0 (fun _ => False) := by
  refine Met.ofW (cc := cX0_countKind) (maxL := 4) (ret := (some .int)) (by decide) rfl ?_
  intro p e s m args below meth c s₁ B hml hv
  obtain ⟨rfl, hP, hK⟩ := hv
  have hx := B.exec
  have hb := B.bytes
  have hr := B.returns
  have hts := atoms_spec (ws := wmX0_countKind) B.pre
  have hown : s.vm.findClass RX0 = some m.cls := findClass_of_methodNamed B.named
  have hlocks := B.notSynchronized
  have hw_1 := hts _ (z_in wm_6)
  have hw_2 : ∀ w ∈ u_ws RX0 TX0 2, w ∈ wmX0_countKind := fun w h => z_in (wi_wsX00 w h)
  have hw_3 := hts _ (z_in wm_5)
  have hl := lv_entry ([.ref q_t, .int a1]) (n := 4) (Nat.le_of_ble_eq_true rfl)
  rw [lg_entry_eq]
  generalize (lg_sl ([.ref q_t, .int a1]) ++ List.replicate (4 - (lg_sl ([.ref q_t, .int a1])).length) Slot.unset).toArray = ls at hl ⊢
  have hl : lv_has ls 4 [(0, .ref q_t), (1, .int a1)] := hl
  have L_4 : ∀ (n : Nat), ∀ (x1 : Int32) (x2 : Int32) (x3 : Int32) (ls : Array Slot), lv_has ls 4 [(0, .ref q_t), (1, .int x1), (2, .int x2), (3, .int x3)] → wpX0_countKind_4 Q  v_t_count f_t_gates n x1 x2 x3 → W p l e (headSpec wmX0_countKind zrX0_countKind).room s m ([.ref q_t, .int a1] : List Value).toArray below meth c s.heap [] 0 0 (MQ below (vp_Si (fun r => Q r)) ([.ref q_t, .int a1] : List Value).toArray s 0 0 (fun _ => False)) (F0 m 4 ls []) := by
    intro n
    induction n with
    | zero => intro x1 x2 x3 ls hl hw; exact False.elim hw
    | succ n_4 ih_4 =>
      intro x1 x2 x3 ls hl hw
      have hw : wpX0_countKind_4b Q  (wpX0_countKind_4 Q  v_t_count f_t_gates n_4) v_t_count f_t_gates x1 x2 x3 := hw
      refine lv_iload_n hx hb dX0_countKind_4 rfl (lv_at hl 3 rfl) ?_
      refine lv_aload_n hx hb dX0_countKind_5 rfl (lv_at hl 0 rfl) ?_
      refine va_get (D := D) (ci := 0) (v := .int v_t_count) (C := RX0) (T := TX0) (N := 2) hx hb hts hw_2 hown hK hP 0 rfl rfl 1 (by decide) hw_1 (fun _ h9 => h9) rfl dX0_countKind_6 ?_
      refine lv_icmp_ge (tgt := 39) hx hb dX0_countKind_9 (by decide) (fun c1 => ?_) (fun c1 => ?_)
      · have hw := hw.1 c1
        refine lv_iload_n hx hb dX0_countKind_39 rfl (lv_at hl 2 rfl) ?_
        exact W.iret (v := x2) hx hb hr (fun t ht hW => ⟨_, rfl, hw, ht⟩) (fun _ h => by cases h) dX0_countKind_40
      · have hw := hw.2 c1
        refine lv_iload_n hx hb dX0_countKind_12 rfl (lv_at hl 2 rfl) ?_
        refine lv_aload_n hx hb dX0_countKind_13 rfl (lv_at hl 0 rfl) ?_
        refine va_get (D := D) (ci := 0) (v := .ref q_t_gates) (C := RX0) (T := TX0) (N := 2) hx hb hts hw_2 hown hK hP 0 rfl rfl 0 (by decide) hw_3 (fun _ h9 => h9) rfl dX0_countKind_14 ?_
        refine lv_iload_n hx hb dX0_countKind_17 rfl (lv_at hl 3 rfl) ?_
        obtain ⟨h2, hw⟩ := hw
        refine va_iald hx hb hK hP 1 0 rfl rfl h2 dX0_countKind_18 ?_
        refine z_vi (va_runS (As := [.int (f_t_gates x3.toNatClampNeg)]) (rest := [.int x2]) ⟨hx, hb, hml, hown, hts⟩ (zkX2_kind l   (f_t_gates x3.toNatClampNeg) ) (va_cwS 1 hts (z_gS wm_28 wm_29 wm_30 wm_26) rfl rfl rfl (by decide +kernel) ⟨Nat.le_of_ble_eq_true rfl, Nat.le_of_ble_eq_true rfl⟩) z_psS rfl rfl hl.1 rfl (lv_room (Nat.le_of_ble_eq_true rfl)) dX0_countKind_19 ⟨Nat.zero_le _, Nat.zero_le _⟩) ?_
        refine lv_iload_n hx hb dX0_countKind_22 rfl (lv_at hl 1 rfl) ?_
        refine lv_icmp_ne (tgt := 30) hx hb dX0_countKind_23 (by decide) (fun c3 => ?_) (fun c3 => ?_)
        · have hw := hw.2 c3
          refine lv_iconst (v := 0) hx hb dX0_countKind_30 (by decide) ?_
          refine lv_iadd hx hb dX0_countKind_31 ?_
          refine lv_istore_n (lv' := [(2, .int (x2 + 0)), (0, .ref q_t), (1, .int x1), (3, .int x3)]) hx hb dX0_countKind_32 rfl hl (by decide) rfl (fun ls hl => ?_)
          refine lv_iinc (v := (x3 + 1)) (lv' := [(3, .int (x3 + 1)), (2, .int (x2 + 0)), (0, .ref q_t), (1, .int x1)]) hx hb dX0_countKind_33 hl (k := 3) rfl rfl (by decide) rfl (fun ls hl => ?_)
          refine lv_goto (tgt := 4) hx hb dX0_countKind_36 (by decide) ?_
          exact ih_4 x1 (x2 + 0) (x3 + 1) _ (lv_sub hl [2, 3, 1, 0] rfl) hw
        · have hw := hw.1 c3
          refine lv_iconst (v := 1) hx hb dX0_countKind_26 (by decide) ?_
          refine lv_goto (tgt := 31) hx hb dX0_countKind_27 (by decide) ?_
          refine lv_iadd hx hb dX0_countKind_31 ?_
          refine lv_istore_n (lv' := [(2, .int (x2 + 1)), (0, .ref q_t), (1, .int x1), (3, .int x3)]) hx hb dX0_countKind_32 rfl hl (by decide) rfl (fun ls hl => ?_)
          refine lv_iinc (v := (x3 + 1)) (lv' := [(3, .int (x3 + 1)), (2, .int (x2 + 1)), (0, .ref q_t), (1, .int x1)]) hx hb dX0_countKind_33 hl (k := 3) rfl rfl (by decide) rfl (fun ls hl => ?_)
          refine lv_goto (tgt := 4) hx hb dX0_countKind_36 (by decide) ?_
          exact ih_4 x1 (x2 + 1) (x3 + 1) _ (lv_sub hl [2, 3, 1, 0] rfl) hw
  refine lv_iconst (v := 0) hx hb dX0_countKind_0 (by decide) ?_
  refine lv_istore_n (lv' := [(2, .int 0), (0, .ref q_t), (1, .int a1)]) hx hb dX0_countKind_1 rfl hl (by decide) rfl (fun ls hl => ?_)
  refine lv_iconst (v := 0) hx hb dX0_countKind_2 (by decide) ?_
  refine lv_istore_n (lv' := [(3, .int 0), (2, .int 0), (0, .ref q_t), (1, .int a1)]) hx hb dX0_countKind_3 rfl hl (by decide) rfl (fun ls hl => ?_)
  obtain ⟨n_4, hw⟩ := hw
  exact L_4 n_4 a1 0 0 _ (lv_sub hl [2, 3, 1, 0] rfl) hw

def wpX0_isOnOneWire_2b (Q : Int32 → Prop)  (R_2 : (Int32) → Prop) (v_t_count : Int32) (f_t_gates : Nat → Int32) (x1 : Int32) : Prop := ((v_t_count ≤ x1 → Q 1) ∧ (¬ v_t_count ≤ x1 → vp_in x1 64 ∧ ((5 < (zvX2_kind (f_t_gates x1.toNatClampNeg)) → Q 0) ∧ (¬ 5 < (zvX2_kind (f_t_gates x1.toNatClampNeg)) → vp_in x1 64 ∧ vp_in 0 64 ∧ (((zvX2_a (f_t_gates x1.toNatClampNeg)) = (zvX2_a (f_t_gates (0 : Int32).toNatClampNeg)) → R_2 (x1 + 1)) ∧ (¬ (zvX2_a (f_t_gates x1.toNatClampNeg)) = (zvX2_a (f_t_gates (0 : Int32).toNatClampNeg)) → Q 0))))))
def wpX0_isOnOneWire_2 (Q : Int32 → Prop)  (v_t_count : Int32) (f_t_gates : Nat → Int32) : Nat → (Int32) → Prop
  | 0 => fun _ => False
  | n + 1 => fun x1 => wpX0_isOnOneWire_2b Q  (wpX0_isOnOneWire_2 Q  v_t_count f_t_gates n) v_t_count f_t_gates x1
def wpX0_isOnOneWire (Q : Int32 → Prop)  (v_t_count : Int32) (f_t_gates : Nat → Int32)  : Prop := ∃ n : Nat, wpX0_isOnOneWire_2 Q  v_t_count f_t_gates n 0
abbrev zrX0_isOnOneWire : Room := { frames := 1, cells := 0, slots := 0, locals := 20 }
set_option maxHeartbeats 4000000 in
set_option maxRecDepth 100000 in
theorem zkX0_isOnOneWire (l : Launch) (D : va_G) (cI cJ cC : ClassId) (q_t q_t_gates : Nat)  (v_t_count : Int32) (f_t_gates : Nat → Int32) {Q : Int32 → Prop} (hw : wpX0_isOnOneWire Q v_t_count f_t_gates) : Met l yX0_isOnOneWire wmX0_isOnOneWire zrX0_isOnOneWire (zPreR D (zT cI cJ cC) [(q_t, zX0 q_t_gates v_t_count), (q_t_gates, zI cI 64 f_t_gates)] [.ref q_t]) (vp_Si (fun r => Q r)) 0 0 (fun _ => False) := by
  refine Met.ofW (cc := cX0_isOnOneWire) (maxL := 2) (ret := (some .boolean)) (by decide) rfl ?_
  intro p e s m args below meth c s₁ B hml hv
  obtain ⟨rfl, hP, hK⟩ := hv
  have hx := B.exec
  have hb := B.bytes
  have hr := B.returns
  have hts := atoms_spec (ws := wmX0_isOnOneWire) B.pre
  have hown : s.vm.findClass RX0 = some m.cls := findClass_of_methodNamed B.named
  have hlocks := B.notSynchronized
  have hw_1 := hts _ (z_in wm_6)
  have hw_2 : ∀ w ∈ u_ws RX0 TX0 2, w ∈ wmX0_isOnOneWire := fun w h => z_in (wi_wsX00 w h)
  have hw_3 := hts _ (z_in wm_5)
  have hl := lv_entry ([.ref q_t]) (n := 2) (Nat.le_of_ble_eq_true rfl)
  rw [lg_entry_eq]
  generalize (lg_sl ([.ref q_t]) ++ List.replicate (2 - (lg_sl ([.ref q_t])).length) Slot.unset).toArray = ls at hl ⊢
  have hl : lv_has ls 2 [(0, .ref q_t)] := hl
  have L_2 : ∀ (n : Nat), ∀ (x1 : Int32) (ls : Array Slot), lv_has ls 2 [(0, .ref q_t), (1, .int x1)] → wpX0_isOnOneWire_2 Q  v_t_count f_t_gates n x1 → W p l e (headSpec wmX0_isOnOneWire zrX0_isOnOneWire).room s m ([.ref q_t] : List Value).toArray below meth c s.heap [] 0 0 (MQ below (vp_Si (fun r => Q r)) ([.ref q_t] : List Value).toArray s 0 0 (fun _ => False)) (F0 m 2 ls []) := by
    intro n
    induction n with
    | zero => intro x1 ls hl hw; exact False.elim hw
    | succ n_2 ih_2 =>
      intro x1 ls hl hw
      have hw : wpX0_isOnOneWire_2b Q  (wpX0_isOnOneWire_2 Q  v_t_count f_t_gates n_2) v_t_count f_t_gates x1 := hw
      refine lv_iload_n hx hb dX0_isOnOneWire_2 rfl (lv_at hl 1 rfl) ?_
      refine lv_aload_n hx hb dX0_isOnOneWire_3 rfl (lv_at hl 0 rfl) ?_
      refine va_get (D := D) (ci := 0) (v := .int v_t_count) (C := RX0) (T := TX0) (N := 2) hx hb hts hw_2 hown hK hP 0 rfl rfl 1 (by decide) hw_1 (fun _ h9 => h9) rfl dX0_isOnOneWire_4 ?_
      refine lv_icmp_ge (tgt := 52) hx hb dX0_isOnOneWire_7 (by decide) (fun c1 => ?_) (fun c1 => ?_)
      · have hw := hw.1 c1
        refine lv_iconst (v := 1) hx hb dX0_isOnOneWire_52 (by decide) ?_
        exact W.zret (v := 1) hx hb hr (by decide) (fun t ht hW => ⟨_, rfl, hw, ht⟩) (fun _ h => by cases h) dX0_isOnOneWire_53
      · have hw := hw.2 c1
        refine lv_aload_n hx hb dX0_isOnOneWire_10 rfl (lv_at hl 0 rfl) ?_
        refine va_get (D := D) (ci := 0) (v := .ref q_t_gates) (C := RX0) (T := TX0) (N := 2) hx hb hts hw_2 hown hK hP 0 rfl rfl 0 (by decide) hw_3 (fun _ h9 => h9) rfl dX0_isOnOneWire_11 ?_
        refine lv_iload_n hx hb dX0_isOnOneWire_14 rfl (lv_at hl 1 rfl) ?_
        obtain ⟨h2, hw⟩ := hw
        refine va_iald hx hb hK hP 1 0 rfl rfl h2 dX0_isOnOneWire_15 ?_
        refine z_vi (va_runS (As := [.int (f_t_gates x1.toNatClampNeg)]) (rest := []) ⟨hx, hb, hml, hown, hts⟩ (zkX2_kind l   (f_t_gates x1.toNatClampNeg) ) (va_cwS 1 hts (z_gS wm_28 wm_29 wm_30 wm_26) rfl rfl rfl (by decide +kernel) ⟨Nat.le_of_ble_eq_true rfl, Nat.le_of_ble_eq_true rfl⟩) z_psS rfl rfl hl.1 rfl (lv_room (Nat.le_of_ble_eq_true rfl)) dX0_isOnOneWire_16 ⟨Nat.zero_le _, Nat.zero_le _⟩) ?_
        refine lv_iconst (v := 5) hx hb dX0_isOnOneWire_19 (by decide) ?_
        refine lv_icmp_gt (tgt := 44) hx hb dX0_isOnOneWire_20 (by decide) (fun c3 => ?_) (fun c3 => ?_)
        · have hw := hw.1 c3
          refine lv_iconst (v := 0) hx hb dX0_isOnOneWire_44 (by decide) ?_
          exact W.zret (v := 0) hx hb hr (by decide) (fun t ht hW => ⟨_, rfl, hw, ht⟩) (fun _ h => by cases h) dX0_isOnOneWire_45
        · have hw := hw.2 c3
          refine lv_aload_n hx hb dX0_isOnOneWire_23 rfl (lv_at hl 0 rfl) ?_
          refine va_get (D := D) (ci := 0) (v := .ref q_t_gates) (C := RX0) (T := TX0) (N := 2) hx hb hts hw_2 hown hK hP 0 rfl rfl 0 (by decide) hw_3 (fun _ h9 => h9) rfl dX0_isOnOneWire_24 ?_
          refine lv_iload_n hx hb dX0_isOnOneWire_27 rfl (lv_at hl 1 rfl) ?_
          obtain ⟨h4, hw⟩ := hw
          refine va_iald hx hb hK hP 1 0 rfl rfl h4 dX0_isOnOneWire_28 ?_
          refine z_vi (va_runS (As := [.int (f_t_gates x1.toNatClampNeg)]) (rest := []) ⟨hx, hb, hml, hown, hts⟩ (zkX2_a l   (f_t_gates x1.toNatClampNeg) ) (va_cwS 1 hts (z_gS wm_33 wm_34 wm_30 wm_31) rfl rfl rfl (by decide +kernel) ⟨Nat.le_of_ble_eq_true rfl, Nat.le_of_ble_eq_true rfl⟩) z_psS rfl rfl hl.1 rfl (lv_room (Nat.le_of_ble_eq_true rfl)) dX0_isOnOneWire_29 ⟨Nat.zero_le _, Nat.zero_le _⟩) ?_
          refine lv_aload_n hx hb dX0_isOnOneWire_32 rfl (lv_at hl 0 rfl) ?_
          refine va_get (D := D) (ci := 0) (v := .ref q_t_gates) (C := RX0) (T := TX0) (N := 2) hx hb hts hw_2 hown hK hP 0 rfl rfl 0 (by decide) hw_3 (fun _ h9 => h9) rfl dX0_isOnOneWire_33 ?_
          refine lv_iconst (v := 0) hx hb dX0_isOnOneWire_36 (by decide) ?_
          obtain ⟨h5, hw⟩ := hw
          refine va_iald hx hb hK hP 1 0 rfl rfl h5 dX0_isOnOneWire_37 ?_
          refine z_vi (va_runS (As := [.int (f_t_gates (0 : Int32).toNatClampNeg)]) (rest := [.int (zvX2_a (f_t_gates x1.toNatClampNeg))]) ⟨hx, hb, hml, hown, hts⟩ (zkX2_a l   (f_t_gates (0 : Int32).toNatClampNeg) ) (va_cwS 1 hts (z_gS wm_33 wm_34 wm_30 wm_31) rfl rfl rfl (by decide +kernel) ⟨Nat.le_of_ble_eq_true rfl, Nat.le_of_ble_eq_true rfl⟩) z_psS rfl rfl hl.1 rfl (lv_room (Nat.le_of_ble_eq_true rfl)) dX0_isOnOneWire_38 ⟨Nat.zero_le _, Nat.zero_le _⟩) ?_
          refine lv_icmp_eq (tgt := 46) hx hb dX0_isOnOneWire_41 (by decide) (fun c6 => ?_) (fun c6 => ?_)
          · have hw := hw.1 c6
            refine lv_iinc (v := (x1 + 1)) (lv' := [(1, .int (x1 + 1)), (0, .ref q_t)]) hx hb dX0_isOnOneWire_46 hl (k := 1) rfl rfl (by decide) rfl (fun ls hl => ?_)
            refine lv_goto (tgt := 2) hx hb dX0_isOnOneWire_49 (by decide) ?_
            exact ih_2 (x1 + 1) _ (lv_sub hl [1, 0] rfl) hw
          · have hw := hw.2 c6
            refine lv_iconst (v := 0) hx hb dX0_isOnOneWire_44 (by decide) ?_
            exact W.zret (v := 0) hx hb hr (by decide) (fun t ht hW => ⟨_, rfl, hw, ht⟩) (fun _ h => by cases h) dX0_isOnOneWire_45
  refine lv_iconst (v := 0) hx hb dX0_isOnOneWire_0 (by decide) ?_
  refine lv_istore_n (lv' := [(1, .int 0), (0, .ref q_t)]) hx hb dX0_isOnOneWire_1 rfl hl (by decide) rfl (fun ls hl => ?_)
  obtain ⟨n_2, hw⟩ := hw
  exact L_2 n_2 0 _ (lv_sub hl [1, 0] rfl) hw

def wpX0_countInverted (Q : Int32 → Prop)  (v_t_count : Int32) (f_t_gates : Nat → Int32)  : Prop := wpX0_countKind (fun r1 : Int32 => wpX0_countKind (fun r2 : Int32 => Q ((v_t_count + r1) + (2 * r2))) 3 v_t_count f_t_gates) 2 v_t_count f_t_gates
abbrev zrX0_countInverted : Room := { frames := 2, cells := 0, slots := 0, locals := 43 }
set_option maxHeartbeats 4000000 in
set_option maxRecDepth 100000 in
theorem zkX0_countInverted (l : Launch) (D : va_G) (cI cJ cC : ClassId) (q_t q_t_gates : Nat)  (v_t_count : Int32) (f_t_gates : Nat → Int32) {Q : Int32 → Prop} (hw : wpX0_countInverted Q v_t_count f_t_gates) : Met l yX0_countInverted wmX0_countInverted zrX0_countInverted (zPreR D (zT cI cJ cC) [(q_t, zX0 q_t_gates v_t_count), (q_t_gates, zI cI 64 f_t_gates)] [.ref q_t]) (vp_Si (fun r => Q r)) 0 0 (fun _ => False) := by
  refine Met.ofW (cc := cX0_countInverted) (maxL := 1) (ret := (some .int)) (by decide) rfl ?_
  intro p e s m args below meth c s₁ B hml hv
  obtain ⟨rfl, hP, hK⟩ := hv
  have hx := B.exec
  have hb := B.bytes
  have hr := B.returns
  have hts := atoms_spec (ws := wmX0_countInverted) B.pre
  have hown : s.vm.findClass RX0 = some m.cls := findClass_of_methodNamed B.named
  have hlocks := B.notSynchronized
  have hw_1 := hts _ (z_in wm_6)
  have hw_2 : ∀ w ∈ u_ws RX0 TX0 2, w ∈ wmX0_countInverted := fun w h => z_in (wi_wsX00 w h)
  have hl := lv_entry ([.ref q_t]) (n := 1) (Nat.le_of_ble_eq_true rfl)
  rw [lg_entry_eq]
  generalize (lg_sl ([.ref q_t]) ++ List.replicate (1 - (lg_sl ([.ref q_t])).length) Slot.unset).toArray = ls at hl ⊢
  have hl : lv_has ls 1 [(0, .ref q_t)] := hl
  refine lv_aload_n hx hb dX0_countInverted_0 rfl (lv_at hl 0 rfl) ?_
  refine va_get (D := D) (ci := 0) (v := .int v_t_count) (C := RX0) (T := TX0) (N := 2) hx hb hts hw_2 hown hK hP 0 rfl rfl 1 (by decide) hw_1 (fun _ h9 => h9) rfl dX0_countInverted_1 ?_
  refine lv_aload_n hx hb dX0_countInverted_4 rfl (lv_at hl 0 rfl) ?_
  refine lv_iconst (v := 2) hx hb dX0_countInverted_5 (by decide) ?_
  refine z_ri (va_runV (As := [.int 2]) (rest := [.int v_t_count]) ⟨hx, hb, hml, hown, hts⟩ (zkX0_countKind l D cI cJ cC q_t q_t_gates 2 v_t_count f_t_gates hw) (cwV 1 hts (z_gV wm_36 wm_37 wm_38 wm_15 wm_27) rfl rfl rfl (by decide +kernel) ⟨Nat.le_of_ble_eq_true rfl, Nat.le_of_ble_eq_true rfl⟩) (z_pvR hK hP [0, 1] rfl 0 0 rfl rfl) rfl rfl hl.1 rfl (lv_room (Nat.le_of_ble_eq_true rfl)) dX0_countInverted_6 ⟨Nat.zero_le _, Nat.zero_le _⟩) (fun r1 hw => ?_)
  refine lv_iadd hx hb dX0_countInverted_9 ?_
  refine lv_iconst (v := 2) hx hb dX0_countInverted_10 (by decide) ?_
  refine lv_aload_n hx hb dX0_countInverted_11 rfl (lv_at hl 0 rfl) ?_
  refine lv_iconst (v := 3) hx hb dX0_countInverted_12 (by decide) ?_
  refine z_ri (va_runV (As := [.int 3]) (rest := [.int 2, .int (v_t_count + r1)]) ⟨hx, hb, hml, hown, hts⟩ (zkX0_countKind l D cI cJ cC q_t q_t_gates 3 v_t_count f_t_gates hw) (cwV 1 hts (z_gV wm_36 wm_37 wm_38 wm_15 wm_27) rfl rfl rfl (by decide +kernel) ⟨Nat.le_of_ble_eq_true rfl, Nat.le_of_ble_eq_true rfl⟩) (z_pvR hK hP [0, 1] rfl 0 0 rfl rfl) rfl rfl hl.1 rfl (lv_room (Nat.le_of_ble_eq_true rfl)) dX0_countInverted_13 ⟨Nat.zero_le _, Nat.zero_le _⟩) (fun r2 hw => ?_)
  refine lv_imul hx hb dX0_countInverted_16 ?_
  refine lv_iadd hx hb dX0_countInverted_17 ?_
  exact W.iret (v := ((v_t_count + r1) + (2 * r2))) hx hb hr (fun t ht hW => ⟨_, rfl, hw, ht⟩) (fun _ h => by cases h) dX0_countInverted_18

def wpX0_addOn (Q : (Int32) → (Nat → Int32) → Prop) (a1 : Int32) (a2 : Int32)  (v_t_count : Int32) (f_t_gates : Nat → Int32) : Prop := wpX0_add (fun (u1 : Int32) (u2 : Nat → Int32) => Q u1 u2) (zvX2_of a1 a2 0 0) v_t_count f_t_gates
abbrev zrX0_addOn : Room := { frames := 2, cells := 0, slots := 0, locals := 44 }
set_option maxHeartbeats 4000000 in
set_option maxRecDepth 100000 in
theorem zkX0_addOn (l : Launch) (D : va_G) (cI cJ cC : ClassId) (q_t q_t_gates : Nat) (sz : Nat) (a1 : Int32) (a2 : Int32) (v_t_count : Int32) (f_t_gates : Nat → Int32) {Q : (Int32) → (Nat → Int32) → Prop} (hw : wpX0_addOn Q a1 a2 v_t_count f_t_gates) : Met l yX0_addOn wmX0_addOn zrX0_addOn (zPreW D (zT cI cJ cC) [(q_t, zX0 q_t_gates v_t_count), (q_t_gates, zI cI 64 f_t_gates)] sz [.ref q_t, .int a1, .int a2]) (va_Qv (fun u : (Int32) × (Nat → Int32) => Q (u.1) (u.2)) (fun u t => zAt D (va_A [(q_t, zX0 q_t_gates v_t_count), (q_t_gates, zI cI 64 f_t_gates)] sz) [(q_t, zX0 q_t_gates (u.1)), (q_t_gates, zI cI 64 (u.2))] t) (va_A [(q_t, zX0 q_t_gates v_t_count), (q_t_gates, zI cI 64 f_t_gates)] sz)) 0 0 (va_A [(q_t, zX0 q_t_gates v_t_count), (q_t_gates, zI cI 64 f_t_gates)] sz) := by
  refine Met.ofW (cc := cX0_addOn) (maxL := 3) (ret := none) (by decide) rfl ?_
  intro p e s m args below meth c s₁ B hml hv
  obtain ⟨rfl, hsz, hP, hK, hD0⟩ := hv
  have hx := B.exec
  have hb := B.bytes
  have hr := B.returns
  have hts := atoms_spec (ws := wmX0_addOn) B.pre
  have hown : s.vm.findClass RX0 = some m.cls := findClass_of_methodNamed B.named
  have hlocks := B.notSynchronized
  subst hsz
  have hD := hD0.self (sz := s.heap.size)
  generalize hAe : va_A [(q_t, zX0 q_t_gates v_t_count), (q_t_gates, zI cI 64 f_t_gates)] s.heap.size = A at hD ⊢
  have hA : ∀ q : Nat, s.heap.size ≤ q → A q := fun q h => by rw [← hAe]; exact Or.inr h
  have hS : va_S A s.heap s.heap [] := va_S.rf
  have hP : va_P D vwCl [(q_t, zX0 q_t_gates v_t_count), (q_t_gates, zI cI 64 f_t_gates)] s.heap := hP
  have hl := lv_entry ([.ref q_t, .int a1, .int a2]) (n := 3) (Nat.le_of_ble_eq_true rfl)
  rw [lg_entry_eq]
  generalize (lg_sl ([.ref q_t, .int a1, .int a2]) ++ List.replicate (3 - (lg_sl ([.ref q_t, .int a1, .int a2])).length) Slot.unset).toArray = ls at hl ⊢
  have hl : lv_has ls 3 [(0, .ref q_t), (1, .int a1), (2, .int a2)] := hl
  refine lv_aload_n hx hb dX0_addOn_0 rfl (lv_at hl 0 rfl) ?_
  refine lv_iload_n hx hb dX0_addOn_1 rfl (lv_at hl 1 rfl) ?_
  refine lv_iload_n hx hb dX0_addOn_2 rfl (lv_at hl 2 rfl) ?_
  refine lv_iconst (v := 0) hx hb dX0_addOn_3 (by decide) ?_
  refine lv_iconst (v := 0) hx hb dX0_addOn_4 (by decide) ?_
  refine z_vi (va_runS (As := [.int a1, .int a2, .int 0, .int 0]) (rest := [.ref q_t]) ⟨hx, hb, hml, hown, hts⟩ (zkX2_of l   a1 a2 0 0 ) (va_cwS 4 hts (z_gS wm_44 wm_45 wm_30 wm_40) rfl rfl rfl (by decide +kernel) ⟨Nat.le_of_ble_eq_true rfl, Nat.le_of_ble_eq_true rfl⟩) z_psS rfl rfl hl.1 rfl (lv_room (Nat.le_of_ble_eq_true rfl)) dX0_addOn_5 ⟨Nat.zero_le _, Nat.zero_le _⟩) ?_
  refine z_wv (wc := [(q_t, zX0 q_t_gates v_t_count), (q_t_gates, zI cI 64 f_t_gates)]) (wr := []) (W1 := fun u : (Int32) × (Nat → Int32) => [(q_t, zX0 q_t_gates (u.1)), (q_t_gates, zI cI 64 (u.2))]) (va_runV (As := [.int (zvX2_of a1 a2 0 0)]) (rest := []) ⟨hx, hb, hml, hown, hts⟩ (zkX0_add l D cI cJ cC q_t q_t_gates _ (zvX2_of a1 a2 0 0) v_t_count f_t_gates hw) (cwV 1 hts (z_gV wm_16 wm_17 wm_18 wm_15 wm_10) rfl rfl rfl (by decide +kernel) ⟨Nat.le_of_ble_eq_true rfl, Nat.le_of_ble_eq_true rfl⟩) (z_pvW hK hP hD [0, 1] rfl (by decide) rfl 0 0 rfl rfl) rfl rfl hl.1 rfl (lv_room (Nat.le_of_ble_eq_true rfl)) dX0_addOn_8 ⟨Nat.zero_le _, Nat.zero_le _⟩) hP hD hS hA [0, 1] [] rfl rfl (by decide) (by decide) (fun u9 H locs hw hP hD hS => ?_)
  obtain ⟨u1, u2⟩ := u9
  have hP : va_P D vwCl [(q_t, zX0 q_t_gates u1), (q_t_gates, zI cI 64 u2)] H := hP
  have hD : va_D A [(q_t, zX0 q_t_gates u1), (q_t_gates, zI cI 64 u2)] := hD
  try dsimp only at hw
  exact W.vret hx hb hr (fun t ht hW => ⟨⟨(u1, u2), rfl, hw, ⟨by rw [ht]; exact hP, hD⟩⟩, hS.F ht⟩) hS.2.2 dX0_addOn_11

def wpX0_addBackTurn (Q : (Int32) → (Nat → Int32) → Prop) (a1 : Int32)  (v_t_count : Int32) (f_t_gates : Nat → Int32) : Prop := wpX0_addOn (fun (u1 : Int32) (u2 : Nat → Int32) => wpX0_addOn (fun (u3 : Int32) (u4 : Nat → Int32) => wpX0_addOn (fun (u5 : Int32) (u6 : Nat → Int32) => Q u5 u6) 5 a1 u3 u4) 2 a1 u1 u2) 3 a1 v_t_count f_t_gates
abbrev zrX0_addBackTurn : Room := { frames := 3, cells := 0, slots := 0, locals := 66 }
set_option maxHeartbeats 4000000 in
set_option maxRecDepth 100000 in
theorem zkX0_addBackTurn (l : Launch) (D : va_G) (cI cJ cC : ClassId) (q_t q_t_gates : Nat) (sz : Nat) (a1 : Int32) (v_t_count : Int32) (f_t_gates : Nat → Int32) {Q : (Int32) → (Nat → Int32) → Prop} (hw : wpX0_addBackTurn Q a1 v_t_count f_t_gates) : Met l yX0_addBackTurn wmX0_addBackTurn zrX0_addBackTurn (zPreW D (zT cI cJ cC) [(q_t, zX0 q_t_gates v_t_count), (q_t_gates, zI cI 64 f_t_gates)] sz [.ref q_t, .int a1]) (va_Qv (fun u : (Int32) × (Nat → Int32) => Q (u.1) (u.2)) (fun u t => zAt D (va_A [(q_t, zX0 q_t_gates v_t_count), (q_t_gates, zI cI 64 f_t_gates)] sz) [(q_t, zX0 q_t_gates (u.1)), (q_t_gates, zI cI 64 (u.2))] t) (va_A [(q_t, zX0 q_t_gates v_t_count), (q_t_gates, zI cI 64 f_t_gates)] sz)) 0 0 (va_A [(q_t, zX0 q_t_gates v_t_count), (q_t_gates, zI cI 64 f_t_gates)] sz) := by
  refine Met.ofW (cc := cX0_addBackTurn) (maxL := 2) (ret := none) (by decide) rfl ?_
  intro p e s m args below meth c s₁ B hml hv
  obtain ⟨rfl, hsz, hP, hK, hD0⟩ := hv
  have hx := B.exec
  have hb := B.bytes
  have hr := B.returns
  have hts := atoms_spec (ws := wmX0_addBackTurn) B.pre
  have hown : s.vm.findClass RX0 = some m.cls := findClass_of_methodNamed B.named
  have hlocks := B.notSynchronized
  subst hsz
  have hD := hD0.self (sz := s.heap.size)
  generalize hAe : va_A [(q_t, zX0 q_t_gates v_t_count), (q_t_gates, zI cI 64 f_t_gates)] s.heap.size = A at hD ⊢
  have hA : ∀ q : Nat, s.heap.size ≤ q → A q := fun q h => by rw [← hAe]; exact Or.inr h
  have hS : va_S A s.heap s.heap [] := va_S.rf
  have hP : va_P D vwCl [(q_t, zX0 q_t_gates v_t_count), (q_t_gates, zI cI 64 f_t_gates)] s.heap := hP
  have hl := lv_entry ([.ref q_t, .int a1]) (n := 2) (Nat.le_of_ble_eq_true rfl)
  rw [lg_entry_eq]
  generalize (lg_sl ([.ref q_t, .int a1]) ++ List.replicate (2 - (lg_sl ([.ref q_t, .int a1])).length) Slot.unset).toArray = ls at hl ⊢
  have hl : lv_has ls 2 [(0, .ref q_t), (1, .int a1)] := hl
  refine lv_aload_n hx hb dX0_addBackTurn_0 rfl (lv_at hl 0 rfl) ?_
  refine lv_iconst (v := 3) hx hb dX0_addBackTurn_1 (by decide) ?_
  refine lv_iload_n hx hb dX0_addBackTurn_2 rfl (lv_at hl 1 rfl) ?_
  refine z_wv (wc := [(q_t, zX0 q_t_gates v_t_count), (q_t_gates, zI cI 64 f_t_gates)]) (wr := []) (W1 := fun u : (Int32) × (Nat → Int32) => [(q_t, zX0 q_t_gates (u.1)), (q_t_gates, zI cI 64 (u.2))]) (va_runV (As := [.int 3, .int a1]) (rest := []) ⟨hx, hb, hml, hown, hts⟩ (zkX0_addOn l D cI cJ cC q_t q_t_gates _ 3 a1 v_t_count f_t_gates hw) (cwV 2 hts (z_gV wm_47 wm_48 wm_49 wm_15 wm_43) rfl rfl rfl (by decide +kernel) ⟨Nat.le_of_ble_eq_true rfl, Nat.le_of_ble_eq_true rfl⟩) (z_pvW hK hP hD [0, 1] rfl (by decide) rfl 0 0 rfl rfl) rfl rfl hl.1 rfl (lv_room (Nat.le_of_ble_eq_true rfl)) dX0_addBackTurn_3 ⟨Nat.zero_le _, Nat.zero_le _⟩) hP hD hS hA [0, 1] [] rfl rfl (by decide) (by decide) (fun u9 H locs hw hP hD hS => ?_)
  obtain ⟨u1, u2⟩ := u9
  have hP : va_P D vwCl [(q_t, zX0 q_t_gates u1), (q_t_gates, zI cI 64 u2)] H := hP
  have hD : va_D A [(q_t, zX0 q_t_gates u1), (q_t_gates, zI cI 64 u2)] := hD
  try dsimp only at hw
  refine lv_aload_n hx hb dX0_addBackTurn_6 rfl (lv_at hl 0 rfl) ?_
  refine lv_iconst (v := 2) hx hb dX0_addBackTurn_7 (by decide) ?_
  refine lv_iload_n hx hb dX0_addBackTurn_8 rfl (lv_at hl 1 rfl) ?_
  refine z_wv (wc := [(q_t, zX0 q_t_gates u1), (q_t_gates, zI cI 64 u2)]) (wr := []) (W1 := fun u : (Int32) × (Nat → Int32) => [(q_t, zX0 q_t_gates (u.1)), (q_t_gates, zI cI 64 (u.2))]) (va_runV (As := [.int 2, .int a1]) (rest := []) ⟨hx, hb, hml, hown, hts⟩ (zkX0_addOn l D cI cJ cC q_t q_t_gates _ 2 a1 u1 u2 hw) (cwV 2 hts (z_gV wm_47 wm_48 wm_49 wm_15 wm_43) rfl rfl rfl (by decide +kernel) ⟨Nat.le_of_ble_eq_true rfl, Nat.le_of_ble_eq_true rfl⟩) (z_pvW hK hP hD [0, 1] rfl (by decide) rfl 0 0 rfl rfl) rfl rfl hl.1 rfl (lv_room (Nat.le_of_ble_eq_true rfl)) dX0_addBackTurn_9 ⟨Nat.zero_le _, Nat.zero_le _⟩) hP hD hS hA [0, 1] [] rfl rfl (by decide) (by decide) (fun u9 H locs hw hP hD hS => ?_)
  obtain ⟨u3, u4⟩ := u9
  have hP : va_P D vwCl [(q_t, zX0 q_t_gates u3), (q_t_gates, zI cI 64 u4)] H := hP
  have hD : va_D A [(q_t, zX0 q_t_gates u3), (q_t_gates, zI cI 64 u4)] := hD
  try dsimp only at hw
  refine lv_aload_n hx hb dX0_addBackTurn_12 rfl (lv_at hl 0 rfl) ?_
  refine lv_iconst (v := 5) hx hb dX0_addBackTurn_13 (by decide) ?_
  refine lv_iload_n hx hb dX0_addBackTurn_14 rfl (lv_at hl 1 rfl) ?_
  refine z_wv (wc := [(q_t, zX0 q_t_gates u3), (q_t_gates, zI cI 64 u4)]) (wr := []) (W1 := fun u : (Int32) × (Nat → Int32) => [(q_t, zX0 q_t_gates (u.1)), (q_t_gates, zI cI 64 (u.2))]) (va_runV (As := [.int 5, .int a1]) (rest := []) ⟨hx, hb, hml, hown, hts⟩ (zkX0_addOn l D cI cJ cC q_t q_t_gates _ 5 a1 u3 u4 hw) (cwV 2 hts (z_gV wm_47 wm_48 wm_49 wm_15 wm_43) rfl rfl rfl (by decide +kernel) ⟨Nat.le_of_ble_eq_true rfl, Nat.le_of_ble_eq_true rfl⟩) (z_pvW hK hP hD [0, 1] rfl (by decide) rfl 0 0 rfl rfl) rfl rfl hl.1 rfl (lv_room (Nat.le_of_ble_eq_true rfl)) dX0_addBackTurn_15 ⟨Nat.zero_le _, Nat.zero_le _⟩) hP hD hS hA [0, 1] [] rfl rfl (by decide) (by decide) (fun u9 H locs hw hP hD hS => ?_)
  obtain ⟨u5, u6⟩ := u9
  have hP : va_P D vwCl [(q_t, zX0 q_t_gates u5), (q_t_gates, zI cI 64 u6)] H := hP
  have hD : va_D A [(q_t, zX0 q_t_gates u5), (q_t_gates, zI cI 64 u6)] := hD
  try dsimp only at hw
  exact W.vret hx hb hr (fun t ht hW => ⟨⟨(u5, u6), rfl, hw, ⟨by rw [ht]; exact hP, hD⟩⟩, hS.F ht⟩) hS.2.2 dX0_addBackTurn_18

def wpX0_addInverted_7b (Q : (Int32) → (Nat → Int32) → Prop)  (R_7 : (Int32) → (Int32) → (Nat → Int32) → Prop) (v_a1_count : Int32) (f_a1_gates : Nat → Int32) (x2 : Int32) (v_t_count : Int32) (f_t_gates : Nat → Int32) : Prop := ((x2 < 0 → Q v_t_count f_t_gates) ∧ (¬ x2 < 0 → wpX0_at (fun r2 : Int32 => (((zvX2_kind r2) = 3 → wpX0_addBackTurn (fun (u9 : Int32) (u10 : Nat → Int32) => R_7 (x2 + (-1)) u9 u10) (zvX2_a r2) v_t_count f_t_gates) ∧ (¬ (zvX2_kind r2) = 3 → wpX0_add (fun (u4 : Int32) (u5 : Nat → Int32) => (((zvX2_kind r2) = 2 → wpX0_addOn (fun (u7 : Int32) (u8 : Nat → Int32) => R_7 (x2 + (-1)) u7 u8) 5 (zvX2_a r2) u4 u5) ∧ (¬ (zvX2_kind r2) = 2 → R_7 (x2 + (-1)) u4 u5))) r2 v_t_count f_t_gates))) x2 v_a1_count f_a1_gates))
def wpX0_addInverted_7 (Q : (Int32) → (Nat → Int32) → Prop)  (v_a1_count : Int32) (f_a1_gates : Nat → Int32) : Nat → (Int32) → (Int32) → (Nat → Int32) → Prop
  | 0 => fun _ _ _ => False
  | n + 1 => fun x2 v_t_count f_t_gates => wpX0_addInverted_7b Q  (wpX0_addInverted_7 Q  v_a1_count f_a1_gates n) v_a1_count f_a1_gates x2 v_t_count f_t_gates
def wpX0_addInverted (Q : (Int32) → (Nat → Int32) → Prop)  (v_a1_count : Int32) (f_a1_gates : Nat → Int32) (v_t_count : Int32) (f_t_gates : Nat → Int32) : Prop := ∃ n : Nat, wpX0_addInverted_7 Q  v_a1_count f_a1_gates n (v_a1_count - 1) v_t_count f_t_gates
abbrev zrX0_addInverted : Room := { frames := 4, cells := 0, slots := 0, locals := 87 }
set_option maxHeartbeats 4000000 in
set_option maxRecDepth 100000 in
theorem zkX0_addInverted (l : Launch) (D : va_G) (cI cJ cC : ClassId) (q_t q_a1 q_t_gates q_a1_gates : Nat) (sz : Nat)  (v_t_count : Int32) (v_a1_count : Int32) (f_t_gates : Nat → Int32) (f_a1_gates : Nat → Int32) {Q : (Int32) → (Nat → Int32) → Prop} (hw : wpX0_addInverted Q v_a1_count f_a1_gates v_t_count f_t_gates) : Met l yX0_addInverted wmX0_addInverted zrX0_addInverted (zPreW D (zT cI cJ cC) [(q_t, zX0 q_t_gates v_t_count), (q_a1, zX0 q_a1_gates v_a1_count), (q_t_gates, zI cI 64 f_t_gates), (q_a1_gates, zI cI 64 f_a1_gates)] sz [.ref q_t, .ref q_a1]) (va_Qv (fun u : (Int32) × (Nat → Int32) => Q (u.1) (u.2)) (fun u t => zAt D (va_A [(q_t, zX0 q_t_gates v_t_count), (q_a1, zX0 q_a1_gates v_a1_count), (q_t_gates, zI cI 64 f_t_gates), (q_a1_gates, zI cI 64 f_a1_gates)] sz) [(q_t, zX0 q_t_gates (u.1)), (q_a1, zX0 q_a1_gates v_a1_count), (q_t_gates, zI cI 64 (u.2)), (q_a1_gates, zI cI 64 f_a1_gates)] t) (va_A [(q_t, zX0 q_t_gates v_t_count), (q_a1, zX0 q_a1_gates v_a1_count), (q_t_gates, zI cI 64 f_t_gates), (q_a1_gates, zI cI 64 f_a1_gates)] sz)) 0 0 (va_A [(q_t, zX0 q_t_gates v_t_count), (q_a1, zX0 q_a1_gates v_a1_count), (q_t_gates, zI cI 64 f_t_gates), (q_a1_gates, zI cI 64 f_a1_gates)] sz) := by
  refine Met.ofW (cc := cX0_addInverted) (maxL := 5) (ret := none) (by decide) rfl ?_
  intro p e s m args below meth c s₁ B hml hv
  obtain ⟨rfl, hsz, hP, hK, hD0⟩ := hv
  have hx := B.exec
  have hb := B.bytes
  have hr := B.returns
  have hts := atoms_spec (ws := wmX0_addInverted) B.pre
  have hown : s.vm.findClass RX0 = some m.cls := findClass_of_methodNamed B.named
  have hlocks := B.notSynchronized
  subst hsz
  have hD := hD0.self (sz := s.heap.size)
  generalize hAe : va_A [(q_t, zX0 q_t_gates v_t_count), (q_a1, zX0 q_a1_gates v_a1_count), (q_t_gates, zI cI 64 f_t_gates), (q_a1_gates, zI cI 64 f_a1_gates)] s.heap.size = A at hD ⊢
  have hA : ∀ q : Nat, s.heap.size ≤ q → A q := fun q h => by rw [← hAe]; exact Or.inr h
  have hS : va_S A s.heap s.heap [] := va_S.rf
  have hP : va_P D vwCl [(q_t, zX0 q_t_gates v_t_count), (q_a1, zX0 q_a1_gates v_a1_count), (q_t_gates, zI cI 64 f_t_gates), (q_a1_gates, zI cI 64 f_a1_gates)] s.heap := hP
  have hw_1 := hts _ (z_in wm_6)
  have hw_2 : ∀ w ∈ u_ws RX0 TX0 2, w ∈ wmX0_addInverted := fun w h => z_in (wi_wsX00 w h)
  have hl := lv_entry ([.ref q_t, .ref q_a1]) (n := 5) (Nat.le_of_ble_eq_true rfl)
  rw [lg_entry_eq]
  generalize (lg_sl ([.ref q_t, .ref q_a1]) ++ List.replicate (5 - (lg_sl ([.ref q_t, .ref q_a1])).length) Slot.unset).toArray = ls at hl ⊢
  have hl : lv_has ls 5 [(0, .ref q_t), (1, .ref q_a1)] := hl
  have L_7 : ∀ (n : Nat), ∀ (x2 : Int32) (v_t_count : Int32) (f_t_gates : Nat → Int32) (H : Heap) (locs : List Loc) (ls : Array Slot), va_P D vwCl [(q_t, zX0 q_t_gates v_t_count), (q_a1, zX0 q_a1_gates v_a1_count), (q_t_gates, zI cI 64 f_t_gates), (q_a1_gates, zI cI 64 f_a1_gates)] H → va_D A [(q_t, zX0 q_t_gates v_t_count), (q_a1, zX0 q_a1_gates v_a1_count), (q_t_gates, zI cI 64 f_t_gates), (q_a1_gates, zI cI 64 f_a1_gates)] → va_S A s.heap H locs → lv_has ls 5 [(0, .ref q_t), (1, .ref q_a1), (2, .int x2)] → wpX0_addInverted_7 Q  v_a1_count f_a1_gates n x2 v_t_count f_t_gates → W p l e (headSpec wmX0_addInverted zrX0_addInverted).room s m ([.ref q_t, .ref q_a1] : List Value).toArray below meth c H locs 0 0 (MQ below (va_Qv (fun u : (Int32) × (Nat → Int32) => Q (u.1) (u.2)) (fun u t => zAt D A [(q_t, zX0 q_t_gates (u.1)), (q_a1, zX0 q_a1_gates v_a1_count), (q_t_gates, zI cI 64 (u.2)), (q_a1_gates, zI cI 64 f_a1_gates)] t) A) ([.ref q_t, .ref q_a1] : List Value).toArray s 0 0 A) (F0 m 7 ls []) := by
    intro n
    induction n with
    | zero => intro x2 v_t_count f_t_gates H locs ls hP hD hS hl hw; exact False.elim hw
    | succ n_7 ih_7 =>
      intro x2 v_t_count f_t_gates H locs ls hP hD hS hl hw
      have hw : wpX0_addInverted_7b Q  (wpX0_addInverted_7 Q  v_a1_count f_a1_gates n_7) v_a1_count f_a1_gates x2 v_t_count f_t_gates := hw
      refine lv_iload_n hx hb dX0_addInverted_7 rfl (lv_at hl 2 rfl) ?_
      refine lv_if_lt (tgt := 66) hx hb dX0_addInverted_8 (by decide) (fun c1 => ?_) (fun c1 => ?_)
      · have hw := hw.1 c1
        exact W.vret hx hb hr (fun t ht hW => ⟨⟨(v_t_count, f_t_gates), rfl, hw, ⟨by rw [ht]; exact hP, hD⟩⟩, hS.F ht⟩) hS.2.2 dX0_addInverted_66
      · have hw := hw.2 c1
        refine lv_aload_n hx hb dX0_addInverted_11 rfl (lv_at hl 1 rfl) ?_
        refine lv_iload_n hx hb dX0_addInverted_12 rfl (lv_at hl 2 rfl) ?_
        refine z_ri (va_runV (As := [.int x2]) (rest := []) ⟨hx, hb, hml, hown, hts⟩ (zkX0_at l D cI cJ cC q_a1 q_a1_gates x2 v_a1_count f_a1_gates hw) (cwV 1 hts (z_gV wm_12 wm_13 wm_14 wm_15 wm_8) rfl rfl rfl (by decide +kernel) ⟨Nat.le_of_ble_eq_true rfl, Nat.le_of_ble_eq_true rfl⟩) (z_pvR hK hP [1, 3] rfl 1 0 rfl rfl) rfl rfl hl.1 rfl (lv_room (Nat.le_of_ble_eq_true rfl)) dX0_addInverted_13 ⟨Nat.zero_le _, Nat.zero_le _⟩) (fun r2 hw => ?_)
        refine lv_istore_n (lv' := [(3, .int r2), (0, .ref q_t), (1, .ref q_a1), (2, .int x2)]) hx hb dX0_addInverted_16 rfl hl (by decide) rfl (fun ls hl => ?_)
        refine lv_iload_n hx hb dX0_addInverted_17 rfl (lv_at hl 0 rfl) ?_
        refine z_vi (va_runS (As := [.int r2]) (rest := []) ⟨hx, hb, hml, hown, hts⟩ (zkX2_kind l   r2 ) (va_cwS 1 hts (z_gS wm_28 wm_29 wm_30 wm_26) rfl rfl rfl (by decide +kernel) ⟨Nat.le_of_ble_eq_true rfl, Nat.le_of_ble_eq_true rfl⟩) z_psS rfl rfl hl.1 rfl (lv_room (Nat.le_of_ble_eq_true rfl)) dX0_addInverted_18 ⟨Nat.zero_le _, Nat.zero_le _⟩) ?_
        refine lv_istore (lv' := [(4, .int (zvX2_kind r2)), (3, .int r2), (0, .ref q_t), (1, .ref q_a1), (2, .int x2)]) hx hb dX0_addInverted_21 hl (by decide) rfl (fun ls hl => ?_)
        refine lv_iload hx hb dX0_addInverted_23 (lv_at hl 0 rfl) ?_
        refine lv_iconst (v := 3) hx hb dX0_addInverted_25 (by decide) ?_
        refine lv_icmp_ne (tgt := 40) hx hb dX0_addInverted_26 (by decide) (fun c3 => ?_) (fun c3 => ?_)
        · have hw := hw.2 c3
          refine lv_aload_n hx hb dX0_addInverted_40 rfl (lv_at hl 2 rfl) ?_
          refine lv_iload_n hx hb dX0_addInverted_41 rfl (lv_at hl 1 rfl) ?_
          refine z_wv (wc := [(q_t, zX0 q_t_gates v_t_count), (q_t_gates, zI cI 64 f_t_gates)]) (wr := [(q_a1, zX0 q_a1_gates v_a1_count), (q_a1_gates, zI cI 64 f_a1_gates)]) (W1 := fun u : (Int32) × (Nat → Int32) => [(q_t, zX0 q_t_gates (u.1)), (q_t_gates, zI cI 64 (u.2))]) (va_runV (As := [.int r2]) (rest := []) ⟨hx, hb, hml, hown, hts⟩ (zkX0_add l D cI cJ cC q_t q_t_gates _ r2 v_t_count f_t_gates hw) (cwV 1 hts (z_gV wm_16 wm_17 wm_18 wm_15 wm_10) rfl rfl rfl (by decide +kernel) ⟨Nat.le_of_ble_eq_true rfl, Nat.le_of_ble_eq_true rfl⟩) (z_pvW hK hP hD [0, 2] rfl (by decide) rfl 0 0 rfl rfl) rfl rfl hl.1 rfl (lv_room (Nat.le_of_ble_eq_true rfl)) dX0_addInverted_42 ⟨Nat.zero_le _, Nat.zero_le _⟩) hP hD hS hA [0, 2] [1, 3] rfl rfl (by decide) (by decide) (fun u9 H locs hw hP hD hS => ?_)
          obtain ⟨u4, u5⟩ := u9
          have hP : va_P D vwCl [(q_a1, zX0 q_a1_gates v_a1_count), (q_a1_gates, zI cI 64 f_a1_gates), (q_t, zX0 q_t_gates u4), (q_t_gates, zI cI 64 u5)] H := hP
          have hD : va_D A [(q_a1, zX0 q_a1_gates v_a1_count), (q_a1_gates, zI cI 64 f_a1_gates), (q_t, zX0 q_t_gates u4), (q_t_gates, zI cI 64 u5)] := hD
          try dsimp only at hw
          refine lv_iload hx hb dX0_addInverted_45 (lv_at hl 0 rfl) ?_
          refine lv_iconst (v := 2) hx hb dX0_addInverted_47 (by decide) ?_
          refine lv_icmp_ne (tgt := 60) hx hb dX0_addInverted_48 (by decide) (fun c6 => ?_) (fun c6 => ?_)
          · have hw := hw.2 c6
            refine lv_iinc (v := (x2 + (-1))) (lv' := [(2, .int (x2 + (-1))), (4, .int (zvX2_kind r2)), (3, .int r2), (0, .ref q_t), (1, .ref q_a1)]) hx hb dX0_addInverted_60 hl (k := 4) rfl rfl (by decide) rfl (fun ls hl => ?_)
            refine lv_goto (tgt := 7) hx hb dX0_addInverted_63 (by decide) ?_
            exact ih_7 (x2 + (-1)) u4 u5 _ _ _ (hP.sub [2, 0, 3, 1] rfl) (hD.sub [2, 0, 3, 1] (by decide) rfl) hS (lv_sub hl [3, 4, 0] rfl) hw
          · have hw := hw.1 c6
            refine lv_aload_n hx hb dX0_addInverted_51 rfl (lv_at hl 2 rfl) ?_
            refine lv_iconst (v := 5) hx hb dX0_addInverted_52 (by decide) ?_
            refine lv_iload_n hx hb dX0_addInverted_53 rfl (lv_at hl 1 rfl) ?_
            refine z_vi (va_runS (As := [.int r2]) (rest := [.int 5, .ref q_t]) ⟨hx, hb, hml, hown, hts⟩ (zkX2_a l   r2 ) (va_cwS 1 hts (z_gS wm_33 wm_34 wm_30 wm_31) rfl rfl rfl (by decide +kernel) ⟨Nat.le_of_ble_eq_true rfl, Nat.le_of_ble_eq_true rfl⟩) z_psS rfl rfl hl.1 rfl (lv_room (Nat.le_of_ble_eq_true rfl)) dX0_addInverted_54 ⟨Nat.zero_le _, Nat.zero_le _⟩) ?_
            refine z_wv (wc := [(q_t, zX0 q_t_gates u4), (q_t_gates, zI cI 64 u5)]) (wr := [(q_a1, zX0 q_a1_gates v_a1_count), (q_a1_gates, zI cI 64 f_a1_gates)]) (W1 := fun u : (Int32) × (Nat → Int32) => [(q_t, zX0 q_t_gates (u.1)), (q_t_gates, zI cI 64 (u.2))]) (va_runV (As := [.int 5, .int (zvX2_a r2)]) (rest := []) ⟨hx, hb, hml, hown, hts⟩ (zkX0_addOn l D cI cJ cC q_t q_t_gates _ 5 (zvX2_a r2) u4 u5 hw) (cwV 2 hts (z_gV wm_47 wm_48 wm_49 wm_15 wm_43) rfl rfl rfl (by decide +kernel) ⟨Nat.le_of_ble_eq_true rfl, Nat.le_of_ble_eq_true rfl⟩) (z_pvW hK hP hD [2, 3] rfl (by decide) rfl 2 0 rfl rfl) rfl rfl hl.1 rfl (lv_room (Nat.le_of_ble_eq_true rfl)) dX0_addInverted_57 ⟨Nat.zero_le _, Nat.zero_le _⟩) hP hD hS hA [2, 3] [0, 1] rfl rfl (by decide) (by decide) (fun u9 H locs hw hP hD hS => ?_)
            obtain ⟨u7, u8⟩ := u9
            have hP : va_P D vwCl [(q_a1, zX0 q_a1_gates v_a1_count), (q_a1_gates, zI cI 64 f_a1_gates), (q_t, zX0 q_t_gates u7), (q_t_gates, zI cI 64 u8)] H := hP
            have hD : va_D A [(q_a1, zX0 q_a1_gates v_a1_count), (q_a1_gates, zI cI 64 f_a1_gates), (q_t, zX0 q_t_gates u7), (q_t_gates, zI cI 64 u8)] := hD
            try dsimp only at hw
            refine lv_iinc (v := (x2 + (-1))) (lv' := [(2, .int (x2 + (-1))), (4, .int (zvX2_kind r2)), (3, .int r2), (0, .ref q_t), (1, .ref q_a1)]) hx hb dX0_addInverted_60 hl (k := 4) rfl rfl (by decide) rfl (fun ls hl => ?_)
            refine lv_goto (tgt := 7) hx hb dX0_addInverted_63 (by decide) ?_
            exact ih_7 (x2 + (-1)) u7 u8 _ _ _ (hP.sub [2, 0, 3, 1] rfl) (hD.sub [2, 0, 3, 1] (by decide) rfl) hS (lv_sub hl [3, 4, 0] rfl) hw
        · have hw := hw.1 c3
          refine lv_aload_n hx hb dX0_addInverted_29 rfl (lv_at hl 2 rfl) ?_
          refine lv_iload_n hx hb dX0_addInverted_30 rfl (lv_at hl 1 rfl) ?_
          refine z_vi (va_runS (As := [.int r2]) (rest := [.ref q_t]) ⟨hx, hb, hml, hown, hts⟩ (zkX2_a l   r2 ) (va_cwS 1 hts (z_gS wm_33 wm_34 wm_30 wm_31) rfl rfl rfl (by decide +kernel) ⟨Nat.le_of_ble_eq_true rfl, Nat.le_of_ble_eq_true rfl⟩) z_psS rfl rfl hl.1 rfl (lv_room (Nat.le_of_ble_eq_true rfl)) dX0_addInverted_31 ⟨Nat.zero_le _, Nat.zero_le _⟩) ?_
          refine z_wv (wc := [(q_t, zX0 q_t_gates v_t_count), (q_t_gates, zI cI 64 f_t_gates)]) (wr := [(q_a1, zX0 q_a1_gates v_a1_count), (q_a1_gates, zI cI 64 f_a1_gates)]) (W1 := fun u : (Int32) × (Nat → Int32) => [(q_t, zX0 q_t_gates (u.1)), (q_t_gates, zI cI 64 (u.2))]) (va_runV (As := [.int (zvX2_a r2)]) (rest := []) ⟨hx, hb, hml, hown, hts⟩ (zkX0_addBackTurn l D cI cJ cC q_t q_t_gates _ (zvX2_a r2) v_t_count f_t_gates hw) (cwV 1 hts (z_gV wm_50 wm_51 wm_52 wm_15 wm_46) rfl rfl rfl (by decide +kernel) ⟨Nat.le_of_ble_eq_true rfl, Nat.le_of_ble_eq_true rfl⟩) (z_pvW hK hP hD [0, 2] rfl (by decide) rfl 0 0 rfl rfl) rfl rfl hl.1 rfl (lv_room (Nat.le_of_ble_eq_true rfl)) dX0_addInverted_34 ⟨Nat.zero_le _, Nat.zero_le _⟩) hP hD hS hA [0, 2] [1, 3] rfl rfl (by decide) (by decide) (fun u9 H locs hw hP hD hS => ?_)
          obtain ⟨u9, u10⟩ := u9
          have hP : va_P D vwCl [(q_a1, zX0 q_a1_gates v_a1_count), (q_a1_gates, zI cI 64 f_a1_gates), (q_t, zX0 q_t_gates u9), (q_t_gates, zI cI 64 u10)] H := hP
          have hD : va_D A [(q_a1, zX0 q_a1_gates v_a1_count), (q_a1_gates, zI cI 64 f_a1_gates), (q_t, zX0 q_t_gates u9), (q_t_gates, zI cI 64 u10)] := hD
          try dsimp only at hw
          refine lv_goto (tgt := 60) hx hb dX0_addInverted_37 (by decide) ?_
          refine lv_iinc (v := (x2 + (-1))) (lv' := [(2, .int (x2 + (-1))), (4, .int (zvX2_kind r2)), (3, .int r2), (0, .ref q_t), (1, .ref q_a1)]) hx hb dX0_addInverted_60 hl (k := 4) rfl rfl (by decide) rfl (fun ls hl => ?_)
          refine lv_goto (tgt := 7) hx hb dX0_addInverted_63 (by decide) ?_
          exact ih_7 (x2 + (-1)) u9 u10 _ _ _ (hP.sub [2, 0, 3, 1] rfl) (hD.sub [2, 0, 3, 1] (by decide) rfl) hS (lv_sub hl [3, 4, 0] rfl) hw
  refine lv_aload_n hx hb dX0_addInverted_0 rfl (lv_at hl 1 rfl) ?_
  refine va_get (D := D) (ci := 0) (v := .int v_a1_count) (C := RX0) (T := TX0) (N := 2) hx hb hts hw_2 hown hK hP 1 rfl rfl 1 (by decide) hw_1 (fun _ h9 => h9) rfl dX0_addInverted_1 ?_
  refine lv_iconst (v := 1) hx hb dX0_addInverted_4 (by decide) ?_
  refine lv_isub hx hb dX0_addInverted_5 ?_
  refine lv_istore_n (lv' := [(2, .int (v_a1_count - 1)), (0, .ref q_t), (1, .ref q_a1)]) hx hb dX0_addInverted_6 rfl hl (by decide) rfl (fun ls hl => ?_)
  obtain ⟨n_7, hw⟩ := hw
  exact L_7 n_7 (v_a1_count - 1) v_t_count f_t_gates _ _ _ hP hD hS (lv_sub hl [1, 2, 0] rfl) hw

def wpX0_countExpanded (Q : Int32 → Prop)  (v_t_count : Int32) (f_t_gates : Nat → Int32)  : Prop := wpX0_countKind (fun r1 : Int32 => Q (v_t_count + (20 * r1))) 9 v_t_count f_t_gates
abbrev zrX0_countExpanded : Room := { frames := 2, cells := 0, slots := 0, locals := 43 }
set_option maxHeartbeats 4000000 in
set_option maxRecDepth 100000 in
theorem zkX0_countExpanded (l : Launch) (D : va_G) (cI cJ cC : ClassId) (q_t q_t_gates : Nat)  (v_t_count : Int32) (f_t_gates : Nat → Int32) {Q : Int32 → Prop} (hw : wpX0_countExpanded Q v_t_count f_t_gates) : Met l yX0_countExpanded wmX0_countExpanded zrX0_countExpanded (zPreR D (zT cI cJ cC) [(q_t, zX0 q_t_gates v_t_count), (q_t_gates, zI cI 64 f_t_gates)] [.ref q_t]) (vp_Si (fun r => Q r)) 0 0 (fun _ => False) := by
  refine Met.ofW (cc := cX0_countExpanded) (maxL := 1) (ret := (some .int)) (by decide) rfl ?_
  intro p e s m args below meth c s₁ B hml hv
  obtain ⟨rfl, hP, hK⟩ := hv
  have hx := B.exec
  have hb := B.bytes
  have hr := B.returns
  have hts := atoms_spec (ws := wmX0_countExpanded) B.pre
  have hown : s.vm.findClass RX0 = some m.cls := findClass_of_methodNamed B.named
  have hlocks := B.notSynchronized
  have hw_1 := hts _ (z_in wm_6)
  have hw_2 : ∀ w ∈ u_ws RX0 TX0 2, w ∈ wmX0_countExpanded := fun w h => z_in (wi_wsX00 w h)
  have hl := lv_entry ([.ref q_t]) (n := 1) (Nat.le_of_ble_eq_true rfl)
  rw [lg_entry_eq]
  generalize (lg_sl ([.ref q_t]) ++ List.replicate (1 - (lg_sl ([.ref q_t])).length) Slot.unset).toArray = ls at hl ⊢
  have hl : lv_has ls 1 [(0, .ref q_t)] := hl
  refine lv_aload_n hx hb dX0_countExpanded_0 rfl (lv_at hl 0 rfl) ?_
  refine va_get (D := D) (ci := 0) (v := .int v_t_count) (C := RX0) (T := TX0) (N := 2) hx hb hts hw_2 hown hK hP 0 rfl rfl 1 (by decide) hw_1 (fun _ h9 => h9) rfl dX0_countExpanded_1 ?_
  refine lv_bipush (v := 20) hx hb dX0_countExpanded_4 (by decide) ?_
  refine lv_aload_n hx hb dX0_countExpanded_6 rfl (lv_at hl 0 rfl) ?_
  refine lv_bipush (v := 9) hx hb dX0_countExpanded_7 (by decide) ?_
  refine z_ri (va_runV (As := [.int 9]) (rest := [.int 20, .int v_t_count]) ⟨hx, hb, hml, hown, hts⟩ (zkX0_countKind l D cI cJ cC q_t q_t_gates 9 v_t_count f_t_gates hw) (cwV 1 hts (z_gV wm_36 wm_37 wm_38 wm_15 wm_27) rfl rfl rfl (by decide +kernel) ⟨Nat.le_of_ble_eq_true rfl, Nat.le_of_ble_eq_true rfl⟩) (z_pvR hK hP [0, 1] rfl 0 0 rfl rfl) rfl rfl hl.1 rfl (lv_room (Nat.le_of_ble_eq_true rfl)) dX0_countExpanded_9 ⟨Nat.zero_le _, Nat.zero_le _⟩) (fun r1 hw => ?_)
  refine lv_imul hx hb dX0_countExpanded_12 ?_
  refine lv_iadd hx hb dX0_countExpanded_13 ?_
  exact W.iret (v := (v_t_count + (20 * r1))) hx hb hr (fun t ht hW => ⟨_, rfl, hw, ht⟩) (fun _ h => by cases h) dX0_countExpanded_14

def wpX0_addControlled (Q : (Int32) → (Nat → Int32) → Prop) (a1 : Int32) (a2 : Int32)  (v_t_count : Int32) (f_t_gates : Nat → Int32) : Prop := wpX0_add (fun (u1 : Int32) (u2 : Nat → Int32) => Q u1 u2) (zvX2_of 6 a1 a2 0) v_t_count f_t_gates
abbrev zrX0_addControlled : Room := { frames := 2, cells := 0, slots := 0, locals := 44 }
set_option maxHeartbeats 4000000 in
set_option maxRecDepth 100000 in
theorem zkX0_addControlled (l : Launch) (D : va_G) (cI cJ cC : ClassId) (q_t q_t_gates : Nat) (sz : Nat) (a1 : Int32) (a2 : Int32) (v_t_count : Int32) (f_t_gates : Nat → Int32) {Q : (Int32) → (Nat → Int32) → Prop} (hw : wpX0_addControlled Q a1 a2 v_t_count f_t_gates) : Met l yX0_addControlled wmX0_addControlled zrX0_addControlled (zPreW D (zT cI cJ cC) [(q_t, zX0 q_t_gates v_t_count), (q_t_gates, zI cI 64 f_t_gates)] sz [.ref q_t, .int a1, .int a2]) (va_Qv (fun u : (Int32) × (Nat → Int32) => Q (u.1) (u.2)) (fun u t => zAt D (va_A [(q_t, zX0 q_t_gates v_t_count), (q_t_gates, zI cI 64 f_t_gates)] sz) [(q_t, zX0 q_t_gates (u.1)), (q_t_gates, zI cI 64 (u.2))] t) (va_A [(q_t, zX0 q_t_gates v_t_count), (q_t_gates, zI cI 64 f_t_gates)] sz)) 0 0 (va_A [(q_t, zX0 q_t_gates v_t_count), (q_t_gates, zI cI 64 f_t_gates)] sz) := by
  refine Met.ofW (cc := cX0_addControlled) (maxL := 3) (ret := none) (by decide) rfl ?_
  intro p e s m args below meth c s₁ B hml hv
  obtain ⟨rfl, hsz, hP, hK, hD0⟩ := hv
  have hx := B.exec
  have hb := B.bytes
  have hr := B.returns
  have hts := atoms_spec (ws := wmX0_addControlled) B.pre
  have hown : s.vm.findClass RX0 = some m.cls := findClass_of_methodNamed B.named
  have hlocks := B.notSynchronized
  subst hsz
  have hD := hD0.self (sz := s.heap.size)
  generalize hAe : va_A [(q_t, zX0 q_t_gates v_t_count), (q_t_gates, zI cI 64 f_t_gates)] s.heap.size = A at hD ⊢
  have hA : ∀ q : Nat, s.heap.size ≤ q → A q := fun q h => by rw [← hAe]; exact Or.inr h
  have hS : va_S A s.heap s.heap [] := va_S.rf
  have hP : va_P D vwCl [(q_t, zX0 q_t_gates v_t_count), (q_t_gates, zI cI 64 f_t_gates)] s.heap := hP
  have hl := lv_entry ([.ref q_t, .int a1, .int a2]) (n := 3) (Nat.le_of_ble_eq_true rfl)
  rw [lg_entry_eq]
  generalize (lg_sl ([.ref q_t, .int a1, .int a2]) ++ List.replicate (3 - (lg_sl ([.ref q_t, .int a1, .int a2])).length) Slot.unset).toArray = ls at hl ⊢
  have hl : lv_has ls 3 [(0, .ref q_t), (1, .int a1), (2, .int a2)] := hl
  refine lv_aload_n hx hb dX0_addControlled_0 rfl (lv_at hl 0 rfl) ?_
  refine lv_bipush (v := 6) hx hb dX0_addControlled_1 (by decide) ?_
  refine lv_iload_n hx hb dX0_addControlled_3 rfl (lv_at hl 1 rfl) ?_
  refine lv_iload_n hx hb dX0_addControlled_4 rfl (lv_at hl 2 rfl) ?_
  refine lv_iconst (v := 0) hx hb dX0_addControlled_5 (by decide) ?_
  refine z_vi (va_runS (As := [.int 6, .int a1, .int a2, .int 0]) (rest := [.ref q_t]) ⟨hx, hb, hml, hown, hts⟩ (zkX2_of l   6 a1 a2 0 ) (va_cwS 4 hts (z_gS wm_44 wm_45 wm_30 wm_40) rfl rfl rfl (by decide +kernel) ⟨Nat.le_of_ble_eq_true rfl, Nat.le_of_ble_eq_true rfl⟩) z_psS rfl rfl hl.1 rfl (lv_room (Nat.le_of_ble_eq_true rfl)) dX0_addControlled_6 ⟨Nat.zero_le _, Nat.zero_le _⟩) ?_
  refine z_wv (wc := [(q_t, zX0 q_t_gates v_t_count), (q_t_gates, zI cI 64 f_t_gates)]) (wr := []) (W1 := fun u : (Int32) × (Nat → Int32) => [(q_t, zX0 q_t_gates (u.1)), (q_t_gates, zI cI 64 (u.2))]) (va_runV (As := [.int (zvX2_of 6 a1 a2 0)]) (rest := []) ⟨hx, hb, hml, hown, hts⟩ (zkX0_add l D cI cJ cC q_t q_t_gates _ (zvX2_of 6 a1 a2 0) v_t_count f_t_gates hw) (cwV 1 hts (z_gV wm_16 wm_17 wm_18 wm_15 wm_10) rfl rfl rfl (by decide +kernel) ⟨Nat.le_of_ble_eq_true rfl, Nat.le_of_ble_eq_true rfl⟩) (z_pvW hK hP hD [0, 1] rfl (by decide) rfl 0 0 rfl rfl) rfl rfl hl.1 rfl (lv_room (Nat.le_of_ble_eq_true rfl)) dX0_addControlled_9 ⟨Nat.zero_le _, Nat.zero_le _⟩) hP hD hS hA [0, 1] [] rfl rfl (by decide) (by decide) (fun u9 H locs hw hP hD hS => ?_)
  obtain ⟨u1, u2⟩ := u9
  have hP : va_P D vwCl [(q_t, zX0 q_t_gates u1), (q_t_gates, zI cI 64 u2)] H := hP
  have hD : va_D A [(q_t, zX0 q_t_gates u1), (q_t_gates, zI cI 64 u2)] := hD
  try dsimp only at hw
  exact W.vret hx hb hr (fun t ht hW => ⟨⟨(u1, u2), rfl, hw, ⟨by rw [ht]; exact hP, hD⟩⟩, hS.F ht⟩) hS.2.2 dX0_addControlled_12

def wpX0_addParts (Q : (Int32) → (Nat → Int32) → Prop) (a1 : Int32) (a2 : Int32) (a3 : Int32)  (v_t_count : Int32) (f_t_gates : Nat → Int32) : Prop := wpX0_addOn (fun (u1 : Int32) (u2 : Nat → Int32) => wpX0_addControlled (fun (u3 : Int32) (u4 : Nat → Int32) => wpX0_addBackTurn (fun (u5 : Int32) (u6 : Nat → Int32) => wpX0_addControlled (fun (u7 : Int32) (u8 : Nat → Int32) => wpX0_addOn (fun (u9 : Int32) (u10 : Nat → Int32) => wpX0_addControlled (fun (u11 : Int32) (u12 : Nat → Int32) => wpX0_addBackTurn (fun (u13 : Int32) (u14 : Nat → Int32) => wpX0_addControlled (fun (u15 : Int32) (u16 : Nat → Int32) => wpX0_addOn (fun (u17 : Int32) (u18 : Nat → Int32) => wpX0_addOn (fun (u19 : Int32) (u20 : Nat → Int32) => wpX0_addOn (fun (u21 : Int32) (u22 : Nat → Int32) => wpX0_addControlled (fun (u23 : Int32) (u24 : Nat → Int32) => wpX0_addOn (fun (u25 : Int32) (u26 : Nat → Int32) => wpX0_addBackTurn (fun (u27 : Int32) (u28 : Nat → Int32) => wpX0_addControlled (fun (u29 : Int32) (u30 : Nat → Int32) => Q u29 u30) a1 a2 u27 u28) a2 u25 u26) 3 a1 u23 u24) a1 a2 u21 u22) 1 a3 u19 u20) 3 a3 u17 u18) 3 a2 u15 u16) a1 a3 u13 u14) a3 u11 u12) a2 a3 u9 u10) 3 a3 u7 u8) a1 a3 u5 u6) a3 u3 u4) a2 a3 u1 u2) 1 a3 v_t_count f_t_gates
abbrev zrX0_addParts : Room := { frames := 4, cells := 0, slots := 0, locals := 87 }
set_option maxHeartbeats 4000000 in
set_option maxRecDepth 100000 in
theorem zkX0_addParts (l : Launch) (D : va_G) (cI cJ cC : ClassId) (q_t q_t_gates : Nat) (sz : Nat) (a1 : Int32) (a2 : Int32) (a3 : Int32) (v_t_count : Int32) (f_t_gates : Nat → Int32) {Q : (Int32) → (Nat → Int32) → Prop} (hw : wpX0_addParts Q a1 a2 a3 v_t_count f_t_gates) : Met l yX0_addParts wmX0_addParts zrX0_addParts (zPreW D (zT cI cJ cC) [(q_t, zX0 q_t_gates v_t_count), (q_t_gates, zI cI 64 f_t_gates)] sz [.ref q_t, .int a1, .int a2, .int a3]) (va_Qv (fun u : (Int32) × (Nat → Int32) => Q (u.1) (u.2)) (fun u t => zAt D (va_A [(q_t, zX0 q_t_gates v_t_count), (q_t_gates, zI cI 64 f_t_gates)] sz) [(q_t, zX0 q_t_gates (u.1)), (q_t_gates, zI cI 64 (u.2))] t) (va_A [(q_t, zX0 q_t_gates v_t_count), (q_t_gates, zI cI 64 f_t_gates)] sz)) 0 0 (va_A [(q_t, zX0 q_t_gates v_t_count), (q_t_gates, zI cI 64 f_t_gates)] sz) := by
  refine Met.ofW (cc := cX0_addParts) (maxL := 4) (ret := none) (by decide) rfl ?_
  intro p e s m args below meth c s₁ B hml hv
  obtain ⟨rfl, hsz, hP, hK, hD0⟩ := hv
  have hx := B.exec
  have hb := B.bytes
  have hr := B.returns
  have hts := atoms_spec (ws := wmX0_addParts) B.pre
  have hown : s.vm.findClass RX0 = some m.cls := findClass_of_methodNamed B.named
  have hlocks := B.notSynchronized
  subst hsz
  have hD := hD0.self (sz := s.heap.size)
  generalize hAe : va_A [(q_t, zX0 q_t_gates v_t_count), (q_t_gates, zI cI 64 f_t_gates)] s.heap.size = A at hD ⊢
  have hA : ∀ q : Nat, s.heap.size ≤ q → A q := fun q h => by rw [← hAe]; exact Or.inr h
  have hS : va_S A s.heap s.heap [] := va_S.rf
  have hP : va_P D vwCl [(q_t, zX0 q_t_gates v_t_count), (q_t_gates, zI cI 64 f_t_gates)] s.heap := hP
  have hl := lv_entry ([.ref q_t, .int a1, .int a2, .int a3]) (n := 4) (Nat.le_of_ble_eq_true rfl)
  rw [lg_entry_eq]
  generalize (lg_sl ([.ref q_t, .int a1, .int a2, .int a3]) ++ List.replicate (4 - (lg_sl ([.ref q_t, .int a1, .int a2, .int a3])).length) Slot.unset).toArray = ls at hl ⊢
  have hl : lv_has ls 4 [(0, .ref q_t), (1, .int a1), (2, .int a2), (3, .int a3)] := hl
  refine lv_aload_n hx hb dX0_addParts_0 rfl (lv_at hl 0 rfl) ?_
  refine lv_iconst (v := 1) hx hb dX0_addParts_1 (by decide) ?_
  refine lv_iload_n hx hb dX0_addParts_2 rfl (lv_at hl 3 rfl) ?_
  refine z_wv (wc := [(q_t, zX0 q_t_gates v_t_count), (q_t_gates, zI cI 64 f_t_gates)]) (wr := []) (W1 := fun u : (Int32) × (Nat → Int32) => [(q_t, zX0 q_t_gates (u.1)), (q_t_gates, zI cI 64 (u.2))]) (va_runV (As := [.int 1, .int a3]) (rest := []) ⟨hx, hb, hml, hown, hts⟩ (zkX0_addOn l D cI cJ cC q_t q_t_gates _ 1 a3 v_t_count f_t_gates hw) (cwV 2 hts (z_gV wm_47 wm_48 wm_49 wm_15 wm_43) rfl rfl rfl (by decide +kernel) ⟨Nat.le_of_ble_eq_true rfl, Nat.le_of_ble_eq_true rfl⟩) (z_pvW hK hP hD [0, 1] rfl (by decide) rfl 0 0 rfl rfl) rfl rfl hl.1 rfl (lv_room (Nat.le_of_ble_eq_true rfl)) dX0_addParts_3 ⟨Nat.zero_le _, Nat.zero_le _⟩) hP hD hS hA [0, 1] [] rfl rfl (by decide) (by decide) (fun u9 H locs hw hP hD hS => ?_)
  obtain ⟨u1, u2⟩ := u9
  have hP : va_P D vwCl [(q_t, zX0 q_t_gates u1), (q_t_gates, zI cI 64 u2)] H := hP
  have hD : va_D A [(q_t, zX0 q_t_gates u1), (q_t_gates, zI cI 64 u2)] := hD
  try dsimp only at hw
  refine lv_aload_n hx hb dX0_addParts_6 rfl (lv_at hl 0 rfl) ?_
  refine lv_iload_n hx hb dX0_addParts_7 rfl (lv_at hl 2 rfl) ?_
  refine lv_iload_n hx hb dX0_addParts_8 rfl (lv_at hl 3 rfl) ?_
  refine z_wv (wc := [(q_t, zX0 q_t_gates u1), (q_t_gates, zI cI 64 u2)]) (wr := []) (W1 := fun u : (Int32) × (Nat → Int32) => [(q_t, zX0 q_t_gates (u.1)), (q_t_gates, zI cI 64 (u.2))]) (va_runV (As := [.int a2, .int a3]) (rest := []) ⟨hx, hb, hml, hown, hts⟩ (zkX0_addControlled l D cI cJ cC q_t q_t_gates _ a2 a3 u1 u2 hw) (cwV 2 hts (z_gV wm_58 wm_59 wm_60 wm_15 wm_57) rfl rfl rfl (by decide +kernel) ⟨Nat.le_of_ble_eq_true rfl, Nat.le_of_ble_eq_true rfl⟩) (z_pvW hK hP hD [0, 1] rfl (by decide) rfl 0 0 rfl rfl) rfl rfl hl.1 rfl (lv_room (Nat.le_of_ble_eq_true rfl)) dX0_addParts_9 ⟨Nat.zero_le _, Nat.zero_le _⟩) hP hD hS hA [0, 1] [] rfl rfl (by decide) (by decide) (fun u9 H locs hw hP hD hS => ?_)
  obtain ⟨u3, u4⟩ := u9
  have hP : va_P D vwCl [(q_t, zX0 q_t_gates u3), (q_t_gates, zI cI 64 u4)] H := hP
  have hD : va_D A [(q_t, zX0 q_t_gates u3), (q_t_gates, zI cI 64 u4)] := hD
  try dsimp only at hw
  refine lv_aload_n hx hb dX0_addParts_12 rfl (lv_at hl 0 rfl) ?_
  refine lv_iload_n hx hb dX0_addParts_13 rfl (lv_at hl 3 rfl) ?_
  refine z_wv (wc := [(q_t, zX0 q_t_gates u3), (q_t_gates, zI cI 64 u4)]) (wr := []) (W1 := fun u : (Int32) × (Nat → Int32) => [(q_t, zX0 q_t_gates (u.1)), (q_t_gates, zI cI 64 (u.2))]) (va_runV (As := [.int a3]) (rest := []) ⟨hx, hb, hml, hown, hts⟩ (zkX0_addBackTurn l D cI cJ cC q_t q_t_gates _ a3 u3 u4 hw) (cwV 1 hts (z_gV wm_50 wm_51 wm_52 wm_15 wm_46) rfl rfl rfl (by decide +kernel) ⟨Nat.le_of_ble_eq_true rfl, Nat.le_of_ble_eq_true rfl⟩) (z_pvW hK hP hD [0, 1] rfl (by decide) rfl 0 0 rfl rfl) rfl rfl hl.1 rfl (lv_room (Nat.le_of_ble_eq_true rfl)) dX0_addParts_14 ⟨Nat.zero_le _, Nat.zero_le _⟩) hP hD hS hA [0, 1] [] rfl rfl (by decide) (by decide) (fun u9 H locs hw hP hD hS => ?_)
  obtain ⟨u5, u6⟩ := u9
  have hP : va_P D vwCl [(q_t, zX0 q_t_gates u5), (q_t_gates, zI cI 64 u6)] H := hP
  have hD : va_D A [(q_t, zX0 q_t_gates u5), (q_t_gates, zI cI 64 u6)] := hD
  try dsimp only at hw
  refine lv_aload_n hx hb dX0_addParts_17 rfl (lv_at hl 0 rfl) ?_
  refine lv_iload_n hx hb dX0_addParts_18 rfl (lv_at hl 1 rfl) ?_
  refine lv_iload_n hx hb dX0_addParts_19 rfl (lv_at hl 3 rfl) ?_
  refine z_wv (wc := [(q_t, zX0 q_t_gates u5), (q_t_gates, zI cI 64 u6)]) (wr := []) (W1 := fun u : (Int32) × (Nat → Int32) => [(q_t, zX0 q_t_gates (u.1)), (q_t_gates, zI cI 64 (u.2))]) (va_runV (As := [.int a1, .int a3]) (rest := []) ⟨hx, hb, hml, hown, hts⟩ (zkX0_addControlled l D cI cJ cC q_t q_t_gates _ a1 a3 u5 u6 hw) (cwV 2 hts (z_gV wm_58 wm_59 wm_60 wm_15 wm_57) rfl rfl rfl (by decide +kernel) ⟨Nat.le_of_ble_eq_true rfl, Nat.le_of_ble_eq_true rfl⟩) (z_pvW hK hP hD [0, 1] rfl (by decide) rfl 0 0 rfl rfl) rfl rfl hl.1 rfl (lv_room (Nat.le_of_ble_eq_true rfl)) dX0_addParts_20 ⟨Nat.zero_le _, Nat.zero_le _⟩) hP hD hS hA [0, 1] [] rfl rfl (by decide) (by decide) (fun u9 H locs hw hP hD hS => ?_)
  obtain ⟨u7, u8⟩ := u9
  have hP : va_P D vwCl [(q_t, zX0 q_t_gates u7), (q_t_gates, zI cI 64 u8)] H := hP
  have hD : va_D A [(q_t, zX0 q_t_gates u7), (q_t_gates, zI cI 64 u8)] := hD
  try dsimp only at hw
  refine lv_aload_n hx hb dX0_addParts_23 rfl (lv_at hl 0 rfl) ?_
  refine lv_iconst (v := 3) hx hb dX0_addParts_24 (by decide) ?_
  refine lv_iload_n hx hb dX0_addParts_25 rfl (lv_at hl 3 rfl) ?_
  refine z_wv (wc := [(q_t, zX0 q_t_gates u7), (q_t_gates, zI cI 64 u8)]) (wr := []) (W1 := fun u : (Int32) × (Nat → Int32) => [(q_t, zX0 q_t_gates (u.1)), (q_t_gates, zI cI 64 (u.2))]) (va_runV (As := [.int 3, .int a3]) (rest := []) ⟨hx, hb, hml, hown, hts⟩ (zkX0_addOn l D cI cJ cC q_t q_t_gates _ 3 a3 u7 u8 hw) (cwV 2 hts (z_gV wm_47 wm_48 wm_49 wm_15 wm_43) rfl rfl rfl (by decide +kernel) ⟨Nat.le_of_ble_eq_true rfl, Nat.le_of_ble_eq_true rfl⟩) (z_pvW hK hP hD [0, 1] rfl (by decide) rfl 0 0 rfl rfl) rfl rfl hl.1 rfl (lv_room (Nat.le_of_ble_eq_true rfl)) dX0_addParts_26 ⟨Nat.zero_le _, Nat.zero_le _⟩) hP hD hS hA [0, 1] [] rfl rfl (by decide) (by decide) (fun u9 H locs hw hP hD hS => ?_)
  obtain ⟨u9, u10⟩ := u9
  have hP : va_P D vwCl [(q_t, zX0 q_t_gates u9), (q_t_gates, zI cI 64 u10)] H := hP
  have hD : va_D A [(q_t, zX0 q_t_gates u9), (q_t_gates, zI cI 64 u10)] := hD
  try dsimp only at hw
  refine lv_aload_n hx hb dX0_addParts_29 rfl (lv_at hl 0 rfl) ?_
  refine lv_iload_n hx hb dX0_addParts_30 rfl (lv_at hl 2 rfl) ?_
  refine lv_iload_n hx hb dX0_addParts_31 rfl (lv_at hl 3 rfl) ?_
  refine z_wv (wc := [(q_t, zX0 q_t_gates u9), (q_t_gates, zI cI 64 u10)]) (wr := []) (W1 := fun u : (Int32) × (Nat → Int32) => [(q_t, zX0 q_t_gates (u.1)), (q_t_gates, zI cI 64 (u.2))]) (va_runV (As := [.int a2, .int a3]) (rest := []) ⟨hx, hb, hml, hown, hts⟩ (zkX0_addControlled l D cI cJ cC q_t q_t_gates _ a2 a3 u9 u10 hw) (cwV 2 hts (z_gV wm_58 wm_59 wm_60 wm_15 wm_57) rfl rfl rfl (by decide +kernel) ⟨Nat.le_of_ble_eq_true rfl, Nat.le_of_ble_eq_true rfl⟩) (z_pvW hK hP hD [0, 1] rfl (by decide) rfl 0 0 rfl rfl) rfl rfl hl.1 rfl (lv_room (Nat.le_of_ble_eq_true rfl)) dX0_addParts_32 ⟨Nat.zero_le _, Nat.zero_le _⟩) hP hD hS hA [0, 1] [] rfl rfl (by decide) (by decide) (fun u9 H locs hw hP hD hS => ?_)
  obtain ⟨u11, u12⟩ := u9
  have hP : va_P D vwCl [(q_t, zX0 q_t_gates u11), (q_t_gates, zI cI 64 u12)] H := hP
  have hD : va_D A [(q_t, zX0 q_t_gates u11), (q_t_gates, zI cI 64 u12)] := hD
  try dsimp only at hw
  refine lv_aload_n hx hb dX0_addParts_35 rfl (lv_at hl 0 rfl) ?_
  refine lv_iload_n hx hb dX0_addParts_36 rfl (lv_at hl 3 rfl) ?_
  refine z_wv (wc := [(q_t, zX0 q_t_gates u11), (q_t_gates, zI cI 64 u12)]) (wr := []) (W1 := fun u : (Int32) × (Nat → Int32) => [(q_t, zX0 q_t_gates (u.1)), (q_t_gates, zI cI 64 (u.2))]) (va_runV (As := [.int a3]) (rest := []) ⟨hx, hb, hml, hown, hts⟩ (zkX0_addBackTurn l D cI cJ cC q_t q_t_gates _ a3 u11 u12 hw) (cwV 1 hts (z_gV wm_50 wm_51 wm_52 wm_15 wm_46) rfl rfl rfl (by decide +kernel) ⟨Nat.le_of_ble_eq_true rfl, Nat.le_of_ble_eq_true rfl⟩) (z_pvW hK hP hD [0, 1] rfl (by decide) rfl 0 0 rfl rfl) rfl rfl hl.1 rfl (lv_room (Nat.le_of_ble_eq_true rfl)) dX0_addParts_37 ⟨Nat.zero_le _, Nat.zero_le _⟩) hP hD hS hA [0, 1] [] rfl rfl (by decide) (by decide) (fun u9 H locs hw hP hD hS => ?_)
  obtain ⟨u13, u14⟩ := u9
  have hP : va_P D vwCl [(q_t, zX0 q_t_gates u13), (q_t_gates, zI cI 64 u14)] H := hP
  have hD : va_D A [(q_t, zX0 q_t_gates u13), (q_t_gates, zI cI 64 u14)] := hD
  try dsimp only at hw
  refine lv_aload_n hx hb dX0_addParts_40 rfl (lv_at hl 0 rfl) ?_
  refine lv_iload_n hx hb dX0_addParts_41 rfl (lv_at hl 1 rfl) ?_
  refine lv_iload_n hx hb dX0_addParts_42 rfl (lv_at hl 3 rfl) ?_
  refine z_wv (wc := [(q_t, zX0 q_t_gates u13), (q_t_gates, zI cI 64 u14)]) (wr := []) (W1 := fun u : (Int32) × (Nat → Int32) => [(q_t, zX0 q_t_gates (u.1)), (q_t_gates, zI cI 64 (u.2))]) (va_runV (As := [.int a1, .int a3]) (rest := []) ⟨hx, hb, hml, hown, hts⟩ (zkX0_addControlled l D cI cJ cC q_t q_t_gates _ a1 a3 u13 u14 hw) (cwV 2 hts (z_gV wm_58 wm_59 wm_60 wm_15 wm_57) rfl rfl rfl (by decide +kernel) ⟨Nat.le_of_ble_eq_true rfl, Nat.le_of_ble_eq_true rfl⟩) (z_pvW hK hP hD [0, 1] rfl (by decide) rfl 0 0 rfl rfl) rfl rfl hl.1 rfl (lv_room (Nat.le_of_ble_eq_true rfl)) dX0_addParts_43 ⟨Nat.zero_le _, Nat.zero_le _⟩) hP hD hS hA [0, 1] [] rfl rfl (by decide) (by decide) (fun u9 H locs hw hP hD hS => ?_)
  obtain ⟨u15, u16⟩ := u9
  have hP : va_P D vwCl [(q_t, zX0 q_t_gates u15), (q_t_gates, zI cI 64 u16)] H := hP
  have hD : va_D A [(q_t, zX0 q_t_gates u15), (q_t_gates, zI cI 64 u16)] := hD
  try dsimp only at hw
  refine lv_aload_n hx hb dX0_addParts_46 rfl (lv_at hl 0 rfl) ?_
  refine lv_iconst (v := 3) hx hb dX0_addParts_47 (by decide) ?_
  refine lv_iload_n hx hb dX0_addParts_48 rfl (lv_at hl 2 rfl) ?_
  refine z_wv (wc := [(q_t, zX0 q_t_gates u15), (q_t_gates, zI cI 64 u16)]) (wr := []) (W1 := fun u : (Int32) × (Nat → Int32) => [(q_t, zX0 q_t_gates (u.1)), (q_t_gates, zI cI 64 (u.2))]) (va_runV (As := [.int 3, .int a2]) (rest := []) ⟨hx, hb, hml, hown, hts⟩ (zkX0_addOn l D cI cJ cC q_t q_t_gates _ 3 a2 u15 u16 hw) (cwV 2 hts (z_gV wm_47 wm_48 wm_49 wm_15 wm_43) rfl rfl rfl (by decide +kernel) ⟨Nat.le_of_ble_eq_true rfl, Nat.le_of_ble_eq_true rfl⟩) (z_pvW hK hP hD [0, 1] rfl (by decide) rfl 0 0 rfl rfl) rfl rfl hl.1 rfl (lv_room (Nat.le_of_ble_eq_true rfl)) dX0_addParts_49 ⟨Nat.zero_le _, Nat.zero_le _⟩) hP hD hS hA [0, 1] [] rfl rfl (by decide) (by decide) (fun u9 H locs hw hP hD hS => ?_)
  obtain ⟨u17, u18⟩ := u9
  have hP : va_P D vwCl [(q_t, zX0 q_t_gates u17), (q_t_gates, zI cI 64 u18)] H := hP
  have hD : va_D A [(q_t, zX0 q_t_gates u17), (q_t_gates, zI cI 64 u18)] := hD
  try dsimp only at hw
  refine lv_aload_n hx hb dX0_addParts_52 rfl (lv_at hl 0 rfl) ?_
  refine lv_iconst (v := 3) hx hb dX0_addParts_53 (by decide) ?_
  refine lv_iload_n hx hb dX0_addParts_54 rfl (lv_at hl 3 rfl) ?_
  refine z_wv (wc := [(q_t, zX0 q_t_gates u17), (q_t_gates, zI cI 64 u18)]) (wr := []) (W1 := fun u : (Int32) × (Nat → Int32) => [(q_t, zX0 q_t_gates (u.1)), (q_t_gates, zI cI 64 (u.2))]) (va_runV (As := [.int 3, .int a3]) (rest := []) ⟨hx, hb, hml, hown, hts⟩ (zkX0_addOn l D cI cJ cC q_t q_t_gates _ 3 a3 u17 u18 hw) (cwV 2 hts (z_gV wm_47 wm_48 wm_49 wm_15 wm_43) rfl rfl rfl (by decide +kernel) ⟨Nat.le_of_ble_eq_true rfl, Nat.le_of_ble_eq_true rfl⟩) (z_pvW hK hP hD [0, 1] rfl (by decide) rfl 0 0 rfl rfl) rfl rfl hl.1 rfl (lv_room (Nat.le_of_ble_eq_true rfl)) dX0_addParts_55 ⟨Nat.zero_le _, Nat.zero_le _⟩) hP hD hS hA [0, 1] [] rfl rfl (by decide) (by decide) (fun u9 H locs hw hP hD hS => ?_)
  obtain ⟨u19, u20⟩ := u9
  have hP : va_P D vwCl [(q_t, zX0 q_t_gates u19), (q_t_gates, zI cI 64 u20)] H := hP
  have hD : va_D A [(q_t, zX0 q_t_gates u19), (q_t_gates, zI cI 64 u20)] := hD
  try dsimp only at hw
  refine lv_aload_n hx hb dX0_addParts_58 rfl (lv_at hl 0 rfl) ?_
  refine lv_iconst (v := 1) hx hb dX0_addParts_59 (by decide) ?_
  refine lv_iload_n hx hb dX0_addParts_60 rfl (lv_at hl 3 rfl) ?_
  refine z_wv (wc := [(q_t, zX0 q_t_gates u19), (q_t_gates, zI cI 64 u20)]) (wr := []) (W1 := fun u : (Int32) × (Nat → Int32) => [(q_t, zX0 q_t_gates (u.1)), (q_t_gates, zI cI 64 (u.2))]) (va_runV (As := [.int 1, .int a3]) (rest := []) ⟨hx, hb, hml, hown, hts⟩ (zkX0_addOn l D cI cJ cC q_t q_t_gates _ 1 a3 u19 u20 hw) (cwV 2 hts (z_gV wm_47 wm_48 wm_49 wm_15 wm_43) rfl rfl rfl (by decide +kernel) ⟨Nat.le_of_ble_eq_true rfl, Nat.le_of_ble_eq_true rfl⟩) (z_pvW hK hP hD [0, 1] rfl (by decide) rfl 0 0 rfl rfl) rfl rfl hl.1 rfl (lv_room (Nat.le_of_ble_eq_true rfl)) dX0_addParts_61 ⟨Nat.zero_le _, Nat.zero_le _⟩) hP hD hS hA [0, 1] [] rfl rfl (by decide) (by decide) (fun u9 H locs hw hP hD hS => ?_)
  obtain ⟨u21, u22⟩ := u9
  have hP : va_P D vwCl [(q_t, zX0 q_t_gates u21), (q_t_gates, zI cI 64 u22)] H := hP
  have hD : va_D A [(q_t, zX0 q_t_gates u21), (q_t_gates, zI cI 64 u22)] := hD
  try dsimp only at hw
  refine lv_aload_n hx hb dX0_addParts_64 rfl (lv_at hl 0 rfl) ?_
  refine lv_iload_n hx hb dX0_addParts_65 rfl (lv_at hl 1 rfl) ?_
  refine lv_iload_n hx hb dX0_addParts_66 rfl (lv_at hl 2 rfl) ?_
  refine z_wv (wc := [(q_t, zX0 q_t_gates u21), (q_t_gates, zI cI 64 u22)]) (wr := []) (W1 := fun u : (Int32) × (Nat → Int32) => [(q_t, zX0 q_t_gates (u.1)), (q_t_gates, zI cI 64 (u.2))]) (va_runV (As := [.int a1, .int a2]) (rest := []) ⟨hx, hb, hml, hown, hts⟩ (zkX0_addControlled l D cI cJ cC q_t q_t_gates _ a1 a2 u21 u22 hw) (cwV 2 hts (z_gV wm_58 wm_59 wm_60 wm_15 wm_57) rfl rfl rfl (by decide +kernel) ⟨Nat.le_of_ble_eq_true rfl, Nat.le_of_ble_eq_true rfl⟩) (z_pvW hK hP hD [0, 1] rfl (by decide) rfl 0 0 rfl rfl) rfl rfl hl.1 rfl (lv_room (Nat.le_of_ble_eq_true rfl)) dX0_addParts_67 ⟨Nat.zero_le _, Nat.zero_le _⟩) hP hD hS hA [0, 1] [] rfl rfl (by decide) (by decide) (fun u9 H locs hw hP hD hS => ?_)
  obtain ⟨u23, u24⟩ := u9
  have hP : va_P D vwCl [(q_t, zX0 q_t_gates u23), (q_t_gates, zI cI 64 u24)] H := hP
  have hD : va_D A [(q_t, zX0 q_t_gates u23), (q_t_gates, zI cI 64 u24)] := hD
  try dsimp only at hw
  refine lv_aload_n hx hb dX0_addParts_70 rfl (lv_at hl 0 rfl) ?_
  refine lv_iconst (v := 3) hx hb dX0_addParts_71 (by decide) ?_
  refine lv_iload_n hx hb dX0_addParts_72 rfl (lv_at hl 1 rfl) ?_
  refine z_wv (wc := [(q_t, zX0 q_t_gates u23), (q_t_gates, zI cI 64 u24)]) (wr := []) (W1 := fun u : (Int32) × (Nat → Int32) => [(q_t, zX0 q_t_gates (u.1)), (q_t_gates, zI cI 64 (u.2))]) (va_runV (As := [.int 3, .int a1]) (rest := []) ⟨hx, hb, hml, hown, hts⟩ (zkX0_addOn l D cI cJ cC q_t q_t_gates _ 3 a1 u23 u24 hw) (cwV 2 hts (z_gV wm_47 wm_48 wm_49 wm_15 wm_43) rfl rfl rfl (by decide +kernel) ⟨Nat.le_of_ble_eq_true rfl, Nat.le_of_ble_eq_true rfl⟩) (z_pvW hK hP hD [0, 1] rfl (by decide) rfl 0 0 rfl rfl) rfl rfl hl.1 rfl (lv_room (Nat.le_of_ble_eq_true rfl)) dX0_addParts_73 ⟨Nat.zero_le _, Nat.zero_le _⟩) hP hD hS hA [0, 1] [] rfl rfl (by decide) (by decide) (fun u9 H locs hw hP hD hS => ?_)
  obtain ⟨u25, u26⟩ := u9
  have hP : va_P D vwCl [(q_t, zX0 q_t_gates u25), (q_t_gates, zI cI 64 u26)] H := hP
  have hD : va_D A [(q_t, zX0 q_t_gates u25), (q_t_gates, zI cI 64 u26)] := hD
  try dsimp only at hw
  refine lv_aload_n hx hb dX0_addParts_76 rfl (lv_at hl 0 rfl) ?_
  refine lv_iload_n hx hb dX0_addParts_77 rfl (lv_at hl 2 rfl) ?_
  refine z_wv (wc := [(q_t, zX0 q_t_gates u25), (q_t_gates, zI cI 64 u26)]) (wr := []) (W1 := fun u : (Int32) × (Nat → Int32) => [(q_t, zX0 q_t_gates (u.1)), (q_t_gates, zI cI 64 (u.2))]) (va_runV (As := [.int a2]) (rest := []) ⟨hx, hb, hml, hown, hts⟩ (zkX0_addBackTurn l D cI cJ cC q_t q_t_gates _ a2 u25 u26 hw) (cwV 1 hts (z_gV wm_50 wm_51 wm_52 wm_15 wm_46) rfl rfl rfl (by decide +kernel) ⟨Nat.le_of_ble_eq_true rfl, Nat.le_of_ble_eq_true rfl⟩) (z_pvW hK hP hD [0, 1] rfl (by decide) rfl 0 0 rfl rfl) rfl rfl hl.1 rfl (lv_room (Nat.le_of_ble_eq_true rfl)) dX0_addParts_78 ⟨Nat.zero_le _, Nat.zero_le _⟩) hP hD hS hA [0, 1] [] rfl rfl (by decide) (by decide) (fun u9 H locs hw hP hD hS => ?_)
  obtain ⟨u27, u28⟩ := u9
  have hP : va_P D vwCl [(q_t, zX0 q_t_gates u27), (q_t_gates, zI cI 64 u28)] H := hP
  have hD : va_D A [(q_t, zX0 q_t_gates u27), (q_t_gates, zI cI 64 u28)] := hD
  try dsimp only at hw
  refine lv_aload_n hx hb dX0_addParts_81 rfl (lv_at hl 0 rfl) ?_
  refine lv_iload_n hx hb dX0_addParts_82 rfl (lv_at hl 1 rfl) ?_
  refine lv_iload_n hx hb dX0_addParts_83 rfl (lv_at hl 2 rfl) ?_
  refine z_wv (wc := [(q_t, zX0 q_t_gates u27), (q_t_gates, zI cI 64 u28)]) (wr := []) (W1 := fun u : (Int32) × (Nat → Int32) => [(q_t, zX0 q_t_gates (u.1)), (q_t_gates, zI cI 64 (u.2))]) (va_runV (As := [.int a1, .int a2]) (rest := []) ⟨hx, hb, hml, hown, hts⟩ (zkX0_addControlled l D cI cJ cC q_t q_t_gates _ a1 a2 u27 u28 hw) (cwV 2 hts (z_gV wm_58 wm_59 wm_60 wm_15 wm_57) rfl rfl rfl (by decide +kernel) ⟨Nat.le_of_ble_eq_true rfl, Nat.le_of_ble_eq_true rfl⟩) (z_pvW hK hP hD [0, 1] rfl (by decide) rfl 0 0 rfl rfl) rfl rfl hl.1 rfl (lv_room (Nat.le_of_ble_eq_true rfl)) dX0_addParts_84 ⟨Nat.zero_le _, Nat.zero_le _⟩) hP hD hS hA [0, 1] [] rfl rfl (by decide) (by decide) (fun u9 H locs hw hP hD hS => ?_)
  obtain ⟨u29, u30⟩ := u9
  have hP : va_P D vwCl [(q_t, zX0 q_t_gates u29), (q_t_gates, zI cI 64 u30)] H := hP
  have hD : va_D A [(q_t, zX0 q_t_gates u29), (q_t_gates, zI cI 64 u30)] := hD
  try dsimp only at hw
  exact W.vret hx hb hr (fun t ht hW => ⟨⟨(u29, u30), rfl, hw, ⟨by rw [ht]; exact hP, hD⟩⟩, hS.F ht⟩) hS.2.2 dX0_addParts_87

def wpX0_addExpanded_2b (Q : (Int32) → (Nat → Int32) → Prop)  (R_2 : (Int32) → (Int32) → (Nat → Int32) → Prop) (v_a1_count : Int32) (f_a1_gates : Nat → Int32) (x2 : Int32) (v_t_count : Int32) (f_t_gates : Nat → Int32) : Prop := ((v_a1_count ≤ x2 → Q v_t_count f_t_gates) ∧ (¬ v_a1_count ≤ x2 → wpX0_at (fun r2 : Int32 => (((zvX2_kind r2) = 9 → wpX0_addParts (fun (u6 : Int32) (u7 : Nat → Int32) => R_2 (x2 + 1) u6 u7) (zvX2_a r2) (zvX2_b r2) (zvX2_c r2) v_t_count f_t_gates) ∧ (¬ (zvX2_kind r2) = 9 → wpX0_add (fun (u4 : Int32) (u5 : Nat → Int32) => R_2 (x2 + 1) u4 u5) r2 v_t_count f_t_gates))) x2 v_a1_count f_a1_gates))
def wpX0_addExpanded_2 (Q : (Int32) → (Nat → Int32) → Prop)  (v_a1_count : Int32) (f_a1_gates : Nat → Int32) : Nat → (Int32) → (Int32) → (Nat → Int32) → Prop
  | 0 => fun _ _ _ => False
  | n + 1 => fun x2 v_t_count f_t_gates => wpX0_addExpanded_2b Q  (wpX0_addExpanded_2 Q  v_a1_count f_a1_gates n) v_a1_count f_a1_gates x2 v_t_count f_t_gates
def wpX0_addExpanded (Q : (Int32) → (Nat → Int32) → Prop)  (v_a1_count : Int32) (f_a1_gates : Nat → Int32) (v_t_count : Int32) (f_t_gates : Nat → Int32) : Prop := ∃ n : Nat, wpX0_addExpanded_2 Q  v_a1_count f_a1_gates n 0 v_t_count f_t_gates
abbrev zrX0_addExpanded : Room := { frames := 5, cells := 0, slots := 0, locals := 110 }
set_option maxHeartbeats 4000000 in
set_option maxRecDepth 100000 in
theorem zkX0_addExpanded (l : Launch) (D : va_G) (cI cJ cC : ClassId) (q_t q_a1 q_t_gates q_a1_gates : Nat) (sz : Nat)  (v_t_count : Int32) (v_a1_count : Int32) (f_t_gates : Nat → Int32) (f_a1_gates : Nat → Int32) {Q : (Int32) → (Nat → Int32) → Prop} (hw : wpX0_addExpanded Q v_a1_count f_a1_gates v_t_count f_t_gates) : Met l yX0_addExpanded wmX0_addExpanded zrX0_addExpanded (zPreW D (zT cI cJ cC) [(q_t, zX0 q_t_gates v_t_count), (q_a1, zX0 q_a1_gates v_a1_count), (q_t_gates, zI cI 64 f_t_gates), (q_a1_gates, zI cI 64 f_a1_gates)] sz [.ref q_t, .ref q_a1]) (va_Qv (fun u : (Int32) × (Nat → Int32) => Q (u.1) (u.2)) (fun u t => zAt D (va_A [(q_t, zX0 q_t_gates v_t_count), (q_a1, zX0 q_a1_gates v_a1_count), (q_t_gates, zI cI 64 f_t_gates), (q_a1_gates, zI cI 64 f_a1_gates)] sz) [(q_t, zX0 q_t_gates (u.1)), (q_a1, zX0 q_a1_gates v_a1_count), (q_t_gates, zI cI 64 (u.2)), (q_a1_gates, zI cI 64 f_a1_gates)] t) (va_A [(q_t, zX0 q_t_gates v_t_count), (q_a1, zX0 q_a1_gates v_a1_count), (q_t_gates, zI cI 64 f_t_gates), (q_a1_gates, zI cI 64 f_a1_gates)] sz)) 0 0 (va_A [(q_t, zX0 q_t_gates v_t_count), (q_a1, zX0 q_a1_gates v_a1_count), (q_t_gates, zI cI 64 f_t_gates), (q_a1_gates, zI cI 64 f_a1_gates)] sz) := by
  refine Met.ofW (cc := cX0_addExpanded) (maxL := 4) (ret := none) (by decide) rfl ?_
  intro p e s m args below meth c s₁ B hml hv
  obtain ⟨rfl, hsz, hP, hK, hD0⟩ := hv
  have hx := B.exec
  have hb := B.bytes
  have hr := B.returns
  have hts := atoms_spec (ws := wmX0_addExpanded) B.pre
  have hown : s.vm.findClass RX0 = some m.cls := findClass_of_methodNamed B.named
  have hlocks := B.notSynchronized
  subst hsz
  have hD := hD0.self (sz := s.heap.size)
  generalize hAe : va_A [(q_t, zX0 q_t_gates v_t_count), (q_a1, zX0 q_a1_gates v_a1_count), (q_t_gates, zI cI 64 f_t_gates), (q_a1_gates, zI cI 64 f_a1_gates)] s.heap.size = A at hD ⊢
  have hA : ∀ q : Nat, s.heap.size ≤ q → A q := fun q h => by rw [← hAe]; exact Or.inr h
  have hS : va_S A s.heap s.heap [] := va_S.rf
  have hP : va_P D vwCl [(q_t, zX0 q_t_gates v_t_count), (q_a1, zX0 q_a1_gates v_a1_count), (q_t_gates, zI cI 64 f_t_gates), (q_a1_gates, zI cI 64 f_a1_gates)] s.heap := hP
  have hw_1 := hts _ (z_in wm_6)
  have hw_2 : ∀ w ∈ u_ws RX0 TX0 2, w ∈ wmX0_addExpanded := fun w h => z_in (wi_wsX00 w h)
  have hl := lv_entry ([.ref q_t, .ref q_a1]) (n := 4) (Nat.le_of_ble_eq_true rfl)
  rw [lg_entry_eq]
  generalize (lg_sl ([.ref q_t, .ref q_a1]) ++ List.replicate (4 - (lg_sl ([.ref q_t, .ref q_a1])).length) Slot.unset).toArray = ls at hl ⊢
  have hl : lv_has ls 4 [(0, .ref q_t), (1, .ref q_a1)] := hl
  have L_2 : ∀ (n : Nat), ∀ (x2 : Int32) (v_t_count : Int32) (f_t_gates : Nat → Int32) (H : Heap) (locs : List Loc) (ls : Array Slot), va_P D vwCl [(q_t, zX0 q_t_gates v_t_count), (q_a1, zX0 q_a1_gates v_a1_count), (q_t_gates, zI cI 64 f_t_gates), (q_a1_gates, zI cI 64 f_a1_gates)] H → va_D A [(q_t, zX0 q_t_gates v_t_count), (q_a1, zX0 q_a1_gates v_a1_count), (q_t_gates, zI cI 64 f_t_gates), (q_a1_gates, zI cI 64 f_a1_gates)] → va_S A s.heap H locs → lv_has ls 4 [(0, .ref q_t), (1, .ref q_a1), (2, .int x2)] → wpX0_addExpanded_2 Q  v_a1_count f_a1_gates n x2 v_t_count f_t_gates → W p l e (headSpec wmX0_addExpanded zrX0_addExpanded).room s m ([.ref q_t, .ref q_a1] : List Value).toArray below meth c H locs 0 0 (MQ below (va_Qv (fun u : (Int32) × (Nat → Int32) => Q (u.1) (u.2)) (fun u t => zAt D A [(q_t, zX0 q_t_gates (u.1)), (q_a1, zX0 q_a1_gates v_a1_count), (q_t_gates, zI cI 64 (u.2)), (q_a1_gates, zI cI 64 f_a1_gates)] t) A) ([.ref q_t, .ref q_a1] : List Value).toArray s 0 0 A) (F0 m 2 ls []) := by
    intro n
    induction n with
    | zero => intro x2 v_t_count f_t_gates H locs ls hP hD hS hl hw; exact False.elim hw
    | succ n_2 ih_2 =>
      intro x2 v_t_count f_t_gates H locs ls hP hD hS hl hw
      have hw : wpX0_addExpanded_2b Q  (wpX0_addExpanded_2 Q  v_a1_count f_a1_gates n_2) v_a1_count f_a1_gates x2 v_t_count f_t_gates := hw
      refine lv_iload_n hx hb dX0_addExpanded_2 rfl (lv_at hl 2 rfl) ?_
      refine lv_aload_n hx hb dX0_addExpanded_3 rfl (lv_at hl 1 rfl) ?_
      refine va_get (D := D) (ci := 0) (v := .int v_a1_count) (C := RX0) (T := TX0) (N := 2) hx hb hts hw_2 hown hK hP 1 rfl rfl 1 (by decide) hw_1 (fun _ h9 => h9) rfl dX0_addExpanded_4 ?_
      refine lv_icmp_ge (tgt := 55) hx hb dX0_addExpanded_7 (by decide) (fun c1 => ?_) (fun c1 => ?_)
      · have hw := hw.1 c1
        exact W.vret hx hb hr (fun t ht hW => ⟨⟨(v_t_count, f_t_gates), rfl, hw, ⟨by rw [ht]; exact hP, hD⟩⟩, hS.F ht⟩) hS.2.2 dX0_addExpanded_55
      · have hw := hw.2 c1
        refine lv_aload_n hx hb dX0_addExpanded_10 rfl (lv_at hl 1 rfl) ?_
        refine lv_iload_n hx hb dX0_addExpanded_11 rfl (lv_at hl 2 rfl) ?_
        refine z_ri (va_runV (As := [.int x2]) (rest := []) ⟨hx, hb, hml, hown, hts⟩ (zkX0_at l D cI cJ cC q_a1 q_a1_gates x2 v_a1_count f_a1_gates hw) (cwV 1 hts (z_gV wm_12 wm_13 wm_14 wm_15 wm_8) rfl rfl rfl (by decide +kernel) ⟨Nat.le_of_ble_eq_true rfl, Nat.le_of_ble_eq_true rfl⟩) (z_pvR hK hP [1, 3] rfl 1 0 rfl rfl) rfl rfl hl.1 rfl (lv_room (Nat.le_of_ble_eq_true rfl)) dX0_addExpanded_12 ⟨Nat.zero_le _, Nat.zero_le _⟩) (fun r2 hw => ?_)
        refine lv_istore_n (lv' := [(3, .int r2), (0, .ref q_t), (1, .ref q_a1), (2, .int x2)]) hx hb dX0_addExpanded_15 rfl hl (by decide) rfl (fun ls hl => ?_)
        refine lv_iload_n hx hb dX0_addExpanded_16 rfl (lv_at hl 0 rfl) ?_
        refine z_vi (va_runS (As := [.int r2]) (rest := []) ⟨hx, hb, hml, hown, hts⟩ (zkX2_kind l   r2 ) (va_cwS 1 hts (z_gS wm_28 wm_29 wm_30 wm_26) rfl rfl rfl (by decide +kernel) ⟨Nat.le_of_ble_eq_true rfl, Nat.le_of_ble_eq_true rfl⟩) z_psS rfl rfl hl.1 rfl (lv_room (Nat.le_of_ble_eq_true rfl)) dX0_addExpanded_17 ⟨Nat.zero_le _, Nat.zero_le _⟩) ?_
        refine lv_bipush (v := 9) hx hb dX0_addExpanded_20 (by decide) ?_
        refine lv_icmp_ne (tgt := 44) hx hb dX0_addExpanded_22 (by decide) (fun c3 => ?_) (fun c3 => ?_)
        · have hw := hw.2 c3
          refine lv_aload_n hx hb dX0_addExpanded_44 rfl (lv_at hl 1 rfl) ?_
          refine lv_iload_n hx hb dX0_addExpanded_45 rfl (lv_at hl 0 rfl) ?_
          refine z_wv (wc := [(q_t, zX0 q_t_gates v_t_count), (q_t_gates, zI cI 64 f_t_gates)]) (wr := [(q_a1, zX0 q_a1_gates v_a1_count), (q_a1_gates, zI cI 64 f_a1_gates)]) (W1 := fun u : (Int32) × (Nat → Int32) => [(q_t, zX0 q_t_gates (u.1)), (q_t_gates, zI cI 64 (u.2))]) (va_runV (As := [.int r2]) (rest := []) ⟨hx, hb, hml, hown, hts⟩ (zkX0_add l D cI cJ cC q_t q_t_gates _ r2 v_t_count f_t_gates hw) (cwV 1 hts (z_gV wm_16 wm_17 wm_18 wm_15 wm_10) rfl rfl rfl (by decide +kernel) ⟨Nat.le_of_ble_eq_true rfl, Nat.le_of_ble_eq_true rfl⟩) (z_pvW hK hP hD [0, 2] rfl (by decide) rfl 0 0 rfl rfl) rfl rfl hl.1 rfl (lv_room (Nat.le_of_ble_eq_true rfl)) dX0_addExpanded_46 ⟨Nat.zero_le _, Nat.zero_le _⟩) hP hD hS hA [0, 2] [1, 3] rfl rfl (by decide) (by decide) (fun u9 H locs hw hP hD hS => ?_)
          obtain ⟨u4, u5⟩ := u9
          have hP : va_P D vwCl [(q_a1, zX0 q_a1_gates v_a1_count), (q_a1_gates, zI cI 64 f_a1_gates), (q_t, zX0 q_t_gates u4), (q_t_gates, zI cI 64 u5)] H := hP
          have hD : va_D A [(q_a1, zX0 q_a1_gates v_a1_count), (q_a1_gates, zI cI 64 f_a1_gates), (q_t, zX0 q_t_gates u4), (q_t_gates, zI cI 64 u5)] := hD
          try dsimp only at hw
          refine lv_iinc (v := (x2 + 1)) (lv' := [(2, .int (x2 + 1)), (3, .int r2), (0, .ref q_t), (1, .ref q_a1)]) hx hb dX0_addExpanded_49 hl (k := 3) rfl rfl (by decide) rfl (fun ls hl => ?_)
          refine lv_goto (tgt := 2) hx hb dX0_addExpanded_52 (by decide) ?_
          exact ih_2 (x2 + 1) u4 u5 _ _ _ (hP.sub [2, 0, 3, 1] rfl) (hD.sub [2, 0, 3, 1] (by decide) rfl) hS (lv_sub hl [2, 3, 0] rfl) hw
        · have hw := hw.1 c3
          refine lv_aload_n hx hb dX0_addExpanded_25 rfl (lv_at hl 1 rfl) ?_
          refine lv_iload_n hx hb dX0_addExpanded_26 rfl (lv_at hl 0 rfl) ?_
          refine z_vi (va_runS (As := [.int r2]) (rest := [.ref q_t]) ⟨hx, hb, hml, hown, hts⟩ (zkX2_a l   r2 ) (va_cwS 1 hts (z_gS wm_33 wm_34 wm_30 wm_31) rfl rfl rfl (by decide +kernel) ⟨Nat.le_of_ble_eq_true rfl, Nat.le_of_ble_eq_true rfl⟩) z_psS rfl rfl hl.1 rfl (lv_room (Nat.le_of_ble_eq_true rfl)) dX0_addExpanded_27 ⟨Nat.zero_le _, Nat.zero_le _⟩) ?_
          refine lv_iload_n hx hb dX0_addExpanded_30 rfl (lv_at hl 0 rfl) ?_
          refine z_vi (va_runS (As := [.int r2]) (rest := [.int (zvX2_a r2), .ref q_t]) ⟨hx, hb, hml, hown, hts⟩ (zkX2_b l   r2 ) (va_cwS 1 hts (z_gS wm_62 wm_63 wm_30 wm_55) rfl rfl rfl (by decide +kernel) ⟨Nat.le_of_ble_eq_true rfl, Nat.le_of_ble_eq_true rfl⟩) z_psS rfl rfl hl.1 rfl (lv_room (Nat.le_of_ble_eq_true rfl)) dX0_addExpanded_31 ⟨Nat.zero_le _, Nat.zero_le _⟩) ?_
          refine lv_iload_n hx hb dX0_addExpanded_34 rfl (lv_at hl 0 rfl) ?_
          refine z_vi (va_runS (As := [.int r2]) (rest := [.int (zvX2_b r2), .int (zvX2_a r2), .ref q_t]) ⟨hx, hb, hml, hown, hts⟩ (zkX2_c l   r2 ) (va_cwS 1 hts (z_gS wm_64 wm_65 wm_30 wm_56) rfl rfl rfl (by decide +kernel) ⟨Nat.le_of_ble_eq_true rfl, Nat.le_of_ble_eq_true rfl⟩) z_psS rfl rfl hl.1 rfl (lv_room (Nat.le_of_ble_eq_true rfl)) dX0_addExpanded_35 ⟨Nat.zero_le _, Nat.zero_le _⟩) ?_
          refine z_wv (wc := [(q_t, zX0 q_t_gates v_t_count), (q_t_gates, zI cI 64 f_t_gates)]) (wr := [(q_a1, zX0 q_a1_gates v_a1_count), (q_a1_gates, zI cI 64 f_a1_gates)]) (W1 := fun u : (Int32) × (Nat → Int32) => [(q_t, zX0 q_t_gates (u.1)), (q_t_gates, zI cI 64 (u.2))]) (va_runV (As := [.int (zvX2_a r2), .int (zvX2_b r2), .int (zvX2_c r2)]) (rest := []) ⟨hx, hb, hml, hown, hts⟩ (zkX0_addParts l D cI cJ cC q_t q_t_gates _ (zvX2_a r2) (zvX2_b r2) (zvX2_c r2) v_t_count f_t_gates hw) (cwV 3 hts (z_gV wm_66 wm_67 wm_68 wm_15 wm_61) rfl rfl rfl (by decide +kernel) ⟨Nat.le_of_ble_eq_true rfl, Nat.le_of_ble_eq_true rfl⟩) (z_pvW hK hP hD [0, 2] rfl (by decide) rfl 0 0 rfl rfl) rfl rfl hl.1 rfl (lv_room (Nat.le_of_ble_eq_true rfl)) dX0_addExpanded_38 ⟨Nat.zero_le _, Nat.zero_le _⟩) hP hD hS hA [0, 2] [1, 3] rfl rfl (by decide) (by decide) (fun u9 H locs hw hP hD hS => ?_)
          obtain ⟨u6, u7⟩ := u9
          have hP : va_P D vwCl [(q_a1, zX0 q_a1_gates v_a1_count), (q_a1_gates, zI cI 64 f_a1_gates), (q_t, zX0 q_t_gates u6), (q_t_gates, zI cI 64 u7)] H := hP
          have hD : va_D A [(q_a1, zX0 q_a1_gates v_a1_count), (q_a1_gates, zI cI 64 f_a1_gates), (q_t, zX0 q_t_gates u6), (q_t_gates, zI cI 64 u7)] := hD
          try dsimp only at hw
          refine lv_goto (tgt := 49) hx hb dX0_addExpanded_41 (by decide) ?_
          refine lv_iinc (v := (x2 + 1)) (lv' := [(2, .int (x2 + 1)), (3, .int r2), (0, .ref q_t), (1, .ref q_a1)]) hx hb dX0_addExpanded_49 hl (k := 3) rfl rfl (by decide) rfl (fun ls hl => ?_)
          refine lv_goto (tgt := 2) hx hb dX0_addExpanded_52 (by decide) ?_
          exact ih_2 (x2 + 1) u6 u7 _ _ _ (hP.sub [2, 0, 3, 1] rfl) (hD.sub [2, 0, 3, 1] (by decide) rfl) hS (lv_sub hl [2, 3, 0] rfl) hw
  refine lv_iconst (v := 0) hx hb dX0_addExpanded_0 (by decide) ?_
  refine lv_istore_n (lv' := [(2, .int 0), (0, .ref q_t), (1, .ref q_a1)]) hx hb dX0_addExpanded_1 rfl hl (by decide) rfl (fun ls hl => ?_)
  obtain ⟨n_2, hw⟩ := hw
  exact L_2 n_2 0 v_t_count f_t_gates _ _ _ hP hD hS (lv_sub hl [1, 2, 0] rfl) hw

def wpX0_partnerOf_4b (Q : Int32 → Prop)  (R_4 : (Int32) → (Int32) → Prop) (v_t_count : Int32) (f_t_gates : Nat → Int32) (x1 : Int32) (x2 : Int32) : Prop := ((v_t_count ≤ x2 → Q (-1)) ∧ (¬ v_t_count ≤ x2 → vp_in x1 64 ∧ vp_in x2 64 ∧ (((zvX2_meet (f_t_gates x1.toNatClampNeg) (f_t_gates x2.toNatClampNeg)) = 0 → vp_in x1 64 ∧ vp_in x2 64 ∧ (((zvX2_pass (f_t_gates x1.toNatClampNeg) (f_t_gates x2.toNatClampNeg)) = 0 → Q (-1)) ∧ (¬ (zvX2_pass (f_t_gates x1.toNatClampNeg) (f_t_gates x2.toNatClampNeg)) = 0 → R_4 x1 (x2 + 1)))) ∧ (¬ (zvX2_meet (f_t_gates x1.toNatClampNeg) (f_t_gates x2.toNatClampNeg)) = 0 → Q x2))))
def wpX0_partnerOf_4 (Q : Int32 → Prop)  (v_t_count : Int32) (f_t_gates : Nat → Int32) : Nat → (Int32) → (Int32) → Prop
  | 0 => fun _ _ => False
  | n + 1 => fun x1 x2 => wpX0_partnerOf_4b Q  (wpX0_partnerOf_4 Q  v_t_count f_t_gates n) v_t_count f_t_gates x1 x2
def wpX0_partnerOf (Q : Int32 → Prop) (a1 : Int32) (v_t_count : Int32) (f_t_gates : Nat → Int32)  : Prop := ∃ n : Nat, wpX0_partnerOf_4 Q  v_t_count f_t_gates n a1 (a1 + 1)
abbrev zrX0_partnerOf : Room := { frames := 4, cells := 0, slots := 0, locals := 84 }
set_option maxHeartbeats 4000000 in
set_option maxRecDepth 100000 in
theorem zkX0_partnerOf (l : Launch) (D : va_G) (cI cJ cC : ClassId) (q_t q_t_gates : Nat) (a1 : Int32) (v_t_count : Int32) (f_t_gates : Nat → Int32) {Q : Int32 → Prop} (hw : wpX0_partnerOf Q a1 v_t_count f_t_gates) : Met l yX0_partnerOf wmX0_partnerOf zrX0_partnerOf (zPreR D (zT cI cJ cC) [(q_t, zX0 q_t_gates v_t_count), (q_t_gates, zI cI 64 f_t_gates)] [.ref q_t, .int a1]) (vp_Si (fun r => Q r)) 0 0 (fun _ => False) := by
  refine Met.ofW (cc := cX0_partnerOf) (maxL := 3) (ret := (some .int)) (by decide) rfl ?_
  intro p e s m args below meth c s₁ B hml hv
  obtain ⟨rfl, hP, hK⟩ := hv
  have hx := B.exec
  have hb := B.bytes
  have hr := B.returns
  have hts := atoms_spec (ws := wmX0_partnerOf) B.pre
  have hown : s.vm.findClass RX0 = some m.cls := findClass_of_methodNamed B.named
  have hlocks := B.notSynchronized
  have hw_1 := hts _ (z_in wm_6)
  have hw_2 : ∀ w ∈ u_ws RX0 TX0 2, w ∈ wmX0_partnerOf := fun w h => z_in (wi_wsX00 w h)
  have hw_3 := hts _ (z_in wm_5)
  have hl := lv_entry ([.ref q_t, .int a1]) (n := 3) (Nat.le_of_ble_eq_true rfl)
  rw [lg_entry_eq]
  generalize (lg_sl ([.ref q_t, .int a1]) ++ List.replicate (3 - (lg_sl ([.ref q_t, .int a1])).length) Slot.unset).toArray = ls at hl ⊢
  have hl : lv_has ls 3 [(0, .ref q_t), (1, .int a1)] := hl
  have L_4 : ∀ (n : Nat), ∀ (x1 : Int32) (x2 : Int32) (ls : Array Slot), lv_has ls 3 [(0, .ref q_t), (1, .int x1), (2, .int x2)] → wpX0_partnerOf_4 Q  v_t_count f_t_gates n x1 x2 → W p l e (headSpec wmX0_partnerOf zrX0_partnerOf).room s m ([.ref q_t, .int a1] : List Value).toArray below meth c s.heap [] 0 0 (MQ below (vp_Si (fun r => Q r)) ([.ref q_t, .int a1] : List Value).toArray s 0 0 (fun _ => False)) (F0 m 4 ls []) := by
    intro n
    induction n with
    | zero => intro x1 x2 ls hl hw; exact False.elim hw
    | succ n_4 ih_4 =>
      intro x1 x2 ls hl hw
      have hw : wpX0_partnerOf_4b Q  (wpX0_partnerOf_4 Q  v_t_count f_t_gates n_4) v_t_count f_t_gates x1 x2 := hw
      refine lv_iload_n hx hb dX0_partnerOf_4 rfl (lv_at hl 2 rfl) ?_
      refine lv_aload_n hx hb dX0_partnerOf_5 rfl (lv_at hl 0 rfl) ?_
      refine va_get (D := D) (ci := 0) (v := .int v_t_count) (C := RX0) (T := TX0) (N := 2) hx hb hts hw_2 hown hK hP 0 rfl rfl 1 (by decide) hw_1 (fun _ h9 => h9) rfl dX0_partnerOf_6 ?_
      refine lv_icmp_ge (tgt := 58) hx hb dX0_partnerOf_9 (by decide) (fun c1 => ?_) (fun c1 => ?_)
      · have hw := hw.1 c1
        refine lv_iconst (v := -1) hx hb dX0_partnerOf_58 (by decide) ?_
        exact W.iret (v := (-1)) hx hb hr (fun t ht hW => ⟨_, rfl, hw, ht⟩) (fun _ h => by cases h) dX0_partnerOf_59
      · have hw := hw.2 c1
        refine lv_aload_n hx hb dX0_partnerOf_12 rfl (lv_at hl 0 rfl) ?_
        refine va_get (D := D) (ci := 0) (v := .ref q_t_gates) (C := RX0) (T := TX0) (N := 2) hx hb hts hw_2 hown hK hP 0 rfl rfl 0 (by decide) hw_3 (fun _ h9 => h9) rfl dX0_partnerOf_13 ?_
        refine lv_iload_n hx hb dX0_partnerOf_16 rfl (lv_at hl 1 rfl) ?_
        obtain ⟨h2, hw⟩ := hw
        refine va_iald hx hb hK hP 1 0 rfl rfl h2 dX0_partnerOf_17 ?_
        refine lv_aload_n hx hb dX0_partnerOf_18 rfl (lv_at hl 0 rfl) ?_
        refine va_get (D := D) (ci := 0) (v := .ref q_t_gates) (C := RX0) (T := TX0) (N := 2) hx hb hts hw_2 hown hK hP 0 rfl rfl 0 (by decide) hw_3 (fun _ h9 => h9) rfl dX0_partnerOf_19 ?_
        refine lv_iload_n hx hb dX0_partnerOf_22 rfl (lv_at hl 2 rfl) ?_
        obtain ⟨h3, hw⟩ := hw
        refine va_iald hx hb hK hP 1 0 rfl rfl h3 dX0_partnerOf_23 ?_
        refine z_vi (va_runS (As := [.int (f_t_gates x1.toNatClampNeg), .int (f_t_gates x2.toNatClampNeg)]) (rest := []) ⟨hx, hb, hml, hown, hts⟩ (zkX2_meet l   (f_t_gates x1.toNatClampNeg) (f_t_gates x2.toNatClampNeg) ) (va_cwS 2 hts (z_gS wm_94 wm_95 wm_30 wm_75) rfl rfl rfl (by decide +kernel) ⟨Nat.le_of_ble_eq_true rfl, Nat.le_of_ble_eq_true rfl⟩) z_psS rfl rfl hl.1 rfl (lv_room (Nat.le_of_ble_eq_true rfl)) dX0_partnerOf_24 ⟨Nat.zero_le _, Nat.zero_le _⟩) ?_
        refine lv_if_eq (tgt := 32) hx hb dX0_partnerOf_27 (by decide) (fun c4 => ?_) (fun c4 => ?_)
        · have hw := hw.1 c4
          refine lv_aload_n hx hb dX0_partnerOf_32 rfl (lv_at hl 0 rfl) ?_
          refine va_get (D := D) (ci := 0) (v := .ref q_t_gates) (C := RX0) (T := TX0) (N := 2) hx hb hts hw_2 hown hK hP 0 rfl rfl 0 (by decide) hw_3 (fun _ h9 => h9) rfl dX0_partnerOf_33 ?_
          refine lv_iload_n hx hb dX0_partnerOf_36 rfl (lv_at hl 1 rfl) ?_
          obtain ⟨h5, hw⟩ := hw
          refine va_iald hx hb hK hP 1 0 rfl rfl h5 dX0_partnerOf_37 ?_
          refine lv_aload_n hx hb dX0_partnerOf_38 rfl (lv_at hl 0 rfl) ?_
          refine va_get (D := D) (ci := 0) (v := .ref q_t_gates) (C := RX0) (T := TX0) (N := 2) hx hb hts hw_2 hown hK hP 0 rfl rfl 0 (by decide) hw_3 (fun _ h9 => h9) rfl dX0_partnerOf_39 ?_
          refine lv_iload_n hx hb dX0_partnerOf_42 rfl (lv_at hl 2 rfl) ?_
          obtain ⟨h6, hw⟩ := hw
          refine va_iald hx hb hK hP 1 0 rfl rfl h6 dX0_partnerOf_43 ?_
          refine z_vi (va_runS (As := [.int (f_t_gates x1.toNatClampNeg), .int (f_t_gates x2.toNatClampNeg)]) (rest := []) ⟨hx, hb, hml, hown, hts⟩ (zkX2_pass l   (f_t_gates x1.toNatClampNeg) (f_t_gates x2.toNatClampNeg) ) (va_cwS 2 hts (z_gS wm_96 wm_97 wm_30 wm_93) rfl rfl rfl (by decide +kernel) ⟨Nat.le_of_ble_eq_true rfl, Nat.le_of_ble_eq_true rfl⟩) z_psS rfl rfl hl.1 rfl (lv_room (Nat.le_of_ble_eq_true rfl)) dX0_partnerOf_44 ⟨Nat.zero_le _, Nat.zero_le _⟩) ?_
          refine lv_if_ne (tgt := 52) hx hb dX0_partnerOf_47 (by decide) (fun c7 => ?_) (fun c7 => ?_)
          · have hw := hw.2 c7
            refine lv_iinc (v := (x2 + 1)) (lv' := [(2, .int (x2 + 1)), (0, .ref q_t), (1, .int x1)]) hx hb dX0_partnerOf_52 hl (k := 2) rfl rfl (by decide) rfl (fun ls hl => ?_)
            refine lv_goto (tgt := 4) hx hb dX0_partnerOf_55 (by decide) ?_
            exact ih_4 x1 (x2 + 1) _ (lv_sub hl [1, 2, 0] rfl) hw
          · have hw := hw.1 c7
            refine lv_iconst (v := -1) hx hb dX0_partnerOf_50 (by decide) ?_
            exact W.iret (v := (-1)) hx hb hr (fun t ht hW => ⟨_, rfl, hw, ht⟩) (fun _ h => by cases h) dX0_partnerOf_51
        · have hw := hw.2 c4
          refine lv_iload_n hx hb dX0_partnerOf_30 rfl (lv_at hl 2 rfl) ?_
          exact W.iret (v := x2) hx hb hr (fun t ht hW => ⟨_, rfl, hw, ht⟩) (fun _ h => by cases h) dX0_partnerOf_31
  refine lv_iload_n hx hb dX0_partnerOf_0 rfl (lv_at hl 1 rfl) ?_
  refine lv_iconst (v := 1) hx hb dX0_partnerOf_1 (by decide) ?_
  refine lv_iadd hx hb dX0_partnerOf_2 ?_
  refine lv_istore_n (lv' := [(2, .int (a1 + 1)), (0, .ref q_t), (1, .int a1)]) hx hb dX0_partnerOf_3 rfl hl (by decide) rfl (fun ls hl => ?_)
  obtain ⟨n_4, hw⟩ := hw
  exact L_4 n_4 a1 (a1 + 1) _ (lv_sub hl [1, 2, 0] rfl) hw

def wpX0_removeAt_4b (Q : (Int32) → (Nat → Int32) → Prop)  (R_4 : (Int32) → (Int32) → (Nat → Int32) → Prop)  (x2 : Int32) (v_t_count : Int32) (f_t_gates : Nat → Int32) : Prop := ((v_t_count ≤ x2 → Q (v_t_count - 1) f_t_gates) ∧ (¬ v_t_count ≤ x2 → vp_in x2 64 ∧ vp_in (x2 - 1) 64 ∧ R_4 (x2 + 1) v_t_count (upd f_t_gates (x2 - 1).toNatClampNeg (f_t_gates x2.toNatClampNeg))))
def wpX0_removeAt_4 (Q : (Int32) → (Nat → Int32) → Prop)   : Nat → (Int32) → (Int32) → (Nat → Int32) → Prop
  | 0 => fun _ _ _ => False
  | n + 1 => fun x2 v_t_count f_t_gates => wpX0_removeAt_4b Q  (wpX0_removeAt_4 Q   n)  x2 v_t_count f_t_gates
def wpX0_removeAt (Q : (Int32) → (Nat → Int32) → Prop) (a1 : Int32)  (v_t_count : Int32) (f_t_gates : Nat → Int32) : Prop := ∃ n : Nat, wpX0_removeAt_4 Q   n (a1 + 1) v_t_count f_t_gates
abbrev zrX0_removeAt : Room := { frames := 0, cells := 0, slots := 0, locals := 0 }
set_option maxHeartbeats 4000000 in
set_option maxRecDepth 100000 in
theorem zkX0_removeAt (l : Launch) (D : va_G) (cI cJ cC : ClassId) (q_t q_t_gates : Nat) (sz : Nat) (a1 : Int32) (v_t_count : Int32) (f_t_gates : Nat → Int32) {Q : (Int32) → (Nat → Int32) → Prop} (hw : wpX0_removeAt Q a1 v_t_count f_t_gates) : Met l yX0_removeAt wmX0_removeAt zrX0_removeAt (zPreW D (zT cI cJ cC) [(q_t, zX0 q_t_gates v_t_count), (q_t_gates, zI cI 64 f_t_gates)] sz [.ref q_t, .int a1]) (va_Qv (fun u : (Int32) × (Nat → Int32) => Q (u.1) (u.2)) (fun u t => zAt D (va_A [(q_t, zX0 q_t_gates v_t_count), (q_t_gates, zI cI 64 f_t_gates)] sz) [(q_t, zX0 q_t_gates (u.1)), (q_t_gates, zI cI 64 (u.2))] t) (va_A [(q_t, zX0 q_t_gates v_t_count), (q_t_gates, zI cI 64 f_t_gates)] sz)) 0 0 (va_A [(q_t, zX0 q_t_gates v_t_count), (q_t_gates, zI cI 64 f_t_gates)] sz) := by
  refine Met.ofW (cc := cX0_removeAt) (maxL := 3) (ret := none) (by decide) rfl ?_
  intro p e s m args below meth c s₁ B hml hv
  obtain ⟨rfl, hsz, hP, hK, hD0⟩ := hv
  have hx := B.exec
  have hb := B.bytes
  have hr := B.returns
  have hts := atoms_spec (ws := wmX0_removeAt) B.pre
  have hown : s.vm.findClass RX0 = some m.cls := findClass_of_methodNamed B.named
  have hlocks := B.notSynchronized
  subst hsz
  have hD := hD0.self (sz := s.heap.size)
  generalize hAe : va_A [(q_t, zX0 q_t_gates v_t_count), (q_t_gates, zI cI 64 f_t_gates)] s.heap.size = A at hD ⊢
  have hA : ∀ q : Nat, s.heap.size ≤ q → A q := fun q h => by rw [← hAe]; exact Or.inr h
  have hS : va_S A s.heap s.heap [] := va_S.rf
  have hP : va_P D vwCl [(q_t, zX0 q_t_gates v_t_count), (q_t_gates, zI cI 64 f_t_gates)] s.heap := hP
  have hw_1 := hts _ (z_in wm_6)
  have hw_2 : ∀ w ∈ u_ws RX0 TX0 2, w ∈ wmX0_removeAt := fun w h => z_in (wi_wsX00 w h)
  have hw_3 := hts _ (z_in wm_5)
  have hl := lv_entry ([.ref q_t, .int a1]) (n := 3) (Nat.le_of_ble_eq_true rfl)
  rw [lg_entry_eq]
  generalize (lg_sl ([.ref q_t, .int a1]) ++ List.replicate (3 - (lg_sl ([.ref q_t, .int a1])).length) Slot.unset).toArray = ls at hl ⊢
  have hl : lv_has ls 3 [(0, .ref q_t), (1, .int a1)] := hl
  have L_4 : ∀ (n : Nat), ∀ (x2 : Int32) (v_t_count : Int32) (f_t_gates : Nat → Int32) (H : Heap) (locs : List Loc) (ls : Array Slot), va_P D vwCl [(q_t, zX0 q_t_gates v_t_count), (q_t_gates, zI cI 64 f_t_gates)] H → va_D A [(q_t, zX0 q_t_gates v_t_count), (q_t_gates, zI cI 64 f_t_gates)] → va_S A s.heap H locs → lv_has ls 3 [(0, .ref q_t), (2, .int x2)] → wpX0_removeAt_4 Q   n x2 v_t_count f_t_gates → W p l e (headSpec wmX0_removeAt zrX0_removeAt).room s m ([.ref q_t, .int a1] : List Value).toArray below meth c H locs 0 0 (MQ below (va_Qv (fun u : (Int32) × (Nat → Int32) => Q (u.1) (u.2)) (fun u t => zAt D A [(q_t, zX0 q_t_gates (u.1)), (q_t_gates, zI cI 64 (u.2))] t) A) ([.ref q_t, .int a1] : List Value).toArray s 0 0 A) (F0 m 4 ls []) := by
    intro n
    induction n with
    | zero => intro x2 v_t_count f_t_gates H locs ls hP hD hS hl hw; exact False.elim hw
    | succ n_4 ih_4 =>
      intro x2 v_t_count f_t_gates H locs ls hP hD hS hl hw
      have hw : wpX0_removeAt_4b Q  (wpX0_removeAt_4 Q   n_4)  x2 v_t_count f_t_gates := hw
      refine lv_iload_n hx hb dX0_removeAt_4 rfl (lv_at hl 1 rfl) ?_
      refine lv_aload_n hx hb dX0_removeAt_5 rfl (lv_at hl 0 rfl) ?_
      refine va_get (D := D) (ci := 0) (v := .int v_t_count) (C := RX0) (T := TX0) (N := 2) hx hb hts hw_2 hown hK hP 0 rfl rfl 1 (by decide) hw_1 (fun _ h9 => h9) rfl dX0_removeAt_6 ?_
      refine lv_icmp_ge (tgt := 32) hx hb dX0_removeAt_9 (by decide) (fun c1 => ?_) (fun c1 => ?_)
      · have hw := hw.1 c1
        refine lv_aload_n hx hb dX0_removeAt_32 rfl (lv_at hl 0 rfl) ?_
        refine lv_dup hx hb dX0_removeAt_33 rfl ?_
        refine va_get (D := D) (ci := 0) (v := .int v_t_count) (C := RX0) (T := TX0) (N := 2) hx hb hts hw_2 hown hK hP 0 rfl rfl 1 (by decide) hw_1 (fun _ h9 => h9) rfl dX0_removeAt_34 ?_
        refine lv_iconst (v := 1) hx hb dX0_removeAt_37 (by decide) ?_
        refine lv_isub hx hb dX0_removeAt_38 ?_
        refine va_put (D := D) (ci := 0) (v := .int (v_t_count - 1)) (ty := .int) (C := RX0) (T := TX0) (N := 2) hx hb hts hw_2 tyX0 tyX0_ok nmX0 hown hK hP hD hS 0 rfl rfl 1 (by decide) hw_1 (fun _ h9 => h9) rfl (by decide +kernel) rfl rfl (Nat.le_of_ble_eq_true rfl) dX0_removeAt_39 (fun H locs hP hD hS => ?_)
        have hP : va_P D vwCl [(q_t, zX0 q_t_gates (v_t_count - 1)), (q_t_gates, zI cI 64 f_t_gates)] H := hP
        have hD : va_D A [(q_t, zX0 q_t_gates (v_t_count - 1)), (q_t_gates, zI cI 64 f_t_gates)] := hD
        exact W.vret hx hb hr (fun t ht hW => ⟨⟨((v_t_count - 1), f_t_gates), rfl, hw, ⟨by rw [ht]; exact hP, hD⟩⟩, hS.F ht⟩) hS.2.2 dX0_removeAt_42
      · have hw := hw.2 c1
        refine lv_aload_n hx hb dX0_removeAt_12 rfl (lv_at hl 0 rfl) ?_
        refine va_get (D := D) (ci := 0) (v := .ref q_t_gates) (C := RX0) (T := TX0) (N := 2) hx hb hts hw_2 hown hK hP 0 rfl rfl 0 (by decide) hw_3 (fun _ h9 => h9) rfl dX0_removeAt_13 ?_
        refine lv_iload_n hx hb dX0_removeAt_16 rfl (lv_at hl 1 rfl) ?_
        refine lv_iconst (v := 1) hx hb dX0_removeAt_17 (by decide) ?_
        refine lv_isub hx hb dX0_removeAt_18 ?_
        refine lv_aload_n hx hb dX0_removeAt_19 rfl (lv_at hl 0 rfl) ?_
        refine va_get (D := D) (ci := 0) (v := .ref q_t_gates) (C := RX0) (T := TX0) (N := 2) hx hb hts hw_2 hown hK hP 0 rfl rfl 0 (by decide) hw_3 (fun _ h9 => h9) rfl dX0_removeAt_20 ?_
        refine lv_iload_n hx hb dX0_removeAt_23 rfl (lv_at hl 1 rfl) ?_
        obtain ⟨h2, hw⟩ := hw
        refine va_iald hx hb hK hP 1 0 rfl rfl h2 dX0_removeAt_24 ?_
        obtain ⟨h3, hw⟩ := hw
        refine va_iast hx hb hK hP hD hS 1 0 rfl rfl h3 dX0_removeAt_25 (fun H locs hP hD hS => ?_)
        have hP : va_P D vwCl [(q_t, zX0 q_t_gates v_t_count), (q_t_gates, zI cI 64 (upd f_t_gates (x2 - 1).toNatClampNeg (f_t_gates x2.toNatClampNeg)))] H := hP
        have hD : va_D A [(q_t, zX0 q_t_gates v_t_count), (q_t_gates, zI cI 64 (upd f_t_gates (x2 - 1).toNatClampNeg (f_t_gates x2.toNatClampNeg)))] := hD
        refine lv_iinc (v := (x2 + 1)) (lv' := [(2, .int (x2 + 1)), (0, .ref q_t)]) hx hb dX0_removeAt_26 hl (k := 1) rfl rfl (by decide) rfl (fun ls hl => ?_)
        refine lv_goto (tgt := 4) hx hb dX0_removeAt_29 (by decide) ?_
        exact ih_4 (x2 + 1) v_t_count (upd f_t_gates (x2 - 1).toNatClampNeg (f_t_gates x2.toNatClampNeg)) _ _ _ hP hD hS (lv_sub hl [1, 0] rfl) hw
  refine lv_iload_n hx hb dX0_removeAt_0 rfl (lv_at hl 1 rfl) ?_
  refine lv_iconst (v := 1) hx hb dX0_removeAt_1 (by decide) ?_
  refine lv_iadd hx hb dX0_removeAt_2 ?_
  refine lv_istore_n (lv' := [(2, .int (a1 + 1)), (0, .ref q_t), (1, .int a1)]) hx hb dX0_removeAt_3 rfl hl (by decide) rfl (fun ls hl => ?_)
  obtain ⟨n_4, hw⟩ := hw
  exact L_4 n_4 (a1 + 1) v_t_count f_t_gates _ _ _ hP hD hS (lv_sub hl [1, 0] rfl) hw

def wpX0_unite (Q : (Int32) → (Nat → Int32) → Prop) (a1 : Int32) (a2 : Int32)  (v_t_count : Int32) (f_t_gates : Nat → Int32) : Prop := vp_in a1 64 ∧ wpX0_removeAt (fun (u2 : Int32) (u3 : Nat → Int32) => (((zvX2_united (f_t_gates a1.toNatClampNeg)) = (-1) → wpX0_removeAt (fun (u7 : Int32) (u8 : Nat → Int32) => Q u7 u8) a1 u2 u3) ∧ (¬ (zvX2_united (f_t_gates a1.toNatClampNeg)) = (-1) → vp_in a1 64 ∧ Q u2 (upd u3 a1.toNatClampNeg (zvX2_united (f_t_gates a1.toNatClampNeg)))))) a2 v_t_count f_t_gates
abbrev zrX0_unite : Room := { frames := 3, cells := 0, slots := 0, locals := 65 }
set_option maxHeartbeats 4000000 in
set_option maxRecDepth 100000 in
theorem zkX0_unite (l : Launch) (D : va_G) (cI cJ cC : ClassId) (q_t q_t_gates : Nat) (sz : Nat) (a1 : Int32) (a2 : Int32) (v_t_count : Int32) (f_t_gates : Nat → Int32) {Q : (Int32) → (Nat → Int32) → Prop} (hw : wpX0_unite Q a1 a2 v_t_count f_t_gates) : Met l yX0_unite wmX0_unite zrX0_unite (zPreW D (zT cI cJ cC) [(q_t, zX0 q_t_gates v_t_count), (q_t_gates, zI cI 64 f_t_gates)] sz [.ref q_t, .int a1, .int a2]) (va_Qv (fun u : (Int32) × (Nat → Int32) => Q (u.1) (u.2)) (fun u t => zAt D (va_A [(q_t, zX0 q_t_gates v_t_count), (q_t_gates, zI cI 64 f_t_gates)] sz) [(q_t, zX0 q_t_gates (u.1)), (q_t_gates, zI cI 64 (u.2))] t) (va_A [(q_t, zX0 q_t_gates v_t_count), (q_t_gates, zI cI 64 f_t_gates)] sz)) 0 0 (va_A [(q_t, zX0 q_t_gates v_t_count), (q_t_gates, zI cI 64 f_t_gates)] sz) := by
  refine Met.ofW (cc := cX0_unite) (maxL := 4) (ret := none) (by decide) rfl ?_
  intro p e s m args below meth c s₁ B hml hv
  obtain ⟨rfl, hsz, hP, hK, hD0⟩ := hv
  have hx := B.exec
  have hb := B.bytes
  have hr := B.returns
  have hts := atoms_spec (ws := wmX0_unite) B.pre
  have hown : s.vm.findClass RX0 = some m.cls := findClass_of_methodNamed B.named
  have hlocks := B.notSynchronized
  subst hsz
  have hD := hD0.self (sz := s.heap.size)
  generalize hAe : va_A [(q_t, zX0 q_t_gates v_t_count), (q_t_gates, zI cI 64 f_t_gates)] s.heap.size = A at hD ⊢
  have hA : ∀ q : Nat, s.heap.size ≤ q → A q := fun q h => by rw [← hAe]; exact Or.inr h
  have hS : va_S A s.heap s.heap [] := va_S.rf
  have hP : va_P D vwCl [(q_t, zX0 q_t_gates v_t_count), (q_t_gates, zI cI 64 f_t_gates)] s.heap := hP
  have hw_1 := hts _ (z_in wm_5)
  have hw_2 : ∀ w ∈ u_ws RX0 TX0 2, w ∈ wmX0_unite := fun w h => z_in (wi_wsX00 w h)
  have hl := lv_entry ([.ref q_t, .int a1, .int a2]) (n := 4) (Nat.le_of_ble_eq_true rfl)
  rw [lg_entry_eq]
  generalize (lg_sl ([.ref q_t, .int a1, .int a2]) ++ List.replicate (4 - (lg_sl ([.ref q_t, .int a1, .int a2])).length) Slot.unset).toArray = ls at hl ⊢
  have hl : lv_has ls 4 [(0, .ref q_t), (1, .int a1), (2, .int a2)] := hl
  refine lv_aload_n hx hb dX0_unite_0 rfl (lv_at hl 0 rfl) ?_
  refine va_get (D := D) (ci := 0) (v := .ref q_t_gates) (C := RX0) (T := TX0) (N := 2) hx hb hts hw_2 hown hK hP 0 rfl rfl 0 (by decide) hw_1 (fun _ h9 => h9) rfl dX0_unite_1 ?_
  refine lv_iload_n hx hb dX0_unite_4 rfl (lv_at hl 1 rfl) ?_
  obtain ⟨h1, hw⟩ := hw
  refine va_iald hx hb hK hP 1 0 rfl rfl h1 dX0_unite_5 ?_
  refine z_vi (va_runS (As := [.int (f_t_gates a1.toNatClampNeg)]) (rest := []) ⟨hx, hb, hml, hown, hts⟩ (zkX2_united l   (f_t_gates a1.toNatClampNeg) ) (va_cwS 1 hts (z_gS wm_103 wm_104 wm_30 wm_99) rfl rfl rfl (by decide +kernel) ⟨Nat.le_of_ble_eq_true rfl, Nat.le_of_ble_eq_true rfl⟩) z_psS rfl rfl hl.1 rfl (lv_room (Nat.le_of_ble_eq_true rfl)) dX0_unite_6 ⟨Nat.zero_le _, Nat.zero_le _⟩) ?_
  refine lv_istore_n (lv' := [(3, .int (zvX2_united (f_t_gates a1.toNatClampNeg))), (0, .ref q_t), (1, .int a1), (2, .int a2)]) hx hb dX0_unite_9 rfl hl (by decide) rfl (fun ls hl => ?_)
  refine lv_aload_n hx hb dX0_unite_10 rfl (lv_at hl 1 rfl) ?_
  refine lv_iload_n hx hb dX0_unite_11 rfl (lv_at hl 3 rfl) ?_
  refine z_wv (wc := [(q_t, zX0 q_t_gates v_t_count), (q_t_gates, zI cI 64 f_t_gates)]) (wr := []) (W1 := fun u : (Int32) × (Nat → Int32) => [(q_t, zX0 q_t_gates (u.1)), (q_t_gates, zI cI 64 (u.2))]) (va_runV (As := [.int a2]) (rest := []) ⟨hx, hb, hml, hown, hts⟩ (zkX0_removeAt l D cI cJ cC q_t q_t_gates _ a2 v_t_count f_t_gates hw) (cwV 1 hts (z_gV wm_105 wm_106 wm_107 wm_15 wm_101) rfl rfl rfl (by decide +kernel) ⟨Nat.le_of_ble_eq_true rfl, Nat.le_of_ble_eq_true rfl⟩) (z_pvW hK hP hD [0, 1] rfl (by decide) rfl 0 0 rfl rfl) rfl rfl hl.1 rfl (lv_room (Nat.le_of_ble_eq_true rfl)) dX0_unite_12 ⟨Nat.zero_le _, Nat.zero_le _⟩) hP hD hS hA [0, 1] [] rfl rfl (by decide) (by decide) (fun u9 H locs hw hP hD hS => ?_)
  obtain ⟨u2, u3⟩ := u9
  have hP : va_P D vwCl [(q_t, zX0 q_t_gates u2), (q_t_gates, zI cI 64 u3)] H := hP
  have hD : va_D A [(q_t, zX0 q_t_gates u2), (q_t_gates, zI cI 64 u3)] := hD
  try dsimp only at hw
  refine lv_iload_n hx hb dX0_unite_15 rfl (lv_at hl 0 rfl) ?_
  refine lv_iconst (v := -1) hx hb dX0_unite_16 (by decide) ?_
  refine lv_icmp_ne (tgt := 28) hx hb dX0_unite_17 (by decide) (fun c4 => ?_) (fun c4 => ?_)
  · have hw := hw.2 c4
    refine lv_aload_n hx hb dX0_unite_28 rfl (lv_at hl 1 rfl) ?_
    refine va_get (D := D) (ci := 0) (v := .ref q_t_gates) (C := RX0) (T := TX0) (N := 2) hx hb hts hw_2 hown hK hP 0 rfl rfl 0 (by decide) hw_1 (fun _ h9 => h9) rfl dX0_unite_29 ?_
    refine lv_iload_n hx hb dX0_unite_32 rfl (lv_at hl 2 rfl) ?_
    refine lv_iload_n hx hb dX0_unite_33 rfl (lv_at hl 0 rfl) ?_
    obtain ⟨h5, hw⟩ := hw
    refine va_iast hx hb hK hP hD hS 1 0 rfl rfl h5 dX0_unite_34 (fun H locs hP hD hS => ?_)
    have hP : va_P D vwCl [(q_t, zX0 q_t_gates u2), (q_t_gates, zI cI 64 (upd u3 a1.toNatClampNeg (zvX2_united (f_t_gates a1.toNatClampNeg))))] H := hP
    have hD : va_D A [(q_t, zX0 q_t_gates u2), (q_t_gates, zI cI 64 (upd u3 a1.toNatClampNeg (zvX2_united (f_t_gates a1.toNatClampNeg))))] := hD
    exact W.vret hx hb hr (fun t ht hW => ⟨⟨(u2, (upd u3 a1.toNatClampNeg (zvX2_united (f_t_gates a1.toNatClampNeg)))), rfl, hw, ⟨by rw [ht]; exact hP, hD⟩⟩, hS.F ht⟩) hS.2.2 dX0_unite_35
  · have hw := hw.1 c4
    refine lv_aload_n hx hb dX0_unite_20 rfl (lv_at hl 1 rfl) ?_
    refine lv_iload_n hx hb dX0_unite_21 rfl (lv_at hl 2 rfl) ?_
    refine z_wv (wc := [(q_t, zX0 q_t_gates u2), (q_t_gates, zI cI 64 u3)]) (wr := []) (W1 := fun u : (Int32) × (Nat → Int32) => [(q_t, zX0 q_t_gates (u.1)), (q_t_gates, zI cI 64 (u.2))]) (va_runV (As := [.int a1]) (rest := []) ⟨hx, hb, hml, hown, hts⟩ (zkX0_removeAt l D cI cJ cC q_t q_t_gates _ a1 u2 u3 hw) (cwV 1 hts (z_gV wm_105 wm_106 wm_107 wm_15 wm_101) rfl rfl rfl (by decide +kernel) ⟨Nat.le_of_ble_eq_true rfl, Nat.le_of_ble_eq_true rfl⟩) (z_pvW hK hP hD [0, 1] rfl (by decide) rfl 0 0 rfl rfl) rfl rfl hl.1 rfl (lv_room (Nat.le_of_ble_eq_true rfl)) dX0_unite_22 ⟨Nat.zero_le _, Nat.zero_le _⟩) hP hD hS hA [0, 1] [] rfl rfl (by decide) (by decide) (fun u9 H locs hw hP hD hS => ?_)
    obtain ⟨u7, u8⟩ := u9
    have hP : va_P D vwCl [(q_t, zX0 q_t_gates u7), (q_t_gates, zI cI 64 u8)] H := hP
    have hD : va_D A [(q_t, zX0 q_t_gates u7), (q_t_gates, zI cI 64 u8)] := hD
    try dsimp only at hw
    refine lv_goto (tgt := 35) hx hb dX0_unite_25 (by decide) ?_
    exact W.vret hx hb hr (fun t ht hW => ⟨⟨(u7, u8), rfl, hw, ⟨by rw [ht]; exact hP, hD⟩⟩, hS.F ht⟩) hS.2.2 dX0_unite_35

def wpX0_rewriteOne_21 (Q : Int32 → (Int32) → (Nat → Int32) → Prop)   (x1 : Int32) (x2 : Int32) (v_t_count : Int32) (f_t_gates : Nat → Int32) : Prop := wpX0_unite (fun (u4 : Int32) (u5 : Nat → Int32) => Q 1 u4 u5) x1 x2 v_t_count f_t_gates
def wpX0_rewriteOne_2b (Q : Int32 → (Int32) → (Nat → Int32) → Prop)  (R_2 : (Int32) → (Int32) → (Nat → Int32) → Prop)  (x1 : Int32) (v_t_count : Int32) (f_t_gates : Nat → Int32) : Prop := ((v_t_count ≤ x1 → Q 0 v_t_count f_t_gates) ∧ (¬ v_t_count ≤ x1 → wpX0_partnerOf (fun r2 : Int32 => ((r2 = (-1) → R_2 (x1 + 1) v_t_count f_t_gates) ∧ (¬ r2 = (-1) → wpX0_rewriteOne_21 Q   x1 r2 v_t_count f_t_gates))) x1 v_t_count f_t_gates))
def wpX0_rewriteOne_2 (Q : Int32 → (Int32) → (Nat → Int32) → Prop)   : Nat → (Int32) → (Int32) → (Nat → Int32) → Prop
  | 0 => fun _ _ _ => False
  | n + 1 => fun x1 v_t_count f_t_gates => wpX0_rewriteOne_2b Q  (wpX0_rewriteOne_2 Q   n)  x1 v_t_count f_t_gates
def wpX0_rewriteOne (Q : Int32 → (Int32) → (Nat → Int32) → Prop)   (v_t_count : Int32) (f_t_gates : Nat → Int32) : Prop := ∃ n : Nat, wpX0_rewriteOne_2 Q   n 0 v_t_count f_t_gates
abbrev zrX0_rewriteOne : Room := { frames := 5, cells := 0, slots := 0, locals := 106 }
set_option maxHeartbeats 4000000 in
set_option maxRecDepth 100000 in
theorem zkX0_rewriteOne (l : Launch) (D : va_G) (cI cJ cC : ClassId) (q_t q_t_gates : Nat) (sz : Nat)  (v_t_count : Int32) (f_t_gates : Nat → Int32) {Q : Int32 → (Int32) → (Nat → Int32) → Prop} (hw : wpX0_rewriteOne Q v_t_count f_t_gates) : Met l yX0_rewriteOne wmX0_rewriteOne zrX0_rewriteOne (zPreW D (zT cI cJ cC) [(q_t, zX0 q_t_gates v_t_count), (q_t_gates, zI cI 64 f_t_gates)] sz [.ref q_t]) (va_Qi (fun (r : Int32) (u : (Int32) × (Nat → Int32)) => Q r (u.1) (u.2)) (fun u t => zAt D (va_A [(q_t, zX0 q_t_gates v_t_count), (q_t_gates, zI cI 64 f_t_gates)] sz) [(q_t, zX0 q_t_gates (u.1)), (q_t_gates, zI cI 64 (u.2))] t) (va_A [(q_t, zX0 q_t_gates v_t_count), (q_t_gates, zI cI 64 f_t_gates)] sz)) 0 0 (va_A [(q_t, zX0 q_t_gates v_t_count), (q_t_gates, zI cI 64 f_t_gates)] sz) := by
  refine Met.ofW (cc := cX0_rewriteOne) (maxL := 3) (ret := (some .boolean)) (by decide) rfl ?_
  intro p e s m args below meth c s₁ B hml hv
  obtain ⟨rfl, hsz, hP, hK, hD0⟩ := hv
  have hx := B.exec
  have hb := B.bytes
  have hr := B.returns
  have hts := atoms_spec (ws := wmX0_rewriteOne) B.pre
  have hown : s.vm.findClass RX0 = some m.cls := findClass_of_methodNamed B.named
  have hlocks := B.notSynchronized
  subst hsz
  have hD := hD0.self (sz := s.heap.size)
  generalize hAe : va_A [(q_t, zX0 q_t_gates v_t_count), (q_t_gates, zI cI 64 f_t_gates)] s.heap.size = A at hD ⊢
  have hA : ∀ q : Nat, s.heap.size ≤ q → A q := fun q h => by rw [← hAe]; exact Or.inr h
  have hS : va_S A s.heap s.heap [] := va_S.rf
  have hP : va_P D vwCl [(q_t, zX0 q_t_gates v_t_count), (q_t_gates, zI cI 64 f_t_gates)] s.heap := hP
  have hw_1 := hts _ (z_in wm_6)
  have hw_2 : ∀ w ∈ u_ws RX0 TX0 2, w ∈ wmX0_rewriteOne := fun w h => z_in (wi_wsX00 w h)
  have hl := lv_entry ([.ref q_t]) (n := 3) (Nat.le_of_ble_eq_true rfl)
  rw [lg_entry_eq]
  generalize (lg_sl ([.ref q_t]) ++ List.replicate (3 - (lg_sl ([.ref q_t])).length) Slot.unset).toArray = ls at hl ⊢
  have hl : lv_has ls 3 [(0, .ref q_t)] := hl
  have J_21 : ∀ (x1 : Int32) (x2 : Int32) (v_t_count : Int32) (f_t_gates : Nat → Int32) (H : Heap) (locs : List Loc) (ls : Array Slot), va_P D vwCl [(q_t, zX0 q_t_gates v_t_count), (q_t_gates, zI cI 64 f_t_gates)] H → va_D A [(q_t, zX0 q_t_gates v_t_count), (q_t_gates, zI cI 64 f_t_gates)] → va_S A s.heap H locs → lv_has ls 3 [(0, .ref q_t), (1, .int x1), (2, .int x2)] → wpX0_rewriteOne_21 Q   x1 x2 v_t_count f_t_gates → W p l e (headSpec wmX0_rewriteOne zrX0_rewriteOne).room s m ([.ref q_t] : List Value).toArray below meth c H locs 0 0 (MQ below (va_Qi (fun (r : Int32) (u : (Int32) × (Nat → Int32)) => Q r (u.1) (u.2)) (fun u t => zAt D A [(q_t, zX0 q_t_gates (u.1)), (q_t_gates, zI cI 64 (u.2))] t) A) ([.ref q_t] : List Value).toArray s 0 0 A) (F0 m 21 ls []) := by
    intro x1 x2 v_t_count f_t_gates H locs ls hP hD hS hl hw
    unfold wpX0_rewriteOne_21 at hw
    refine lv_aload_n hx hb dX0_rewriteOne_21 rfl (lv_at hl 0 rfl) ?_
    refine lv_iload_n hx hb dX0_rewriteOne_22 rfl (lv_at hl 1 rfl) ?_
    refine lv_iload_n hx hb dX0_rewriteOne_23 rfl (lv_at hl 2 rfl) ?_
    refine z_wv (wc := [(q_t, zX0 q_t_gates v_t_count), (q_t_gates, zI cI 64 f_t_gates)]) (wr := []) (W1 := fun u : (Int32) × (Nat → Int32) => [(q_t, zX0 q_t_gates (u.1)), (q_t_gates, zI cI 64 (u.2))]) (va_runV (As := [.int x1, .int x2]) (rest := []) ⟨hx, hb, hml, hown, hts⟩ (zkX0_unite l D cI cJ cC q_t q_t_gates _ x1 x2 v_t_count f_t_gates hw) (cwV 2 hts (z_gV wm_111 wm_112 wm_113 wm_15 wm_102) rfl rfl rfl (by decide +kernel) ⟨Nat.le_of_ble_eq_true rfl, Nat.le_of_ble_eq_true rfl⟩) (z_pvW hK hP hD [0, 1] rfl (by decide) rfl 0 0 rfl rfl) rfl rfl hl.1 rfl (lv_room (Nat.le_of_ble_eq_true rfl)) dX0_rewriteOne_24 ⟨Nat.zero_le _, Nat.zero_le _⟩) hP hD hS hA [0, 1] [] rfl rfl (by decide) (by decide) (fun u9 H locs hw hP hD hS => ?_)
    obtain ⟨u4, u5⟩ := u9
    have hP : va_P D vwCl [(q_t, zX0 q_t_gates u4), (q_t_gates, zI cI 64 u5)] H := hP
    have hD : va_D A [(q_t, zX0 q_t_gates u4), (q_t_gates, zI cI 64 u5)] := hD
    try dsimp only at hw
    refine lv_iconst (v := 1) hx hb dX0_rewriteOne_27 (by decide) ?_
    exact W.zret (v := 1) hx hb hr (by decide) (fun t ht hW => ⟨⟨1, (u4, u5), rfl, hw, ⟨by rw [ht]; exact hP, hD⟩⟩, hS.F ht⟩) hS.2.2 dX0_rewriteOne_28
  have L_2 : ∀ (n : Nat), ∀ (x1 : Int32) (v_t_count : Int32) (f_t_gates : Nat → Int32) (H : Heap) (locs : List Loc) (ls : Array Slot), va_P D vwCl [(q_t, zX0 q_t_gates v_t_count), (q_t_gates, zI cI 64 f_t_gates)] H → va_D A [(q_t, zX0 q_t_gates v_t_count), (q_t_gates, zI cI 64 f_t_gates)] → va_S A s.heap H locs → lv_has ls 3 [(0, .ref q_t), (1, .int x1)] → wpX0_rewriteOne_2 Q   n x1 v_t_count f_t_gates → W p l e (headSpec wmX0_rewriteOne zrX0_rewriteOne).room s m ([.ref q_t] : List Value).toArray below meth c H locs 0 0 (MQ below (va_Qi (fun (r : Int32) (u : (Int32) × (Nat → Int32)) => Q r (u.1) (u.2)) (fun u t => zAt D A [(q_t, zX0 q_t_gates (u.1)), (q_t_gates, zI cI 64 (u.2))] t) A) ([.ref q_t] : List Value).toArray s 0 0 A) (F0 m 2 ls []) := by
    intro n
    induction n with
    | zero => intro x1 v_t_count f_t_gates H locs ls hP hD hS hl hw; exact False.elim hw
    | succ n_2 ih_2 =>
      intro x1 v_t_count f_t_gates H locs ls hP hD hS hl hw
      have hw : wpX0_rewriteOne_2b Q  (wpX0_rewriteOne_2 Q   n_2)  x1 v_t_count f_t_gates := hw
      refine lv_iload_n hx hb dX0_rewriteOne_2 rfl (lv_at hl 1 rfl) ?_
      refine lv_aload_n hx hb dX0_rewriteOne_3 rfl (lv_at hl 0 rfl) ?_
      refine va_get (D := D) (ci := 0) (v := .int v_t_count) (C := RX0) (T := TX0) (N := 2) hx hb hts hw_2 hown hK hP 0 rfl rfl 1 (by decide) hw_1 (fun _ h9 => h9) rfl dX0_rewriteOne_4 ?_
      refine lv_icmp_ge (tgt := 35) hx hb dX0_rewriteOne_7 (by decide) (fun c1 => ?_) (fun c1 => ?_)
      · have hw := hw.1 c1
        refine lv_iconst (v := 0) hx hb dX0_rewriteOne_35 (by decide) ?_
        exact W.zret (v := 0) hx hb hr (by decide) (fun t ht hW => ⟨⟨0, (v_t_count, f_t_gates), rfl, hw, ⟨by rw [ht]; exact hP, hD⟩⟩, hS.F ht⟩) hS.2.2 dX0_rewriteOne_36
      · have hw := hw.2 c1
        refine lv_aload_n hx hb dX0_rewriteOne_10 rfl (lv_at hl 0 rfl) ?_
        refine lv_iload_n hx hb dX0_rewriteOne_11 rfl (lv_at hl 1 rfl) ?_
        refine z_ri (va_runV (As := [.int x1]) (rest := []) ⟨hx, hb, hml, hown, hts⟩ (zkX0_partnerOf l D cI cJ cC q_t q_t_gates x1 v_t_count f_t_gates hw) (cwV 1 hts (z_gV wm_108 wm_109 wm_110 wm_15 wm_98) rfl rfl rfl (by decide +kernel) ⟨Nat.le_of_ble_eq_true rfl, Nat.le_of_ble_eq_true rfl⟩) (z_pvR hK hP [0, 1] rfl 0 0 rfl rfl) rfl rfl hl.1 rfl (lv_room (Nat.le_of_ble_eq_true rfl)) dX0_rewriteOne_12 ⟨Nat.zero_le _, Nat.zero_le _⟩) (fun r2 hw => ?_)
        refine lv_istore_n (lv' := [(2, .int r2), (0, .ref q_t), (1, .int x1)]) hx hb dX0_rewriteOne_15 rfl hl (by decide) rfl (fun ls hl => ?_)
        refine lv_iload_n hx hb dX0_rewriteOne_16 rfl (lv_at hl 0 rfl) ?_
        refine lv_iconst (v := -1) hx hb dX0_rewriteOne_17 (by decide) ?_
        refine lv_icmp_eq (tgt := 29) hx hb dX0_rewriteOne_18 (by decide) (fun c3 => ?_) (fun c3 => ?_)
        · have hw := hw.1 c3
          refine lv_iinc (v := (x1 + 1)) (lv' := [(1, .int (x1 + 1)), (2, .int r2), (0, .ref q_t)]) hx hb dX0_rewriteOne_29 hl (k := 2) rfl rfl (by decide) rfl (fun ls hl => ?_)
          refine lv_goto (tgt := 2) hx hb dX0_rewriteOne_32 (by decide) ?_
          exact ih_2 (x1 + 1) v_t_count f_t_gates _ _ _ hP hD hS (lv_sub hl [2, 0] rfl) hw
        · have hw := hw.2 c3
          exact J_21 x1 r2 v_t_count f_t_gates _ _ _ hP hD hS (lv_sub hl [1, 2, 0] rfl) hw
  refine lv_iconst (v := 0) hx hb dX0_rewriteOne_0 (by decide) ?_
  refine lv_istore_n (lv' := [(1, .int 0), (0, .ref q_t)]) hx hb dX0_rewriteOne_1 rfl hl (by decide) rfl (fun ls hl => ?_)
  obtain ⟨n_2, hw⟩ := hw
  exact L_2 n_2 0 v_t_count f_t_gates _ _ _ hP hD hS (lv_sub hl [1, 0] rfl) hw

def wpX0_rewriteAll_5b (Q : (Int32) → (Nat → Int32) → Prop)  (R_5 : (Int32) → (Int32) → (Int32) → (Nat → Int32) → Prop)  (x1 : Int32) (x2 : Int32) (v_t_count : Int32) (f_t_gates : Nat → Int32) : Prop := ((x2 ≤ 0 → Q v_t_count f_t_gates) ∧ (¬ x2 ≤ 0 → ((x1 = 0 → Q v_t_count f_t_gates) ∧ (¬ x1 = 0 → wpX0_rewriteOne (fun (r5 : Int32) (u3 : Int32) (u4 : Nat → Int32) => R_5 r5 (x2 + (-1)) u3 u4) v_t_count f_t_gates))))
def wpX0_rewriteAll_5 (Q : (Int32) → (Nat → Int32) → Prop)   : Nat → (Int32) → (Int32) → (Int32) → (Nat → Int32) → Prop
  | 0 => fun _ _ _ _ => False
  | n + 1 => fun x1 x2 v_t_count f_t_gates => wpX0_rewriteAll_5b Q  (wpX0_rewriteAll_5 Q   n)  x1 x2 v_t_count f_t_gates
def wpX0_rewriteAll (Q : (Int32) → (Nat → Int32) → Prop)   (v_t_count : Int32) (f_t_gates : Nat → Int32) : Prop := ∃ n : Nat, wpX0_rewriteAll_5 Q   n 1 64 v_t_count f_t_gates
abbrev zrX0_rewriteAll : Room := { frames := 6, cells := 0, slots := 0, locals := 128 }
set_option maxHeartbeats 4000000 in
set_option maxRecDepth 100000 in
theorem zkX0_rewriteAll (l : Launch) (D : va_G) (cI cJ cC : ClassId) (q_t q_t_gates : Nat) (sz : Nat)  (v_t_count : Int32) (f_t_gates : Nat → Int32) {Q : (Int32) → (Nat → Int32) → Prop} (hw : wpX0_rewriteAll Q v_t_count f_t_gates) : Met l yX0_rewriteAll wmX0_rewriteAll zrX0_rewriteAll (zPreW D (zT cI cJ cC) [(q_t, zX0 q_t_gates v_t_count), (q_t_gates, zI cI 64 f_t_gates)] sz [.ref q_t]) (va_Qv (fun u : (Int32) × (Nat → Int32) => Q (u.1) (u.2)) (fun u t => zAt D (va_A [(q_t, zX0 q_t_gates v_t_count), (q_t_gates, zI cI 64 f_t_gates)] sz) [(q_t, zX0 q_t_gates (u.1)), (q_t_gates, zI cI 64 (u.2))] t) (va_A [(q_t, zX0 q_t_gates v_t_count), (q_t_gates, zI cI 64 f_t_gates)] sz)) 0 0 (va_A [(q_t, zX0 q_t_gates v_t_count), (q_t_gates, zI cI 64 f_t_gates)] sz) := by
  refine Met.ofW (cc := cX0_rewriteAll) (maxL := 3) (ret := none) (by decide) rfl ?_
  intro p e s m args below meth c s₁ B hml hv
  obtain ⟨rfl, hsz, hP, hK, hD0⟩ := hv
  have hx := B.exec
  have hb := B.bytes
  have hr := B.returns
  have hts := atoms_spec (ws := wmX0_rewriteAll) B.pre
  have hown : s.vm.findClass RX0 = some m.cls := findClass_of_methodNamed B.named
  have hlocks := B.notSynchronized
  subst hsz
  have hD := hD0.self (sz := s.heap.size)
  generalize hAe : va_A [(q_t, zX0 q_t_gates v_t_count), (q_t_gates, zI cI 64 f_t_gates)] s.heap.size = A at hD ⊢
  have hA : ∀ q : Nat, s.heap.size ≤ q → A q := fun q h => by rw [← hAe]; exact Or.inr h
  have hS : va_S A s.heap s.heap [] := va_S.rf
  have hP : va_P D vwCl [(q_t, zX0 q_t_gates v_t_count), (q_t_gates, zI cI 64 f_t_gates)] s.heap := hP
  have hl := lv_entry ([.ref q_t]) (n := 3) (Nat.le_of_ble_eq_true rfl)
  rw [lg_entry_eq]
  generalize (lg_sl ([.ref q_t]) ++ List.replicate (3 - (lg_sl ([.ref q_t])).length) Slot.unset).toArray = ls at hl ⊢
  have hl : lv_has ls 3 [(0, .ref q_t)] := hl
  have L_5 : ∀ (n : Nat), ∀ (x1 : Int32) (x2 : Int32) (v_t_count : Int32) (f_t_gates : Nat → Int32) (H : Heap) (locs : List Loc) (ls : Array Slot), va_P D vwCl [(q_t, zX0 q_t_gates v_t_count), (q_t_gates, zI cI 64 f_t_gates)] H → va_D A [(q_t, zX0 q_t_gates v_t_count), (q_t_gates, zI cI 64 f_t_gates)] → va_S A s.heap H locs → lv_has ls 3 [(0, .ref q_t), (1, .int x1), (2, .int x2)] → wpX0_rewriteAll_5 Q   n x1 x2 v_t_count f_t_gates → W p l e (headSpec wmX0_rewriteAll zrX0_rewriteAll).room s m ([.ref q_t] : List Value).toArray below meth c H locs 0 0 (MQ below (va_Qv (fun u : (Int32) × (Nat → Int32) => Q (u.1) (u.2)) (fun u t => zAt D A [(q_t, zX0 q_t_gates (u.1)), (q_t_gates, zI cI 64 (u.2))] t) A) ([.ref q_t] : List Value).toArray s 0 0 A) (F0 m 5 ls []) := by
    intro n
    induction n with
    | zero => intro x1 x2 v_t_count f_t_gates H locs ls hP hD hS hl hw; exact False.elim hw
    | succ n_5 ih_5 =>
      intro x1 x2 v_t_count f_t_gates H locs ls hP hD hS hl hw
      have hw : wpX0_rewriteAll_5b Q  (wpX0_rewriteAll_5 Q   n_5)  x1 x2 v_t_count f_t_gates := hw
      refine lv_iload_n hx hb dX0_rewriteAll_5 rfl (lv_at hl 2 rfl) ?_
      refine lv_if_le (tgt := 24) hx hb dX0_rewriteAll_6 (by decide) (fun c1 => ?_) (fun c1 => ?_)
      · have hw := hw.1 c1
        exact W.vret hx hb hr (fun t ht hW => ⟨⟨(v_t_count, f_t_gates), rfl, hw, ⟨by rw [ht]; exact hP, hD⟩⟩, hS.F ht⟩) hS.2.2 dX0_rewriteAll_24
      · have hw := hw.2 c1
        refine lv_iload_n hx hb dX0_rewriteAll_9 rfl (lv_at hl 1 rfl) ?_
        refine lv_if_eq (tgt := 24) hx hb dX0_rewriteAll_10 (by decide) (fun c2 => ?_) (fun c2 => ?_)
        · have hw := hw.1 c2
          exact W.vret hx hb hr (fun t ht hW => ⟨⟨(v_t_count, f_t_gates), rfl, hw, ⟨by rw [ht]; exact hP, hD⟩⟩, hS.F ht⟩) hS.2.2 dX0_rewriteAll_24
        · have hw := hw.2 c2
          refine lv_aload_n hx hb dX0_rewriteAll_13 rfl (lv_at hl 0 rfl) ?_
          refine z_wi (wc := [(q_t, zX0 q_t_gates v_t_count), (q_t_gates, zI cI 64 f_t_gates)]) (wr := []) (W1 := fun u : (Int32) × (Nat → Int32) => [(q_t, zX0 q_t_gates (u.1)), (q_t_gates, zI cI 64 (u.2))]) (va_runV (As := []) (rest := []) ⟨hx, hb, hml, hown, hts⟩ (zkX0_rewriteOne l D cI cJ cC q_t q_t_gates _  v_t_count f_t_gates hw) (cwV 0 hts (z_gV wm_115 wm_116 wm_117 wm_15 wm_114) rfl rfl rfl (by decide +kernel) ⟨Nat.le_of_ble_eq_true rfl, Nat.le_of_ble_eq_true rfl⟩) (z_pvW hK hP hD [0, 1] rfl (by decide) rfl 0 0 rfl rfl) rfl rfl hl.1 rfl (lv_room (Nat.le_of_ble_eq_true rfl)) dX0_rewriteAll_14 ⟨Nat.zero_le _, Nat.zero_le _⟩) hP hD hS hA [0, 1] [] rfl rfl (by decide) (by decide) (fun r5 u9 H locs hw hP hD hS => ?_)
          obtain ⟨u3, u4⟩ := u9
          have hP : va_P D vwCl [(q_t, zX0 q_t_gates u3), (q_t_gates, zI cI 64 u4)] H := hP
          have hD : va_D A [(q_t, zX0 q_t_gates u3), (q_t_gates, zI cI 64 u4)] := hD
          try dsimp only at hw
          refine lv_istore_n (lv' := [(1, .int r5), (0, .ref q_t), (2, .int x2)]) hx hb dX0_rewriteAll_17 rfl hl (by decide) rfl (fun ls hl => ?_)
          refine lv_iinc (v := (x2 + (-1))) (lv' := [(2, .int (x2 + (-1))), (1, .int r5), (0, .ref q_t)]) hx hb dX0_rewriteAll_18 hl (k := 2) rfl rfl (by decide) rfl (fun ls hl => ?_)
          refine lv_goto (tgt := 5) hx hb dX0_rewriteAll_21 (by decide) ?_
          exact ih_5 r5 (x2 + (-1)) u3 u4 _ _ _ hP hD hS (lv_sub hl [2, 1, 0] rfl) hw
  refine lv_iconst (v := 1) hx hb dX0_rewriteAll_0 (by decide) ?_
  refine lv_istore_n (lv' := [(1, .int 1), (0, .ref q_t)]) hx hb dX0_rewriteAll_1 rfl hl (by decide) rfl (fun ls hl => ?_)
  refine lv_bipush (v := 64) hx hb dX0_rewriteAll_2 (by decide) ?_
  refine lv_istore_n (lv' := [(2, .int 64), (1, .int 1), (0, .ref q_t)]) hx hb dX0_rewriteAll_4 rfl hl (by decide) rfl (fun ls hl => ?_)
  obtain ⟨n_5, hw⟩ := hw
  exact L_5 n_5 1 64 v_t_count f_t_gates _ _ _ hP hD hS (lv_sub hl [2, 1, 0] rfl) hw
