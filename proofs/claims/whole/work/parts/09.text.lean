/-! Walks, written by wip/whole/gen.py out of the listing of the class. -/
def zvX5_count  (v_t_count : Int32) : Int32 := v_t_count
abbrev zrX5_count : Room := { frames := 0, cells := 0, slots := 0, locals := 0 }
set_option maxHeartbeats 4000000 in
set_option maxRecDepth 100000 in
theorem zkX5_count (l : Launch) (D : va_G) (cI cJ cC : ClassId) (q_t q_t_characters : Nat)  (v_t_count : Int32) (v_t_reached : Int32) : Met l yX5_count wmX5_count zrX5_count (zPreR D (zT cI cJ cC) [(q_t, zX5 q_t_characters v_t_count v_t_reached)] [.ref q_t]) (vp_Si (fun r => r = zvX5_count v_t_count)) 0 0 (fun _ => False) := by
  refine Met.ofW (cc := cX5_count) (maxL := 1) (ret := (some .int)) (by decide) rfl ?_
  intro p e s m args below meth c s₁ B hml hv
  obtain ⟨rfl, hP, hK⟩ := hv
  have hx := B.exec
  have hb := B.bytes
  have hr := B.returns
  have hts := atoms_spec (ws := wmX5_count) B.pre
  have hown : s.vm.findClass RX5 = some m.cls := findClass_of_methodNamed B.named
  have hlocks := B.notSynchronized
  have hw_1 := hts _ (z_in wm_284)
  have hw_2 : ∀ w ∈ u_ws RX5 TX5 3, w ∈ wmX5_count := fun w h => z_in (wi_wsX50 w h)
  have hl := lv_entry ([.ref q_t]) (n := 1) (Nat.le_of_ble_eq_true rfl)
  rw [lg_entry_eq]
  generalize (lg_sl ([.ref q_t]) ++ List.replicate (1 - (lg_sl ([.ref q_t])).length) Slot.unset).toArray = ls at hl ⊢
  have hl : lv_has ls 1 [(0, .ref q_t)] := hl
  refine lv_aload_n hx hb dX5_count_0 rfl (lv_at hl 0 rfl) ?_
  refine va_get (D := D) (ci := 4) (v := .int v_t_count) (C := RX5) (T := TX5) (N := 3) hx hb hts hw_2 hown hK hP 0 rfl rfl 1 (by decide) hw_1 (fun _ h9 => h9) rfl dX5_count_1 ?_
  exact W.iret (v := v_t_count) hx hb hr (fun t ht hW => ⟨_, rfl, (by rw [zvX5_count]), ht⟩) (fun _ h => by cases h) dX5_count_4

def wpX5_at (Q : Int32 → Prop) (a1 : Int32) (v_t_count : Int32) (f_t_characters : Nat → Int32)  : Prop := ((a1 < 0 → Q (-1)) ∧ (¬ a1 < 0 → ((v_t_count ≤ a1 → Q (-1)) ∧ (¬ v_t_count ≤ a1 → vp_in a1 320 ∧ Q (f_t_characters a1.toNatClampNeg)))))
abbrev zrX5_at : Room := { frames := 0, cells := 0, slots := 0, locals := 0 }
set_option maxHeartbeats 4000000 in
set_option maxRecDepth 100000 in
theorem zkX5_at (l : Launch) (D : va_G) (cI cJ cC : ClassId) (q_t q_t_characters : Nat) (a1 : Int32) (v_t_count : Int32) (v_t_reached : Int32) (f_t_characters : Nat → Int32) {Q : Int32 → Prop} (hw : wpX5_at Q a1 v_t_count f_t_characters) : Met l yX5_at wmX5_at zrX5_at (zPreR D (zT cI cJ cC) [(q_t, zX5 q_t_characters v_t_count v_t_reached), (q_t_characters, zI cC 320 f_t_characters)] [.ref q_t, .int a1]) (vp_Si (fun r => Q r)) 0 0 (fun _ => False) := by
  refine Met.ofW (cc := cX5_at) (maxL := 2) (ret := (some .int)) (by decide) rfl ?_
  intro p e s m args below meth c s₁ B hml hv
  obtain ⟨rfl, hP, hK⟩ := hv
  have hx := B.exec
  have hb := B.bytes
  have hr := B.returns
  have hts := atoms_spec (ws := wmX5_at) B.pre
  have hown : s.vm.findClass RX5 = some m.cls := findClass_of_methodNamed B.named
  have hlocks := B.notSynchronized
  have hw_1 := hts _ (z_in wm_284)
  have hw_2 : ∀ w ∈ u_ws RX5 TX5 3, w ∈ wmX5_at := fun w h => z_in (wi_wsX50 w h)
  have hw_3 := hts _ (z_in wm_283)
  have hl := lv_entry ([.ref q_t, .int a1]) (n := 2) (Nat.le_of_ble_eq_true rfl)
  rw [lg_entry_eq]
  generalize (lg_sl ([.ref q_t, .int a1]) ++ List.replicate (2 - (lg_sl ([.ref q_t, .int a1])).length) Slot.unset).toArray = ls at hl ⊢
  have hl : lv_has ls 2 [(0, .ref q_t), (1, .int a1)] := hl
  refine lv_iload_n hx hb dX5_at_0 rfl (lv_at hl 1 rfl) ?_
  refine lv_if_lt (tgt := 21) hx hb dX5_at_1 (by decide) (fun c1 => ?_) (fun c1 => ?_)
  · have hw := hw.1 c1
    refine lv_iconst (v := -1) hx hb dX5_at_21 (by decide) ?_
    exact W.iret (v := (-1)) hx hb hr (fun t ht hW => ⟨_, rfl, hw, ht⟩) (fun _ h => by cases h) dX5_at_22
  · have hw := hw.2 c1
    refine lv_iload_n hx hb dX5_at_4 rfl (lv_at hl 1 rfl) ?_
    refine lv_aload_n hx hb dX5_at_5 rfl (lv_at hl 0 rfl) ?_
    refine va_get (D := D) (ci := 4) (v := .int v_t_count) (C := RX5) (T := TX5) (N := 3) hx hb hts hw_2 hown hK hP 0 rfl rfl 1 (by decide) hw_1 (fun _ h9 => h9) rfl dX5_at_6 ?_
    refine lv_icmp_ge (tgt := 21) hx hb dX5_at_9 (by decide) (fun c2 => ?_) (fun c2 => ?_)
    · have hw := hw.1 c2
      refine lv_iconst (v := -1) hx hb dX5_at_21 (by decide) ?_
      exact W.iret (v := (-1)) hx hb hr (fun t ht hW => ⟨_, rfl, hw, ht⟩) (fun _ h => by cases h) dX5_at_22
    · have hw := hw.2 c2
      refine lv_aload_n hx hb dX5_at_12 rfl (lv_at hl 0 rfl) ?_
      refine va_get (D := D) (ci := 4) (v := .ref q_t_characters) (C := RX5) (T := TX5) (N := 3) hx hb hts hw_2 hown hK hP 0 rfl rfl 0 (by decide) hw_3 (fun _ h9 => h9) rfl dX5_at_13 ?_
      refine lv_iload_n hx hb dX5_at_16 rfl (lv_at hl 1 rfl) ?_
      obtain ⟨h3, hw⟩ := hw
      refine va_cald hx hb hK hP 1 2 rfl rfl h3 dX5_at_17 ?_
      refine lv_goto (tgt := 22) hx hb dX5_at_18 (by decide) ?_
      exact W.iret (v := (f_t_characters a1.toNatClampNeg)) hx hb hr (fun t ht hW => ⟨_, rfl, hw, ht⟩) (fun _ h => by cases h) dX5_at_22

def wpX5_removeAll (Q : (Int32) → Prop)   (v_t_count : Int32) : Prop := Q 0
abbrev zrX5_removeAll : Room := { frames := 0, cells := 0, slots := 0, locals := 0 }
set_option maxHeartbeats 4000000 in
set_option maxRecDepth 100000 in
theorem zkX5_removeAll (l : Launch) (D : va_G) (cI cJ cC : ClassId) (q_t q_t_characters : Nat) (sz : Nat)  (v_t_count : Int32) (v_t_reached : Int32) {Q : (Int32) → Prop} (hw : wpX5_removeAll Q v_t_count) : Met l yX5_removeAll wmX5_removeAll zrX5_removeAll (zPreW D (zT cI cJ cC) [(q_t, zX5 q_t_characters v_t_count v_t_reached)] sz [.ref q_t]) (va_Qv (fun u : (Int32) => Q u) (fun u t => zAt D (va_A [(q_t, zX5 q_t_characters v_t_count v_t_reached)] sz) [(q_t, zX5 q_t_characters u v_t_reached)] t) (va_A [(q_t, zX5 q_t_characters v_t_count v_t_reached)] sz)) 0 0 (va_A [(q_t, zX5 q_t_characters v_t_count v_t_reached)] sz) := by
  refine Met.ofW (cc := cX5_removeAll) (maxL := 1) (ret := none) (by decide) rfl ?_
  intro p e s m args below meth c s₁ B hml hv
  obtain ⟨rfl, hsz, hP, hK, hD0⟩ := hv
  have hx := B.exec
  have hb := B.bytes
  have hr := B.returns
  have hts := atoms_spec (ws := wmX5_removeAll) B.pre
  have hown : s.vm.findClass RX5 = some m.cls := findClass_of_methodNamed B.named
  have hlocks := B.notSynchronized
  subst hsz
  have hD := hD0.self (sz := s.heap.size)
  generalize hAe : va_A [(q_t, zX5 q_t_characters v_t_count v_t_reached)] s.heap.size = A at hD ⊢
  have hA : ∀ q : Nat, s.heap.size ≤ q → A q := fun q h => by rw [← hAe]; exact Or.inr h
  have hS : va_S A s.heap s.heap [] := va_S.rf
  have hP : va_P D vwCl [(q_t, zX5 q_t_characters v_t_count v_t_reached)] s.heap := hP
  have hw_1 := hts _ (z_in wm_284)
  have hw_2 : ∀ w ∈ u_ws RX5 TX5 3, w ∈ wmX5_removeAll := fun w h => z_in (wi_wsX50 w h)
  have hl := lv_entry ([.ref q_t]) (n := 1) (Nat.le_of_ble_eq_true rfl)
  rw [lg_entry_eq]
  generalize (lg_sl ([.ref q_t]) ++ List.replicate (1 - (lg_sl ([.ref q_t])).length) Slot.unset).toArray = ls at hl ⊢
  have hl : lv_has ls 1 [(0, .ref q_t)] := hl
  refine lv_aload_n hx hb dX5_removeAll_0 rfl (lv_at hl 0 rfl) ?_
  refine lv_iconst (v := 0) hx hb dX5_removeAll_1 (by decide) ?_
  refine va_put (D := D) (ci := 4) (v := .int 0) (ty := .int) (C := RX5) (T := TX5) (N := 3) hx hb hts hw_2 tyX5 tyX5_ok nmX5 hown hK hP hD hS 0 rfl rfl 1 (by decide) hw_1 (fun _ h9 => h9) rfl (by decide +kernel) rfl rfl (Nat.le_of_ble_eq_true rfl) dX5_removeAll_2 (fun H locs hP hD hS => ?_)
  have hP : va_P D vwCl [(q_t, zX5 q_t_characters 0 v_t_reached)] H := hP
  have hD : va_D A [(q_t, zX5 q_t_characters 0 v_t_reached)] := hD
  exact W.vret hx hb hr (fun t ht hW => ⟨⟨(0), rfl, hw, ⟨by rw [ht]; exact hP, hD⟩⟩, hS.F ht⟩) hS.2.2 dX5_removeAll_5

def zvX5_byteAt (a0 : Int64) (a2 : Int32)  : Int32 := ((a0.toUInt64 >>> ((8 * a2).toInt64.toUInt64 &&& Int64.toUInt64 63)).toInt64 &&& 255).toInt32
abbrev zrX5_byteAt : Room := { frames := 0, cells := 0, slots := 0, locals := 0 }
set_option maxHeartbeats 4000000 in
set_option maxRecDepth 100000 in
theorem zkX5_byteAt (l : Launch)   (a0 : Int64) (a2 : Int32)  : Met l yX5_byteAt wmX5_byteAt zrX5_byteAt (zPreS [.long a0, .int a2]) (vp_Si (fun r => r = zvX5_byteAt a0 a2)) 0 0 (fun _ => False) := by
  refine Met.ofW (cc := cX5_byteAt) (maxL := 3) (ret := (some .int)) (by decide) rfl ?_
  intro p e s m args below meth c s₁ B hml hv
  obtain ⟨rfl, -⟩ := hv
  have hx := B.exec
  have hb := B.bytes
  have hr := B.returns
  have hts := atoms_spec (ws := wmX5_byteAt) B.pre
  have hown : s.vm.findClass RX5 = some m.cls := findClass_of_methodNamed B.named
  have hlocks := B.notSynchronized
  have hw_1 := hts _ (z_in wm_290)
  have hl := lv_entry ([.long a0, .int a2]) (n := 3) (Nat.le_of_ble_eq_true rfl)
  rw [lg_entry_eq]
  generalize (lg_sl ([.long a0, .int a2]) ++ List.replicate (3 - (lg_sl ([.long a0, .int a2])).length) Slot.unset).toArray = ls at hl ⊢
  have hl : lv_has ls 3 [(0, .long a0), (2, .int a2)] := hl
  refine lv_lload_n hx hb dX5_byteAt_0 rfl (lv_at hl 0 rfl) ?_
  refine lv_bipush (v := 8) hx hb dX5_byteAt_1 (by decide) ?_
  refine lv_iload_n hx hb dX5_byteAt_3 rfl (lv_at hl 1 rfl) ?_
  refine lv_imul hx hb dX5_byteAt_4 ?_
  refine lv_lushr hx hb dX5_byteAt_5 rfl ?_
  refine lv_ldc2 hx hb hown hw_1 dX5_byteAt_6 ?_
  refine lv_land hx hb dX5_byteAt_9 ?_
  refine lv_l2i hx hb dX5_byteAt_10 rfl ?_
  exact W.iret (v := ((a0.toUInt64 >>> ((8 * a2).toInt64.toUInt64 &&& Int64.toUInt64 63)).toInt64 &&& 255).toInt32) hx hb hr (fun t ht hW => ⟨_, rfl, (by rw [zvX5_byteAt]), ht⟩) (fun _ h => by cases h) dX5_byteAt_11

def wpX5_put (Q : (Int32) → (Nat → Int32) → Prop) (a1 : Int32)  (v_t_count : Int32) (f_t_characters : Nat → Int32) : Prop := ((320 ≤ v_t_count → Q v_t_count f_t_characters) ∧ (¬ 320 ≤ v_t_count → vp_in v_t_count 320 ∧ Q (v_t_count + 1) (upd f_t_characters v_t_count.toNatClampNeg (vp_nar .char a1))))
abbrev zrX5_put : Room := { frames := 0, cells := 0, slots := 0, locals := 0 }
set_option maxHeartbeats 4000000 in
set_option maxRecDepth 100000 in
theorem zkX5_put (l : Launch) (D : va_G) (cI cJ cC : ClassId) (q_t q_t_characters : Nat) (sz : Nat) (a1 : Int32) (v_t_count : Int32) (v_t_reached : Int32) (f_t_characters : Nat → Int32) {Q : (Int32) → (Nat → Int32) → Prop} (hw : wpX5_put Q a1 v_t_count f_t_characters) : Met l yX5_put wmX5_put zrX5_put (zPreW D (zT cI cJ cC) [(q_t, zX5 q_t_characters v_t_count v_t_reached), (q_t_characters, zI cC 320 f_t_characters)] sz [.ref q_t, .int a1]) (va_Qv (fun u : (Int32) × (Nat → Int32) => Q (u.1) (u.2)) (fun u t => zAt D (va_A [(q_t, zX5 q_t_characters v_t_count v_t_reached), (q_t_characters, zI cC 320 f_t_characters)] sz) [(q_t, zX5 q_t_characters (u.1) v_t_reached), (q_t_characters, zI cC 320 (u.2))] t) (va_A [(q_t, zX5 q_t_characters v_t_count v_t_reached), (q_t_characters, zI cC 320 f_t_characters)] sz)) 0 0 (va_A [(q_t, zX5 q_t_characters v_t_count v_t_reached), (q_t_characters, zI cC 320 f_t_characters)] sz) := by
  refine Met.ofW (cc := cX5_put) (maxL := 2) (ret := none) (by decide) rfl ?_
  intro p e s m args below meth c s₁ B hml hv
  obtain ⟨rfl, hsz, hP, hK, hD0⟩ := hv
  have hx := B.exec
  have hb := B.bytes
  have hr := B.returns
  have hts := atoms_spec (ws := wmX5_put) B.pre
  have hown : s.vm.findClass RX5 = some m.cls := findClass_of_methodNamed B.named
  have hlocks := B.notSynchronized
  subst hsz
  have hD := hD0.self (sz := s.heap.size)
  generalize hAe : va_A [(q_t, zX5 q_t_characters v_t_count v_t_reached), (q_t_characters, zI cC 320 f_t_characters)] s.heap.size = A at hD ⊢
  have hA : ∀ q : Nat, s.heap.size ≤ q → A q := fun q h => by rw [← hAe]; exact Or.inr h
  have hS : va_S A s.heap s.heap [] := va_S.rf
  have hP : va_P D vwCl [(q_t, zX5 q_t_characters v_t_count v_t_reached), (q_t_characters, zI cC 320 f_t_characters)] s.heap := hP
  have hw_1 := hts _ (z_in wm_284)
  have hw_2 : ∀ w ∈ u_ws RX5 TX5 3, w ∈ wmX5_put := fun w h => z_in (wi_wsX50 w h)
  have hw_3 := hts _ (z_in wm_283)
  have hl := lv_entry ([.ref q_t, .int a1]) (n := 2) (Nat.le_of_ble_eq_true rfl)
  rw [lg_entry_eq]
  generalize (lg_sl ([.ref q_t, .int a1]) ++ List.replicate (2 - (lg_sl ([.ref q_t, .int a1])).length) Slot.unset).toArray = ls at hl ⊢
  have hl : lv_has ls 2 [(0, .ref q_t), (1, .int a1)] := hl
  refine lv_aload_n hx hb dX5_put_0 rfl (lv_at hl 0 rfl) ?_
  refine va_get (D := D) (ci := 4) (v := .int v_t_count) (C := RX5) (T := TX5) (N := 3) hx hb hts hw_2 hown hK hP 0 rfl rfl 1 (by decide) hw_1 (fun _ h9 => h9) rfl dX5_put_1 ?_
  refine lv_sipush (v := 320) hx hb dX5_put_4 (by decide) ?_
  refine lv_icmp_ge (tgt := 30) hx hb dX5_put_7 (by decide) (fun c1 => ?_) (fun c1 => ?_)
  · have hw := hw.1 c1
    exact W.vret hx hb hr (fun t ht hW => ⟨⟨(v_t_count, f_t_characters), rfl, hw, ⟨by rw [ht]; exact hP, hD⟩⟩, hS.F ht⟩) hS.2.2 dX5_put_30
  · have hw := hw.2 c1
    refine lv_aload_n hx hb dX5_put_10 rfl (lv_at hl 0 rfl) ?_
    refine va_get (D := D) (ci := 4) (v := .ref q_t_characters) (C := RX5) (T := TX5) (N := 3) hx hb hts hw_2 hown hK hP 0 rfl rfl 0 (by decide) hw_3 (fun _ h9 => h9) rfl dX5_put_11 ?_
    refine lv_aload_n hx hb dX5_put_14 rfl (lv_at hl 0 rfl) ?_
    refine va_get (D := D) (ci := 4) (v := .int v_t_count) (C := RX5) (T := TX5) (N := 3) hx hb hts hw_2 hown hK hP 0 rfl rfl 1 (by decide) hw_1 (fun _ h9 => h9) rfl dX5_put_15 ?_
    refine lv_iload_n hx hb dX5_put_18 rfl (lv_at hl 1 rfl) ?_
    obtain ⟨h2, hw⟩ := hw
    refine va_cast hx hb hK hP hD hS 1 2 rfl rfl h2 dX5_put_19 (fun H locs hP hD hS => ?_)
    have hP : va_P D vwCl [(q_t, zX5 q_t_characters v_t_count v_t_reached), (q_t_characters, zI cC 320 (upd f_t_characters v_t_count.toNatClampNeg (vp_nar .char a1)))] H := hP
    have hD : va_D A [(q_t, zX5 q_t_characters v_t_count v_t_reached), (q_t_characters, zI cC 320 (upd f_t_characters v_t_count.toNatClampNeg (vp_nar .char a1)))] := hD
    refine lv_aload_n hx hb dX5_put_20 rfl (lv_at hl 0 rfl) ?_
    refine lv_dup hx hb dX5_put_21 rfl ?_
    refine va_get (D := D) (ci := 4) (v := .int v_t_count) (C := RX5) (T := TX5) (N := 3) hx hb hts hw_2 hown hK hP 0 rfl rfl 1 (by decide) hw_1 (fun _ h9 => h9) rfl dX5_put_22 ?_
    refine lv_iconst (v := 1) hx hb dX5_put_25 (by decide) ?_
    refine lv_iadd hx hb dX5_put_26 ?_
    refine va_put (D := D) (ci := 4) (v := .int (v_t_count + 1)) (ty := .int) (C := RX5) (T := TX5) (N := 3) hx hb hts hw_2 tyX5 tyX5_ok nmX5 hown hK hP hD hS 0 rfl rfl 1 (by decide) hw_1 (fun _ h9 => h9) rfl (by decide +kernel) rfl rfl (Nat.le_of_ble_eq_true rfl) dX5_put_27 (fun H locs hP hD hS => ?_)
    have hP : va_P D vwCl [(q_t, zX5 q_t_characters (v_t_count + 1) v_t_reached), (q_t_characters, zI cC 320 (upd f_t_characters v_t_count.toNatClampNeg (vp_nar .char a1)))] H := hP
    have hD : va_D A [(q_t, zX5 q_t_characters (v_t_count + 1) v_t_reached), (q_t_characters, zI cC 320 (upd f_t_characters v_t_count.toNatClampNeg (vp_nar .char a1)))] := hD
    exact W.vret hx hb hr (fun t ht hW => ⟨⟨((v_t_count + 1), (upd f_t_characters v_t_count.toNatClampNeg (vp_nar .char a1))), rfl, hw, ⟨by rw [ht]; exact hP, hD⟩⟩, hS.F ht⟩) hS.2.2 dX5_put_30

def wpX5_addBytes_69b (Q : Int32 → (Int32) → (Nat → Int32) → Prop)  (R_69 : (Int64) → (Int32) → (Int32) → (Nat → Int32) → Prop)  (x1 : Int64) (x4 : Int32) (v_t_count : Int32) (f_t_characters : Nat → Int32) : Prop := ((x4 < 0 → Q 1 v_t_count f_t_characters) ∧ (¬ x4 < 0 → wpX5_put (fun (u6 : Int32) (u7 : Nat → Int32) => R_69 x1 (x4 + (-1)) u6 u7) (((zvX5_byteAt x1 x4).toUInt32 % 65536).toInt32) v_t_count f_t_characters))
def wpX5_addBytes_69 (Q : Int32 → (Int32) → (Nat → Int32) → Prop)   : Nat → (Int64) → (Int32) → (Int32) → (Nat → Int32) → Prop
  | 0 => fun _ _ _ _ => False
  | n + 1 => fun x1 x4 v_t_count f_t_characters => wpX5_addBytes_69b Q  (wpX5_addBytes_69 Q   n)  x1 x4 v_t_count f_t_characters
def wpX5_addBytes_64 (Q : Int32 → (Int32) → (Nat → Int32) → Prop)   (x1 : Int64) (x3 : Int32) (v_t_count : Int32) (f_t_characters : Nat → Int32) : Prop := ∃ n : Nat, wpX5_addBytes_69 Q   n x1 (x3 - 1) v_t_count f_t_characters
def wpX5_addBytes_28b (Q : Int32 → (Int32) → (Nat → Int32) → Prop)  (R_28 : (Int64) → (Int32) → (Int32) → (Int32) → (Nat → Int32) → Prop)  (x1 : Int64) (x3 : Int32) (x4 : Int32) (v_t_count : Int32) (f_t_characters : Nat → Int32) : Prop := ((x3 ≤ x4 → wpX5_addBytes_64 Q   x1 x3 v_t_count f_t_characters) ∧ (¬ x3 ≤ x4 → (((zvX5_byteAt x1 x4) < 32 → Q 0 v_t_count f_t_characters) ∧ (¬ (zvX5_byteAt x1 x4) < 32 → (((zvX5_byteAt x1 x4) ≤ 126 → R_28 x1 x3 (x4 + 1) v_t_count f_t_characters) ∧ (¬ (zvX5_byteAt x1 x4) ≤ 126 → Q 0 v_t_count f_t_characters))))))
def wpX5_addBytes_28 (Q : Int32 → (Int32) → (Nat → Int32) → Prop)   : Nat → (Int64) → (Int32) → (Int32) → (Int32) → (Nat → Int32) → Prop
  | 0 => fun _ _ _ _ _ => False
  | n + 1 => fun x1 x3 x4 v_t_count f_t_characters => wpX5_addBytes_28b Q  (wpX5_addBytes_28 Q   n)  x1 x3 x4 v_t_count f_t_characters
def wpX5_addBytes (Q : Int32 → (Int32) → (Nat → Int32) → Prop) (a1 : Int64) (a3 : Int32)  (v_t_count : Int32) (f_t_characters : Nat → Int32) : Prop := ((a3 < 1 → Q 0 v_t_count f_t_characters) ∧ (¬ a3 < 1 → ((8 < a3 → Q 0 v_t_count f_t_characters) ∧ (¬ 8 < a3 → (((v_t_count + a3) ≤ 320 → ∃ n : Nat, wpX5_addBytes_28 Q   n a1 a3 0 v_t_count f_t_characters) ∧ (¬ (v_t_count + a3) ≤ 320 → Q 0 v_t_count f_t_characters))))))
abbrev zrX5_addBytes : Room := { frames := 1, cells := 0, slots := 0, locals := 22 }
set_option maxHeartbeats 4000000 in
set_option maxRecDepth 100000 in
theorem zkX5_addBytes (l : Launch) (D : va_G) (cI cJ cC : ClassId) (q_t q_t_characters : Nat) (sz : Nat) (a1 : Int64) (a3 : Int32) (v_t_count : Int32) (v_t_reached : Int32) (f_t_characters : Nat → Int32) {Q : Int32 → (Int32) → (Nat → Int32) → Prop} (hw : wpX5_addBytes Q a1 a3 v_t_count f_t_characters) : Met l yX5_addBytes wmX5_addBytes zrX5_addBytes (zPreW D (zT cI cJ cC) [(q_t, zX5 q_t_characters v_t_count v_t_reached), (q_t_characters, zI cC 320 f_t_characters)] sz [.ref q_t, .long a1, .int a3]) (va_Qi (fun (r : Int32) (u : (Int32) × (Nat → Int32)) => Q r (u.1) (u.2)) (fun u t => zAt D (va_A [(q_t, zX5 q_t_characters v_t_count v_t_reached), (q_t_characters, zI cC 320 f_t_characters)] sz) [(q_t, zX5 q_t_characters (u.1) v_t_reached), (q_t_characters, zI cC 320 (u.2))] t) (va_A [(q_t, zX5 q_t_characters v_t_count v_t_reached), (q_t_characters, zI cC 320 f_t_characters)] sz)) 0 0 (va_A [(q_t, zX5 q_t_characters v_t_count v_t_reached), (q_t_characters, zI cC 320 f_t_characters)] sz) := by
  refine Met.ofW (cc := cX5_addBytes) (maxL := 6) (ret := (some .boolean)) (by decide) rfl ?_
  intro p e s m args below meth c s₁ B hml hv
  obtain ⟨rfl, hsz, hP, hK, hD0⟩ := hv
  have hx := B.exec
  have hb := B.bytes
  have hr := B.returns
  have hts := atoms_spec (ws := wmX5_addBytes) B.pre
  have hown : s.vm.findClass RX5 = some m.cls := findClass_of_methodNamed B.named
  have hlocks := B.notSynchronized
  subst hsz
  have hD := hD0.self (sz := s.heap.size)
  generalize hAe : va_A [(q_t, zX5 q_t_characters v_t_count v_t_reached), (q_t_characters, zI cC 320 f_t_characters)] s.heap.size = A at hD ⊢
  have hA : ∀ q : Nat, s.heap.size ≤ q → A q := fun q h => by rw [← hAe]; exact Or.inr h
  have hS : va_S A s.heap s.heap [] := va_S.rf
  have hP : va_P D vwCl [(q_t, zX5 q_t_characters v_t_count v_t_reached), (q_t_characters, zI cC 320 f_t_characters)] s.heap := hP
  have hw_1 := hts _ (z_in wm_284)
  have hw_2 : ∀ w ∈ u_ws RX5 TX5 3, w ∈ wmX5_addBytes := fun w h => z_in (wi_wsX50 w h)
  have hl := lv_entry ([.ref q_t, .long a1, .int a3]) (n := 6) (Nat.le_of_ble_eq_true rfl)
  rw [lg_entry_eq]
  generalize (lg_sl ([.ref q_t, .long a1, .int a3]) ++ List.replicate (6 - (lg_sl ([.ref q_t, .long a1, .int a3])).length) Slot.unset).toArray = ls at hl ⊢
  have hl : lv_has ls 6 [(0, .ref q_t), (1, .long a1), (3, .int a3)] := hl
  have L_69 : ∀ (n : Nat), ∀ (x1 : Int64) (x4 : Int32) (v_t_count : Int32) (f_t_characters : Nat → Int32) (H : Heap) (locs : List Loc) (ls : Array Slot), va_P D vwCl [(q_t, zX5 q_t_characters v_t_count v_t_reached), (q_t_characters, zI cC 320 f_t_characters)] H → va_D A [(q_t, zX5 q_t_characters v_t_count v_t_reached), (q_t_characters, zI cC 320 f_t_characters)] → va_S A s.heap H locs → lv_has ls 6 [(0, .ref q_t), (1, .long x1), (4, .int x4)] → wpX5_addBytes_69 Q   n x1 x4 v_t_count f_t_characters → W p l e (headSpec wmX5_addBytes zrX5_addBytes).room s m ([.ref q_t, .long a1, .int a3] : List Value).toArray below meth c H locs 0 0 (MQ below (va_Qi (fun (r : Int32) (u : (Int32) × (Nat → Int32)) => Q r (u.1) (u.2)) (fun u t => zAt D A [(q_t, zX5 q_t_characters (u.1) v_t_reached), (q_t_characters, zI cC 320 (u.2))] t) A) ([.ref q_t, .long a1, .int a3] : List Value).toArray s 0 0 A) (F0 m 69 ls []) := by
    intro n
    induction n with
    | zero => intro x1 x4 v_t_count f_t_characters H locs ls hP hD hS hl hw; exact False.elim hw
    | succ n_69 ih_69 =>
      intro x1 x4 v_t_count f_t_characters H locs ls hP hD hS hl hw
      have hw : wpX5_addBytes_69b Q  (wpX5_addBytes_69 Q   n_69)  x1 x4 v_t_count f_t_characters := hw
      refine lv_iload hx hb dX5_addBytes_69 (lv_at hl 2 rfl) ?_
      refine lv_if_lt (tgt := 91) hx hb dX5_addBytes_71 (by decide) (fun c5 => ?_) (fun c5 => ?_)
      · have hw := hw.1 c5
        refine lv_iconst (v := 1) hx hb dX5_addBytes_91 (by decide) ?_
        exact W.zret (v := 1) hx hb hr (by decide) (fun t ht hW => ⟨⟨1, (v_t_count, f_t_characters), rfl, hw, ⟨by rw [ht]; exact hP, hD⟩⟩, hS.F ht⟩) hS.2.2 dX5_addBytes_92
      · have hw := hw.2 c5
        refine lv_aload_n hx hb dX5_addBytes_74 rfl (lv_at hl 0 rfl) ?_
        refine lv_lload_n hx hb dX5_addBytes_75 rfl (lv_at hl 1 rfl) ?_
        refine lv_iload hx hb dX5_addBytes_76 (lv_at hl 2 rfl) ?_
        refine z_vi (va_runS (As := [.long x1, .int x4]) (rest := [.ref q_t]) ⟨hx, hb, hml, hown, hts⟩ (zkX5_byteAt l   x1 x4 ) (va_cwS 2 hts (z_gS wm_293 wm_294 wm_295 wm_289) rfl rfl rfl (by decide +kernel) ⟨Nat.le_of_ble_eq_true rfl, Nat.le_of_ble_eq_true rfl⟩) z_psS rfl rfl hl.1 rfl (lv_room (Nat.le_of_ble_eq_true rfl)) dX5_addBytes_78 ⟨Nat.zero_le _, Nat.zero_le _⟩) ?_
        refine lv_i2c hx hb dX5_addBytes_81 rfl ?_
        refine z_wv (wc := [(q_t, zX5 q_t_characters v_t_count v_t_reached), (q_t_characters, zI cC 320 f_t_characters)]) (wr := []) (W1 := fun u : (Int32) × (Nat → Int32) => [(q_t, zX5 q_t_characters (u.1) v_t_reached), (q_t_characters, zI cC 320 (u.2))]) (va_runV (As := [.int ((zvX5_byteAt x1 x4).toUInt32 % 65536).toInt32]) (rest := []) ⟨hx, hb, hml, hown, hts⟩ (zkX5_put l D cI cJ cC q_t q_t_characters _ (((zvX5_byteAt x1 x4).toUInt32 % 65536).toInt32) v_t_count v_t_reached f_t_characters hw) (cwV 1 hts (z_gV wm_296 wm_297 wm_298 wm_295 wm_291) rfl rfl rfl (by decide +kernel) ⟨Nat.le_of_ble_eq_true rfl, Nat.le_of_ble_eq_true rfl⟩) (z_pvW hK hP hD [0, 1] rfl (by decide) rfl 0 4 rfl rfl) rfl rfl hl.1 rfl (lv_room (Nat.le_of_ble_eq_true rfl)) dX5_addBytes_82 ⟨Nat.zero_le _, Nat.zero_le _⟩) hP hD hS hA [0, 1] [] rfl rfl (by decide) (by decide) (fun u9 H locs hw hP hD hS => ?_)
        obtain ⟨u6, u7⟩ := u9
        have hP : va_P D vwCl [(q_t, zX5 q_t_characters u6 v_t_reached), (q_t_characters, zI cC 320 u7)] H := hP
        have hD : va_D A [(q_t, zX5 q_t_characters u6 v_t_reached), (q_t_characters, zI cC 320 u7)] := hD
        try dsimp only at hw
        refine lv_iinc (v := (x4 + (-1))) (lv' := [(4, .int (x4 + (-1))), (0, .ref q_t), (1, .long x1)]) hx hb dX5_addBytes_85 hl (k := 2) rfl rfl (by decide) rfl (fun ls hl => ?_)
        refine lv_goto (tgt := 69) hx hb dX5_addBytes_88 (by decide) ?_
        exact ih_69 x1 (x4 + (-1)) u6 u7 _ _ _ hP hD hS (lv_sub hl [1, 2, 0] rfl) hw
  have J_64 : ∀ (x1 : Int64) (x3 : Int32) (v_t_count : Int32) (f_t_characters : Nat → Int32) (H : Heap) (locs : List Loc) (ls : Array Slot), va_P D vwCl [(q_t, zX5 q_t_characters v_t_count v_t_reached), (q_t_characters, zI cC 320 f_t_characters)] H → va_D A [(q_t, zX5 q_t_characters v_t_count v_t_reached), (q_t_characters, zI cC 320 f_t_characters)] → va_S A s.heap H locs → lv_has ls 6 [(0, .ref q_t), (1, .long x1), (3, .int x3)] → wpX5_addBytes_64 Q   x1 x3 v_t_count f_t_characters → W p l e (headSpec wmX5_addBytes zrX5_addBytes).room s m ([.ref q_t, .long a1, .int a3] : List Value).toArray below meth c H locs 0 0 (MQ below (va_Qi (fun (r : Int32) (u : (Int32) × (Nat → Int32)) => Q r (u.1) (u.2)) (fun u t => zAt D A [(q_t, zX5 q_t_characters (u.1) v_t_reached), (q_t_characters, zI cC 320 (u.2))] t) A) ([.ref q_t, .long a1, .int a3] : List Value).toArray s 0 0 A) (F0 m 64 ls []) := by
    intro x1 x3 v_t_count f_t_characters H locs ls hP hD hS hl hw
    unfold wpX5_addBytes_64 at hw
    refine lv_iload_n hx hb dX5_addBytes_64 rfl (lv_at hl 2 rfl) ?_
    refine lv_iconst (v := 1) hx hb dX5_addBytes_65 (by decide) ?_
    refine lv_isub hx hb dX5_addBytes_66 ?_
    refine lv_istore (lv' := [(4, .int (x3 - 1)), (0, .ref q_t), (1, .long x1), (3, .int x3)]) hx hb dX5_addBytes_67 hl (by decide) rfl (fun ls hl => ?_)
    obtain ⟨n_69, hw⟩ := hw
    exact L_69 n_69 x1 (x3 - 1) v_t_count f_t_characters _ _ _ hP hD hS (lv_sub hl [1, 2, 0] rfl) hw
  have L_28 : ∀ (n : Nat), ∀ (x1 : Int64) (x3 : Int32) (x4 : Int32) (v_t_count : Int32) (f_t_characters : Nat → Int32) (H : Heap) (locs : List Loc) (ls : Array Slot), va_P D vwCl [(q_t, zX5 q_t_characters v_t_count v_t_reached), (q_t_characters, zI cC 320 f_t_characters)] H → va_D A [(q_t, zX5 q_t_characters v_t_count v_t_reached), (q_t_characters, zI cC 320 f_t_characters)] → va_S A s.heap H locs → lv_has ls 6 [(0, .ref q_t), (1, .long x1), (3, .int x3), (4, .int x4)] → wpX5_addBytes_28 Q   n x1 x3 x4 v_t_count f_t_characters → W p l e (headSpec wmX5_addBytes zrX5_addBytes).room s m ([.ref q_t, .long a1, .int a3] : List Value).toArray below meth c H locs 0 0 (MQ below (va_Qi (fun (r : Int32) (u : (Int32) × (Nat → Int32)) => Q r (u.1) (u.2)) (fun u t => zAt D A [(q_t, zX5 q_t_characters (u.1) v_t_reached), (q_t_characters, zI cC 320 (u.2))] t) A) ([.ref q_t, .long a1, .int a3] : List Value).toArray s 0 0 A) (F0 m 28 ls []) := by
    intro n
    induction n with
    | zero => intro x1 x3 x4 v_t_count f_t_characters H locs ls hP hD hS hl hw; exact False.elim hw
    | succ n_28 ih_28 =>
      intro x1 x3 x4 v_t_count f_t_characters H locs ls hP hD hS hl hw
      have hw : wpX5_addBytes_28b Q  (wpX5_addBytes_28 Q   n_28)  x1 x3 x4 v_t_count f_t_characters := hw
      refine lv_iload hx hb dX5_addBytes_28 (lv_at hl 3 rfl) ?_
      refine lv_iload_n hx hb dX5_addBytes_30 rfl (lv_at hl 2 rfl) ?_
      refine lv_icmp_ge (tgt := 64) hx hb dX5_addBytes_31 (by decide) (fun c4 => ?_) (fun c4 => ?_)
      · have hw := hw.1 c4
        exact J_64 x1 x3 v_t_count f_t_characters _ _ _ hP hD hS (lv_sub hl [0, 1, 2] rfl) hw
      · have hw := hw.2 c4
        refine lv_lload_n hx hb dX5_addBytes_34 rfl (lv_at hl 1 rfl) ?_
        refine lv_iload hx hb dX5_addBytes_35 (lv_at hl 3 rfl) ?_
        refine z_vi (va_runS (As := [.long x1, .int x4]) (rest := []) ⟨hx, hb, hml, hown, hts⟩ (zkX5_byteAt l   x1 x4 ) (va_cwS 2 hts (z_gS wm_293 wm_294 wm_295 wm_289) rfl rfl rfl (by decide +kernel) ⟨Nat.le_of_ble_eq_true rfl, Nat.le_of_ble_eq_true rfl⟩) z_psS rfl rfl hl.1 rfl (lv_room (Nat.le_of_ble_eq_true rfl)) dX5_addBytes_37 ⟨Nat.zero_le _, Nat.zero_le _⟩) ?_
        refine lv_istore (lv' := [(5, .int (zvX5_byteAt x1 x4)), (0, .ref q_t), (1, .long x1), (3, .int x3), (4, .int x4)]) hx hb dX5_addBytes_40 hl (by decide) rfl (fun ls hl => ?_)
        refine lv_iload hx hb dX5_addBytes_42 (lv_at hl 0 rfl) ?_
        refine lv_bipush (v := 32) hx hb dX5_addBytes_44 (by decide) ?_
        refine lv_icmp_lt (tgt := 56) hx hb dX5_addBytes_46 (by decide) (fun c8 => ?_) (fun c8 => ?_)
        · have hw := hw.1 c8
          refine lv_iconst (v := 0) hx hb dX5_addBytes_56 (by decide) ?_
          exact W.zret (v := 0) hx hb hr (by decide) (fun t ht hW => ⟨⟨0, (v_t_count, f_t_characters), rfl, hw, ⟨by rw [ht]; exact hP, hD⟩⟩, hS.F ht⟩) hS.2.2 dX5_addBytes_57
        · have hw := hw.2 c8
          refine lv_iload hx hb dX5_addBytes_49 (lv_at hl 0 rfl) ?_
          refine lv_bipush (v := 126) hx hb dX5_addBytes_51 (by decide) ?_
          refine lv_icmp_le (tgt := 58) hx hb dX5_addBytes_53 (by decide) (fun c9 => ?_) (fun c9 => ?_)
          · have hw := hw.1 c9
            refine lv_iinc (v := (x4 + 1)) (lv' := [(4, .int (x4 + 1)), (5, .int (zvX5_byteAt x1 x4)), (0, .ref q_t), (1, .long x1), (3, .int x3)]) hx hb dX5_addBytes_58 hl (k := 4) rfl rfl (by decide) rfl (fun ls hl => ?_)
            refine lv_goto (tgt := 28) hx hb dX5_addBytes_61 (by decide) ?_
            exact ih_28 x1 x3 (x4 + 1) v_t_count f_t_characters _ _ _ hP hD hS (lv_sub hl [2, 3, 4, 0] rfl) hw
          · have hw := hw.2 c9
            refine lv_iconst (v := 0) hx hb dX5_addBytes_56 (by decide) ?_
            exact W.zret (v := 0) hx hb hr (by decide) (fun t ht hW => ⟨⟨0, (v_t_count, f_t_characters), rfl, hw, ⟨by rw [ht]; exact hP, hD⟩⟩, hS.F ht⟩) hS.2.2 dX5_addBytes_57
  refine lv_iload_n hx hb dX5_addBytes_0 rfl (lv_at hl 2 rfl) ?_
  refine lv_iconst (v := 1) hx hb dX5_addBytes_1 (by decide) ?_
  refine lv_icmp_lt (tgt := 23) hx hb dX5_addBytes_2 (by decide) (fun c1 => ?_) (fun c1 => ?_)
  · have hw := hw.1 c1
    refine lv_iconst (v := 0) hx hb dX5_addBytes_23 (by decide) ?_
    exact W.zret (v := 0) hx hb hr (by decide) (fun t ht hW => ⟨⟨0, (v_t_count, f_t_characters), rfl, hw, ⟨by rw [ht]; exact hP, hD⟩⟩, hS.F ht⟩) hS.2.2 dX5_addBytes_24
  · have hw := hw.2 c1
    refine lv_iload_n hx hb dX5_addBytes_5 rfl (lv_at hl 2 rfl) ?_
    refine lv_bipush (v := 8) hx hb dX5_addBytes_6 (by decide) ?_
    refine lv_icmp_gt (tgt := 23) hx hb dX5_addBytes_8 (by decide) (fun c2 => ?_) (fun c2 => ?_)
    · have hw := hw.1 c2
      refine lv_iconst (v := 0) hx hb dX5_addBytes_23 (by decide) ?_
      exact W.zret (v := 0) hx hb hr (by decide) (fun t ht hW => ⟨⟨0, (v_t_count, f_t_characters), rfl, hw, ⟨by rw [ht]; exact hP, hD⟩⟩, hS.F ht⟩) hS.2.2 dX5_addBytes_24
    · have hw := hw.2 c2
      refine lv_aload_n hx hb dX5_addBytes_11 rfl (lv_at hl 0 rfl) ?_
      refine va_get (D := D) (ci := 4) (v := .int v_t_count) (C := RX5) (T := TX5) (N := 3) hx hb hts hw_2 hown hK hP 0 rfl rfl 1 (by decide) hw_1 (fun _ h9 => h9) rfl dX5_addBytes_12 ?_
      refine lv_iload_n hx hb dX5_addBytes_15 rfl (lv_at hl 2 rfl) ?_
      refine lv_iadd hx hb dX5_addBytes_16 ?_
      refine lv_sipush (v := 320) hx hb dX5_addBytes_17 (by decide) ?_
      refine lv_icmp_le (tgt := 25) hx hb dX5_addBytes_20 (by decide) (fun c3 => ?_) (fun c3 => ?_)
      · have hw := hw.1 c3
        refine lv_iconst (v := 0) hx hb dX5_addBytes_25 (by decide) ?_
        refine lv_istore (lv' := [(4, .int 0), (0, .ref q_t), (1, .long a1), (3, .int a3)]) hx hb dX5_addBytes_26 hl (by decide) rfl (fun ls hl => ?_)
        obtain ⟨n_28, hw⟩ := hw
        exact L_28 n_28 a1 a3 0 v_t_count f_t_characters _ _ _ hP hD hS (lv_sub hl [1, 2, 3, 0] rfl) hw
      · have hw := hw.2 c3
        refine lv_iconst (v := 0) hx hb dX5_addBytes_23 (by decide) ?_
        exact W.zret (v := 0) hx hb hr (by decide) (fun t ht hW => ⟨⟨0, (v_t_count, f_t_characters), rfl, hw, ⟨by rw [ht]; exact hP, hD⟩⟩, hS.F ht⟩) hS.2.2 dX5_addBytes_24
