/-! Walks, written by wip/whole/gen.py out of the listing of the class. -/
def zvX5_count  (v_t_count : Int32) : Int32 := v_t_count
abbrev zrX5_count : Room := { frames := 0, cells := 0, slots := 0, locals := 0 }
set_option maxHeartbeats 4000000 in
set_option maxRecDepth 100000 in
theorem zkX5_count (l : Launch) (D : va_G) (cI cJ cC : ClassId) (q_t q_t_characters : Nat)  (v_t_count : Int32) (v_t_reached : Int32) : Met l yX5_count wmX5_count zrX5_count (zPreR D (zT cI cJ cC) [(q_t, zX5 q_t_characters v_t_count v_t_reached)] [.ref q_t]) (vp_Si (fun r => r = zvX5_count v_t_count)) 0 0 (fun _ => False) := by
  refine Met.ofW (cc := cX5_count) (maxL := 1) (ret := (some .int)) (by decide) rfl ?_
  intro p e s m args below meth c s₁ B hml hv
  obtain ⟨rfl, hP, hK⟩ := hv
  have hx := B.exec
  have hb := B.bytes
  have hr := B.returns
  have hts := atoms_spec (ws := wmX5_count) B.pre
  have hown : s.vm.findClass RX5 = some m.cls := findClass_of_methodNamed B.named
  have hlocks := B.notSynchronized
  have hw_1 := hts _ (z_in wm_284)
  have hw_2 : ∀ w ∈ u_ws RX5 TX5 3, w ∈ wmX5_count := fun w h => z_in (wi_wsX50 w h)
  have hl := lv_entry ([.ref q_t]) (n := 1) (Nat.le_of_ble_eq_true rfl)
  rw [lg_entry_eq]
  generalize (lg_sl ([.ref q_t]) ++ List.replicate (1 - (lg_sl ([.ref q_t])).length) Slot.unset).toArray = ls at hl ⊢
  have hl : lv_has ls 1 [(0, .ref q_t)] := hl
  refine lv_aload_n hx hb dX5_count_0 rfl (lv_at hl 0 rfl) ?_
  refine va_get (D := D) (ci := 4) (v := .int v_t_count) (C := RX5) (T := TX5) (N := 3) hx hb hts hw_2 hown hK hP 0 rfl rfl 1 (by decide) hw_1 (fun _ h9 => h9) rfl dX5_count_1 ?_
  exact W.iret (v := v_t_count) hx hb hr (fun t ht hW => ⟨_, rfl, (by rw [zvX5_count]), ht⟩) (fun _ h => by cases h) dX5_count_4

def wpX5_at (Q : Int32 → Prop) (a1 : Int32) (v_t_count : Int32) (f_t_characters : Nat → Int32)  : Prop := ((a1 < 0 → Q (-1)) ∧ (¬ a1 < 0 → ((v_t_count ≤ a1 → Q (-1)) ∧ (¬ v_t_count ≤ a1 → vp_in a1 320 ∧ Q (f_t_characters a1.toNatClampNeg)))))
abbrev zrX5_at : Room := { frames := 0, cells := 0, slots := 0, locals := 0 }
set_option maxHeartbeats 4000000 in
set_option maxRecDepth 100000 in
theorem zkX5_at (l : Launch) (D : va_G) (cI cJ cC : ClassId) (q_t q_t_characters : Nat) (a1 : Int32) (v_t_count : Int32) (v_t_reached : Int32) (f_t_characters : Nat → Int32) {Q : Int32 → Prop} (hw : wpX5_at Q a1 v_t_count f_t_characters) : Met l yX5_at wmX5_at zrX5_at (zPreR D (zT cI cJ cC) [(q_t, zX5 q_t_characters v_t_count v_t_reached), (q_t_characters, zI cC 320 f_t_characters)] [.ref q_t, .int a1]) (vp_Si (fun r => Q r)) 0 0 (fun _ => False) := by
  refine Met.ofW (cc := cX5_at) (maxL := 2) (ret := (some .int)) (by decide) rfl ?_
  intro p e s m args below meth c s₁ B hml hv
  obtain ⟨rfl, hP, hK⟩ := hv
  have hx := B.exec
  have hb := B.bytes
  have hr := B.returns
  have hts := atoms_spec (ws := wmX5_at) B.pre
  have hown : s.vm.findClass RX5 = some m.cls := findClass_of_methodNamed B.named
  have hlocks := B.notSynchronized
  have hw_1 := hts _ (z_in wm_284)
  have hw_2 : ∀ w ∈ u_ws RX5 TX5 3, w ∈ wmX5_at := fun w h => z_in (wi_wsX50 w h)
  have hw_3 := hts _ (z_in wm_283)
  have hl := lv_entry ([.ref q_t, .int a1]) (n := 2) (Nat.le_of_ble_eq_true rfl)
  rw [lg_entry_eq]
  generalize (lg_sl ([.ref q_t, .int a1]) ++ List.replicate (2 - (lg_sl ([.ref q_t, .int a1])).length) Slot.unset).toArray = ls at hl ⊢
  have hl : lv_has ls 2 [(0, .ref q_t), (1, .int a1)] := hl
  refine lv_iload_n hx hb dX5_at_0 rfl (lv_at hl 1 rfl) ?_
  refine lv_if_lt (tgt := 21) hx hb dX5_at_1 (by decide) (fun c1 => ?_) (fun c1 => ?_)
  · have hw := hw.1 c1
    refine lv_iconst (v := -1) hx hb dX5_at_21 (by decide) ?_
    exact W.iret (v := (-1)) hx hb hr (fun t ht hW => ⟨_, rfl, hw, ht⟩) (fun _ h => by cases h) dX5_at_22
  · have hw := hw.2 c1
    refine lv_iload_n hx hb dX5_at_4 rfl (lv_at hl 1 rfl) ?_
    refine lv_aload_n hx hb dX5_at_5 rfl (lv_at hl 0 rfl) ?_
    refine va_get (D := D) (ci := 4) (v := .int v_t_count) (C := RX5) (T := TX5) (N := 3) hx hb hts hw_2 hown hK hP 0 rfl rfl 1 (by decide) hw_1 (fun _ h9 => h9) rfl dX5_at_6 ?_
    refine lv_icmp_ge (tgt := 21) hx hb dX5_at_9 (by decide) (fun c2 => ?_) (fun c2 => ?_)
    · have hw := hw.1 c2
      refine lv_iconst (v := -1) hx hb dX5_at_21 (by decide) ?_
      exact W.iret (v := (-1)) hx hb hr (fun t ht hW => ⟨_, rfl, hw, ht⟩) (fun _ h => by cases h) dX5_at_22
    · have hw := hw.2 c2
      refine lv_aload_n hx hb dX5_at_12 rfl (lv_at hl 0 rfl) ?_
      refine va_get (D := D) (ci := 4) (v := .ref q_t_characters) (C := RX5) (T := TX5) (N := 3) hx hb hts hw_2 hown hK hP 0 rfl rfl 0 (by decide) hw_3 (fun _ h9 => h9) rfl dX5_at_13 ?_
      refine lv_iload_n hx hb dX5_at_16 rfl (lv_at hl 1 rfl) ?_
      obtain ⟨h3, hw⟩ := hw
      refine va_cald hx hb hK hP 1 2 rfl rfl h3 dX5_at_17 ?_
      refine lv_goto (tgt := 22) hx hb dX5_at_18 (by decide) ?_
      exact W.iret (v := (f_t_characters a1.toNatClampNeg)) hx hb hr (fun t ht hW => ⟨_, rfl, hw, ht⟩) (fun _ h => by cases h) dX5_at_22

def wpX5_removeAll (Q : (Int32) → Prop)   (v_t_count : Int32) : Prop := Q 0
abbrev zrX5_removeAll : Room := { frames := 0, cells := 0, slots := 0, locals := 0 }
set_option maxHeartbeats 4000000 in
set_option maxRecDepth 100000 in
theorem zkX5_removeAll (l : Launch) (D : va_G) (cI cJ cC : ClassId) (q_t q_t_characters : Nat) (sz : Nat)  (v_t_count : Int32) (v_t_reached : Int32) {Q : (Int32) → Prop} (hw : wpX5_removeAll Q v_t_count) : Met l yX5_removeAll wmX5_removeAll zrX5_removeAll (zPreW D (zT cI cJ cC) [(q_t, zX5 q_t_characters v_t_count v_t_reached)] sz [.ref q_t]) (va_Qv (fun u : (Int32) => Q u) (fun u t => zAt D (va_A [(q_t, zX5 q_t_characters v_t_count v_t_reached)] sz) [(q_t, zX5 q_t_characters u v_t_reached)] t) (va_A [(q_t, zX5 q_t_characters v_t_count v_t_reached)] sz)) 0 0 (va_A [(q_t, zX5 q_t_characters v_t_count v_t_reached)] sz) := by
  refine Met.ofW (cc := cX5_removeAll) (maxL := 1) (ret := none) (by decide) rfl ?_
  intro p e s m args below meth c s₁ B hml hv
  obtain ⟨rfl, hsz, hP, hK, hD0⟩ := hv
  have hx := B.exec
  have hb := B.bytes
  have hr := B.returns
  have hts := atoms_spec (ws := wmX5_removeAll) B.pre
  have hown : s.vm.findClass RX5 = some m.cls := findClass_of_methodNamed B.named
  have hlocks := B.notSynchronized
  subst hsz
  have hD := hD0.self (sz := s.heap.size)
  generalize hAe : va_A [(q_t, zX5 q_t_characters v_t_count v_t_reached)] s.heap.size = A at hD ⊢
  have hA : ∀ q : Nat, s.heap.size ≤ q → A q := fun q h => by rw [← hAe]; exact Or.inr h
  have hS : va_S A s.heap s.heap [] := va_S.rf
  have hP : va_P D vwCl [(q_t, zX5 q_t_characters v_t_count v_t_reached)] s.heap := hP
  have hw_1 := hts _ (z_in wm_284)
  have hw_2 : ∀ w ∈ u_ws RX5 TX5 3, w ∈ wmX5_removeAll := fun w h => z_in (wi_wsX50 w h)
  have hl := lv_entry ([.ref q_t]) (n := 1) (Nat.le_of_ble_eq_true rfl)
  rw [lg_entry_eq]
  generalize (lg_sl ([.ref q_t]) ++ List.replicate (1 - (lg_sl ([.ref q_t])).length) Slot.unset).toArray = ls at hl ⊢
  have hl : lv_has ls 1 [(0, .ref q_t)] := hl
  refine lv_aload_n hx hb dX5_removeAll_0 rfl (lv_at hl 0 rfl) ?_
  refine lv_iconst (v := 0) hx hb dX5_removeAll_1 (by decide) ?_
  refine va_put (D := D) (ci := 4) (v := .int 0) (ty := .int) (C := RX5) (T := TX5) (N := 3) hx hb hts hw_2 tyX5 tyX5_ok nmX5 hown hK hP hD hS 0 rfl rfl 1 (by decide) hw_1 (fun _ h9 => h9) rfl (by decide +kernel) rfl rfl (Nat.le_of_ble_eq_true rfl) dX5_removeAll_2 (fun H locs hP hD hS => ?_)
  have hP : va_P D vwCl [(q_t, zX5 q_t_characters 0 v_t_reached)] H := hP
  have hD : va_D A [(q_t, zX5 q_t_characters 0 v_t_reached)] := hD
  exact W.vret hx hb hr (fun t ht hW => ⟨⟨(0), rfl, hw, ⟨by rw [ht]; exact hP, hD⟩⟩, hS.F ht⟩) hS.2.2 dX5_removeAll_5

def zvX5_byteAt (a0 : Int64) (a2 : Int32)  : Int32 := ((a0.toUInt64 >>> ((8 * a2).toInt64.toUInt64 &&& Int64.toUInt64 63)).toInt64 &&& 255).toInt32
abbrev zrX5_byteAt : Room := { frames := 0, cells := 0, slots := 0, locals := 0 }
set_option maxHeartbeats 4000000 in
set_option maxRecDepth 100000 in
theorem zkX5_byteAt (l : Launch)   (a0 : Int64) (a2 : Int32)  : Met l yX5_byteAt wmX5_byteAt zrX5_byteAt (zPreS [.long a0, .int a2]) (vp_Si (fun r => r = zvX5_byteAt a0 a2)) 0 0 (fun _ => False) := by
  refine Met.ofW (cc := cX5_byteAt) (maxL := 3) (ret := (some .int)) (by decide) rfl ?_
  intro p e s m args below meth c s₁ B hml hv
  obtain ⟨rfl, -⟩ := hv
  have hx := B.exec
  have hb := B.bytes
  have hr := B.returns
  have hts := atoms_spec (ws := wmX5_byteAt) B.pre
  have hown : s.vm.findClass RX5 = some m.cls := findClass_of_methodNamed B.named
  have hlocks := B.notSynchronized
  have hw_1 := hts _ (z_in wm_290)
  have hl := lv_entry ([.long a0, .int a2]) (n := 3) (Nat.le_of_ble_eq_true rfl)
  rw [lg_entry_eq]
  generalize (lg_sl ([.long a0, .int a2]) ++ List.replicate (3 - (lg_sl ([.long a0, .int a2])).length) Slot.unset).toArray = ls at hl ⊢
  have hl : lv_has ls 3 [(0, .long a0), (2, .int a2)] := hl
  refine lv_lload_n hx hb dX5_byteAt_0 rfl (lv_at hl 0 rfl) ?_
  refine lv_bipush (v := 8) hx hb dX5_byteAt_1 (by decide) ?_
  refine lv_iload_n hx hb dX5_byteAt_3 rfl (lv_at hl 1 rfl) ?_
  refine lv_imul hx hb dX5_byteAt_4 ?_
  refine lv_lushr hx hb dX5_byteAt_5 rfl ?_
  refine lv_ldc2 hx hb hown hw_1 dX5_byteAt_6 ?_
  refine lv_land hx hb dX5_byteAt_9 ?_
  refine lv_l2i hx hb dX5_byteAt_10 rfl ?_
  exact W.iret (v := ((a0.toUInt64 >>> ((8 * a2).toInt64.toUInt64 &&& Int64.toUInt64 63)).toInt64 &&& 255).toInt32) hx hb hr (fun t ht hW => ⟨_, rfl, (by rw [zvX5_byteAt]), ht⟩) (fun _ h => by cases h) dX5_byteAt_11

def wpX5_put (Q : (Int32) → (Nat → Int32) → Prop) (a1 : Int32)  (v_t_count : Int32) (f_t_characters : Nat → Int32) : Prop := ((320 ≤ v_t_count → Q v_t_count f_t_characters) ∧ (¬ 320 ≤ v_t_count → vp_in v_t_count 320 ∧ Q (v_t_count + 1) (upd f_t_characters v_t_count.toNatClampNeg (vp_nar .char a1))))
abbrev zrX5_put : Room := { frames := 0, cells := 0, slots := 0, locals := 0 }
set_option maxHeartbeats 4000000 in
set_option maxRecDepth 100000 in
theorem zkX5_put (l : Launch) (D : va_G) (cI cJ cC : ClassId) (q_t q_t_characters : Nat) (sz : Nat) (a1 : Int32) (v_t_count : Int32) (v_t_reached : Int32) (f_t_characters : Nat → Int32) {Q : (Int32) → (Nat → Int32) → Prop} (hw : wpX5_put Q a1 v_t_count f_t_characters) : Met l yX5_put wmX5_put zrX5_put (zPreW D (zT cI cJ cC) [(q_t, zX5 q_t_characters v_t_count v_t_reached), (q_t_characters, zI cC 320 f_t_characters)] sz [.ref q_t, .int a1]) (va_Qv (fun u : (Int32) × (Nat → Int32) => Q (u.1) (u.2)) (fun u t => zAt D (va_A [(q_t, zX5 q_t_characters v_t_count v_t_reached), (q_t_characters, zI cC 320 f_t_characters)] sz) [(q_t, zX5 q_t_characters (u.1) v_t_reached), (q_t_characters, zI cC 320 (u.2))] t) (va_A [(q_t, zX5 q_t_characters v_t_count v_t_reached), (q_t_characters, zI cC 320 f_t_characters)] sz)) 0 0 (va_A [(q_t, zX5 q_t_characters v_t_count v_t_reached), (q_t_characters, zI cC 320 f_t_characters)] sz) := by
  refine Met.ofW (cc := cX5_put) (maxL := 2) (ret := none) (by decide) rfl ?_
  intro p e s m args below meth c s₁ B hml hv
  obtain ⟨rfl, hsz, hP, hK, hD0⟩ := hv
  have hx := B.exec
  have hb := B.bytes
  have hr := B.returns
  have hts := atoms_spec (ws := wmX5_put) B.pre
  have hown : s.vm.findClass RX5 = some m.cls := findClass_of_methodNamed B.named
  have hlocks := B.notSynchronized
  subst hsz
  have hD := hD0.self (sz := s.heap.size)
  generalize hAe : va_A [(q_t, zX5 q_t_characters v_t_count v_t_reached), (q_t_characters, zI cC 320 f_t_characters)] s.heap.size = A at hD ⊢
  have hA : ∀ q : Nat, s.heap.size ≤ q → A q := fun q h => by rw [← hAe]; exact Or.inr h
  have hS : va_S A s.heap s.heap [] := va_S.rf
  have hP : va_P D vwCl [(q_t, zX5 q_t_characters v_t_count v_t_reached), (q_t_characters, zI cC 320 f_t_characters)] s.heap := hP
  have hw_1 := hts _ (z_in wm_284)
  have hw_2 : ∀ w ∈ u_ws RX5 TX5 3, w ∈ wmX5_put := fun w h => z_in (wi_wsX50 w h)
  have hw_3 := hts _ (z_in wm_283)
  have hl := lv_entry ([.ref q_t, .int a1]) (n := 2) (Nat.le_of_ble_eq_true rfl)
  rw [lg_entry_eq]
  generalize (lg_sl ([.ref q_t, .int a1]) ++ List.replicate (2 - (lg_sl ([.ref q_t, .int a1])).length) Slot.unset).toArray = ls at hl ⊢
  have hl : lv_has ls 2 [(0, .ref q_t), (1, .int a1)] := hl
  refine lv_aload_n hx hb dX5_put_0 rfl (lv_at hl 0 rfl) ?_
  refine va_get (D := D) (ci := 4) (v := .int v_t_count) (C := RX5) (T := TX5) (N := 3) hx hb hts hw_2 hown hK hP 0 rfl rfl 1 (by decide) hw_1 (fun _ h9 => h9) rfl dX5_put_1 ?_
  refine lv_sipush (v := 320) hx hb dX5_put_4 (by decide) ?_
  refine lv_icmp_ge (tgt := 30) hx hb dX5_put_7 (by decide) (fun c1 => ?_) (fun c1 => ?_)
  · have hw := hw.1 c1
    exact W.vret hx hb hr (fun t ht hW => ⟨⟨(v_t_count, f_t_characters), rfl, hw, ⟨by rw [ht]; exact hP, hD⟩⟩, hS.F ht⟩) hS.2.2 dX5_put_30
  · have hw := hw.2 c1
    refine lv_aload_n hx hb dX5_put_10 rfl (lv_at hl 0 rfl) ?_
    refine va_get (D := D) (ci := 4) (v := .ref q_t_characters) (C := RX5) (T := TX5) (N := 3) hx hb hts hw_2 hown hK hP 0 rfl rfl 0 (by decide) hw_3 (fun _ h9 => h9) rfl dX5_put_11 ?_
    refine lv_aload_n hx hb dX5_put_14 rfl (lv_at hl 0 rfl) ?_
    refine va_get (D := D) (ci := 4) (v := .int v_t_count) (C := RX5) (T := TX5) (N := 3) hx hb hts hw_2 hown hK hP 0 rfl rfl 1 (by decide) hw_1 (fun _ h9 => h9) rfl dX5_put_15 ?_
    refine lv_iload_n hx hb dX5_put_18 rfl (lv_at hl 1 rfl) ?_
    obtain ⟨h2, hw⟩ := hw
    refine va_cast hx hb hK hP hD hS 1 2 rfl rfl h2 dX5_put_19 (fun H locs hP hD hS => ?_)
    have hP : va_P D vwCl [(q_t, zX5 q_t_characters v_t_count v_t_reached), (q_t_characters, zI cC 320 (upd f_t_characters v_t_count.toNatClampNeg (vp_nar .char a1)))] H := hP
    have hD : va_D A [(q_t, zX5 q_t_characters v_t_count v_t_reached), (q_t_characters, zI cC 320 (upd f_t_characters v_t_count.toNatClampNeg (vp_nar .char a1)))] := hD
    refine lv_aload_n hx hb dX5_put_20 rfl (lv_at hl 0 rfl) ?_
    refine lv_dup hx hb dX5_put_21 rfl ?_
    refine va_get (D := D) (ci := 4) (v := .int v_t_count) (C := RX5) (T := TX5) (N := 3) hx hb hts hw_2 hown hK hP 0 rfl rfl 1 (by decide) hw_1 (fun _ h9 => h9) rfl dX5_put_22 ?_
    refine lv_iconst (v := 1) hx hb dX5_put_25 (by decide) ?_
    refine lv_iadd hx hb dX5_put_26 ?_
    refine va_put (D := D) (ci := 4) (v := .int (v_t_count + 1)) (ty := .int) (C := RX5) (T := TX5) (N := 3) hx hb hts hw_2 tyX5 tyX5_ok nmX5 hown hK hP hD hS 0 rfl rfl 1 (by decide) hw_1 (fun _ h9 => h9) rfl (by decide +kernel) rfl rfl (Nat.le_of_ble_eq_true rfl) dX5_put_27 (fun H locs hP hD hS => ?_)
    have hP : va_P D vwCl [(q_t, zX5 q_t_characters (v_t_count + 1) v_t_reached), (q_t_characters, zI cC 320 (upd f_t_characters v_t_count.toNatClampNeg (vp_nar .char a1)))] H := hP
    have hD : va_D A [(q_t, zX5 q_t_characters (v_t_count + 1) v_t_reached), (q_t_characters, zI cC 320 (upd f_t_characters v_t_count.toNatClampNeg (vp_nar .char a1)))] := hD
    exact W.vret hx hb hr (fun t ht hW => ⟨⟨((v_t_count + 1), (upd f_t_characters v_t_count.toNatClampNeg (vp_nar .char a1))), rfl, hw, ⟨by rw [ht]; exact hP, hD⟩⟩, hS.F ht⟩) hS.2.2 dX5_put_30

def wpX5_addBytes_69b (Q : Int32 → (Int32) → (Nat → Int32) → Prop)  (R_69 : (Int64) → (Int32) → (Int32) → (Nat → Int32) → Prop)  (x1 : Int64) (x4 : Int32) (v_t_count : Int32) (f_t_characters : Nat → Int32) : Prop := ((x4 < 0 → Q 1 v_t_count f_t_characters) ∧ (¬ x4 < 0 → wpX5_put (fun (u6 : Int32) (u7 : Nat → Int32) => R_69 x1 (x4 + (-1)) u6 u7) (((zvX5_byteAt x1 x4).toUInt32 % 65536).toInt32) v_t_count f_t_characters))
def wpX5_addBytes_69 (Q : Int32 → (Int32) → (Nat → Int32) → Prop)   : Nat → (Int64) → (Int32) → (Int32) → (Nat → Int32) → Prop
  | 0 => fun _ _ _ _ => False
  | n + 1 => fun x1 x4 v_t_count f_t_characters => wpX5_addBytes_69b Q  (wpX5_addBytes_69 Q   n)  x1 x4 v_t_count f_t_characters
def wpX5_addBytes_64 (Q : Int32 → (Int32) → (Nat → Int32) → Prop)   (x1 : Int64) (x3 : Int32) (v_t_count : Int32) (f_t_characters : Nat → Int32) : Prop := ∃ n : Nat, wpX5_addBytes_69 Q   n x1 (x3 - 1) v_t_count f_t_characters
def wpX5_addBytes_28b (Q : Int32 → (Int32) → (Nat → Int32) → Prop)  (R_28 : (Int64) → (Int32) → (Int32) → (Int32) → (Nat → Int32) → Prop)  (x1 : Int64) (x3 : Int32) (x4 : Int32) (v_t_count : Int32) (f_t_characters : Nat → Int32) : Prop := ((x3 ≤ x4 → wpX5_addBytes_64 Q   x1 x3 v_t_count f_t_characters) ∧ (¬ x3 ≤ x4 → (((zvX5_byteAt x1 x4) < 32 → Q 0 v_t_count f_t_characters) ∧ (¬ (zvX5_byteAt x1 x4) < 32 → (((zvX5_byteAt x1 x4) ≤ 126 → R_28 x1 x3 (x4 + 1) v_t_count f_t_characters) ∧ (¬ (zvX5_byteAt x1 x4) ≤ 126 → Q 0 v_t_count f_t_characters))))))
def wpX5_addBytes_28 (Q : Int32 → (Int32) → (Nat → Int32) → Prop)   : Nat → (Int64) → (Int32) → (Int32) → (Int32) → (Nat → Int32) → Prop
  | 0 => fun _ _ _ _ _ => False
  | n + 1 => fun x1 x3 x4 v_t_count f_t_characters => wpX5_addBytes_28b Q  (wpX5_addBytes_28 Q   n)  x1 x3 x4 v_t_count f_t_characters
def wpX5_addBytes (Q : Int32 → (Int32) → (Nat → Int32) → Prop) (a1 : Int64) (a3 : Int32)  (v_t_count : Int32) (f_t_characters : Nat → Int32) : Prop := ((a3 < 1 → Q 0 v_t_count f_t_characters) ∧ (¬ a3 < 1 → ((8 < a3 → Q 0 v_t_count f_t_characters) ∧ (¬ 8 < a3 → (((v_t_count + a3) ≤ 320 → ∃ n : Nat, wpX5_addBytes_28 Q   n a1 a3 0 v_t_count f_t_characters) ∧ (¬ (v_t_count + a3) ≤ 320 → Q 0 v_t_count f_t_characters))))))
abbrev zrX5_addBytes : Room := { frames := 1, cells := 0, slots := 0, locals := 22 }
set_option maxHeartbeats 4000000 in
set_option maxRecDepth 100000 in
theorem zkX5_addBytes (l : Launch) (D : va_G) (cI cJ cC : ClassId) (q_t q_t_characters : Nat) (sz : Nat) (a1 : Int64) (a3 : Int32) (v_t_count : Int32) (v_t_reached : Int32) (f_t_characters : Nat → Int32) {Q : Int32 → (Int32) → (Nat → Int32) → Prop} (hw : wpX5_addBytes Q a1 a3 v_t_count f_t_characters) : Met l yX5_addBytes wmX5_addBytes zrX5_addBytes (zPreW D (zT cI cJ cC) [(q_t, zX5 q_t_characters v_t_count v_t_reached), (q_t_characters, zI cC 320 f_t_characters)] sz [.ref q_t, .long a1, .int a3]) (va_Qi (fun (r : Int32) (u : (Int32) × (Nat → Int32)) => Q r (u.1) (u.2)) (fun u t => zAt D (va_A [(q_t, zX5 q_t_characters v_t_count v_t_reached), (q_t_characters, zI cC 320 f_t_characters)] sz) [(q_t, zX5 q_t_characters (u.1) v_t_reached), (q_t_characters, zI cC 320 (u.2))] t) (va_A [(q_t, zX5 q_t_characters v_t_count v_t_reached), (q_t_characters, zI cC 320 f_t_characters)] sz)) 0 0 (va_A [(q_t, zX5 q_t_characters v_t_count v_t_reached), (q_t_characters, zI cC 320 f_t_characters)] sz) := by
  refine Met.ofW (cc := cX5_addBytes) (maxL := 6) (ret := (some .boolean)) (by decide) rfl ?_
  intro p e s m args below meth c s₁ B hml hv
  obtain ⟨rfl, hsz, hP, hK, hD0⟩ := hv
  have hx := B.exec
  have hb := B.bytes
  have hr := B.returns
  have hts := atoms_spec (ws := wmX5_addBytes) B.pre
  have hown : s.vm.findClass RX5 = some m.cls := findClass_of_methodNamed B.named
  have hlocks := B.notSynchronized
  subst hsz
  have hD := hD0.self (sz := s.heap.size)
  generalize hAe : va_A [(q_t, zX5 q_t_characters v_t_count v_t_reached), (q_t_characters, zI cC 320 f_t_characters)] s.heap.size = A at hD ⊢
  have hA : ∀ q : Nat, s.heap.size ≤ q → A q := fun q h => by rw [← hAe]; exact Or.inr h
  have hS : va_S A s.heap s.heap [] := va_S.rf
  have hP : va_P D vwCl [(q_t, zX5 q_t_characters v_t_count v_t_reached), (q_t_characters, zI cC 320 f_t_characters)] s.heap := hP
  have hw_1 := hts _ (z_in wm_284)
  have hw_2 : ∀ w ∈ u_ws RX5 TX5 3, w ∈ wmX5_addBytes := fun w h => z_in (wi_wsX50 w h)
  have hl := lv_entry ([.ref q_t, .long a1, .int a3]) (n := 6) (Nat.le_of_ble_eq_true rfl)
  rw [lg_entry_eq]
  generalize (lg_sl ([.ref q_t, .long a1, .int a3]) ++ List.replicate (6 - (lg_sl ([.ref q_t, .long a1, .int a3])).length) Slot.unset).toArray = ls at hl ⊢
  have hl : lv_has ls 6 [(0, .ref q_t), (1, .long a1), (3, .int a3)] := hl
  have L_69 : ∀ (n : Nat), ∀ (x1 : Int64) (x4 : Int32) (v_t_count : Int32) (f_t_characters : Nat → Int32) (H : Heap) (locs : List Loc) (ls : Array Slot), va_P D vwCl [(q_t, zX5 q_t_characters v_t_count v_t_reached), (q_t_characters, zI cC 320 f_t_characters)] H → va_D A [(q_t, zX5 q_t_characters v_t_count v_t_reached), (q_t_characters, zI cC 320 f_t_characters)] → va_S A s.heap H locs → lv_has ls 6 [(0, .ref q_t), (1, .long x1), (4, .int x4)] → wpX5_addBytes_69 Q   n x1 x4 v_t_count f_t_characters → W p l e (headSpec wmX5_addBytes zrX5_addBytes).room s m ([.ref q_t, .long a1, .int a3] : List Value).toArray below meth c H locs 0 0 (MQ below (va_Qi (fun (r : Int32) (u : (Int32) × (Nat → Int32)) => Q r (u.1) (u.2)) (fun u t => zAt D A [(q_t, zX5 q_t_characters (u.1) v_t_reached), (q_t_characters, zI cC 320 (u.2))] t) A) ([.ref q_t, .long a1, .int a3] : List Value).toArray s 0 0 A) (F0 m 69 ls []) := by
    intro n
    induction n with
    | zero => intro x1 x4 v_t_count f_t_characters H locs ls hP hD hS hl hw; exact False.elim hw
    | succ n_69 ih_69 =>
      intro x1 x4 v_t_count f_t_characters H locs ls hP hD hS hl hw
      have hw : wpX5_addBytes_69b Q  (wpX5_addBytes_69 Q   n_69)  x1 x4 v_t_count f_t_characters := hw
      refine lv_iload hx hb dX5_addBytes_69 (lv_at hl 2 rfl) ?_
      refine lv_if_lt (tgt := 91) hx hb dX5_addBytes_71 (by decide) (fun c5 => ?_) (fun c5 => ?_)
      · have hw := hw.1 c5
        refine lv_iconst (v := 1) hx hb dX5_addBytes_91 (by decide) ?_
        exact W.zret (v := 1) hx hb hr (by decide) (fun t ht hW => ⟨⟨1, (v_t_count, f_t_characters), rfl, hw, ⟨by rw [ht]; exact hP, hD⟩⟩, hS.F ht⟩) hS.2.2 dX5_addBytes_92
      · have hw := hw.2 c5
        refine lv_aload_n hx hb dX5_addBytes_74 rfl (lv_at hl 0 rfl) ?_
        refine lv_lload_n hx hb dX5_addBytes_75 rfl (lv_at hl 1 rfl) ?_
        refine lv_iload hx hb dX5_addBytes_76 (lv_at hl 2 rfl) ?_
        refine z_vi (va_runS (As := [.long x1, .int x4]) (rest := [.ref q_t]) ⟨hx, hb, hml, hown, hts⟩ (zkX5_byteAt l   x1 x4 ) (va_cwS 2 hts (z_gS wm_293 wm_294 wm_295 wm_289) rfl rfl rfl (by decide +kernel) ⟨Nat.le_of_ble_eq_true rfl, Nat.le_of_ble_eq_true rfl⟩) z_psS rfl rfl hl.1 rfl (lv_room (Nat.le_of_ble_eq_true rfl)) dX5_addBytes_78 ⟨Nat.zero_le _, Nat.zero_le _⟩) ?_
        refine lv_i2c hx hb dX5_addBytes_81 rfl ?_
        refine z_wv (wc := [(q_t, zX5 q_t_characters v_t_count v_t_reached), (q_t_characters, zI cC 320 f_t_characters)]) (wr := []) (W1 := fun u : (Int32) × (Nat → Int32) => [(q_t, zX5 q_t_characters (u.1) v_t_reached), (q_t_characters, zI cC 320 (u.2))]) (va_runV (As := [.int ((zvX5_byteAt x1 x4).toUInt32 % 65536).toInt32]) (rest := []) ⟨hx, hb, hml, hown, hts⟩ (zkX5_put l D cI cJ cC q_t q_t_characters _ (((zvX5_byteAt x1 x4).toUInt32 % 65536).toInt32) v_t_count v_t_reached f_t_characters hw) (cwV 1 hts (z_gV wm_296 wm_297 wm_298 wm_295 wm_291) rfl rfl rfl (by decide +kernel) ⟨Nat.le_of_ble_eq_true rfl, Nat.le_of_ble_eq_true rfl⟩) (z_pvW hK hP hD [0, 1] rfl (by decide) rfl 0 4 rfl rfl) rfl rfl hl.1 rfl (lv_room (Nat.le_of_ble_eq_true rfl)) dX5_addBytes_82 ⟨Nat.zero_le _, Nat.zero_le _⟩) hP hD hS hA [0, 1] [] rfl rfl (by decide) (by decide) (fun u9 H locs hw hP hD hS => ?_)
        obtain ⟨u6, u7⟩ := u9
        have hP : va_P D vwCl [(q_t, zX5 q_t_characters u6 v_t_reached), (q_t_characters, zI cC 320 u7)] H := hP
        have hD : va_D A [(q_t, zX5 q_t_characters u6 v_t_reached), (q_t_characters, zI cC 320 u7)] := hD
        try dsimp only at hw
        refine lv_iinc (v := (x4 + (-1))) (lv' := [(4, .int (x4 + (-1))), (0, .ref q_t), (1, .long x1)]) hx hb dX5_addBytes_85 hl (k := 2) rfl rfl (by decide) rfl (fun ls hl => ?_)
        refine lv_goto (tgt := 69) hx hb dX5_addBytes_88 (by decide) ?_
        exact ih_69 x1 (x4 + (-1)) u6 u7 _ _ _ hP hD hS (lv_sub hl [1, 2, 0] rfl) hw
  have J_64 : ∀ (x1 : Int64) (x3 : Int32) (v_t_count : Int32) (f_t_characters : Nat → Int32) (H : Heap) (locs : List Loc) (ls : Array Slot), va_P D vwCl [(q_t, zX5 q_t_characters v_t_count v_t_reached), (q_t_characters, zI cC 320 f_t_characters)] H → va_D A [(q_t, zX5 q_t_characters v_t_count v_t_reached), (q_t_characters, zI cC 320 f_t_characters)] → va_S A s.heap H locs → lv_has ls 6 [(0, .ref q_t), (1, .long x1), (3, .int x3)] → wpX5_addBytes_64 Q   x1 x3 v_t_count f_t_characters → W p l e (headSpec wmX5_addBytes zrX5_addBytes).room s m ([.ref q_t, .long a1, .int a3] : List Value).toArray below meth c H locs 0 0 (MQ below (va_Qi (fun (r : Int32) (u : (Int32) × (Nat → Int32)) => Q r (u.1) (u.2)) (fun u t => zAt D A [(q_t, zX5 q_t_characters (u.1) v_t_reached), (q_t_characters, zI cC 320 (u.2))] t) A) ([.ref q_t, .long a1, .int a3] : List Value).toArray s 0 0 A) (F0 m 64 ls []) := by
    intro x1 x3 v_t_count f_t_characters H locs ls hP hD hS hl hw
    unfold wpX5_addBytes_64 at hw
    refine lv_iload_n hx hb dX5_addBytes_64 rfl (lv_at hl 2 rfl) ?_
    refine lv_iconst (v := 1) hx hb dX5_addBytes_65 (by decide) ?_
    refine lv_isub hx hb dX5_addBytes_66 ?_
    refine lv_istore (lv' := [(4, .int (x3 - 1)), (0, .ref q_t), (1, .long x1), (3, .int x3)]) hx hb dX5_addBytes_67 hl (by decide) rfl (fun ls hl => ?_)
    obtain ⟨n_69, hw⟩ := hw
    exact L_69 n_69 x1 (x3 - 1) v_t_count f_t_characters _ _ _ hP hD hS (lv_sub hl [1, 2, 0] rfl) hw
  have L_28 : ∀ (n : Nat), ∀ (x1 : Int64) (x3 : Int32) (x4 : Int32) (v_t_count : Int32) (f_t_characters : Nat → Int32) (H : Heap) (locs : List Loc) (ls : Array Slot), va_P D vwCl [(q_t, zX5 q_t_characters v_t_count v_t_reached), (q_t_characters, zI cC 320 f_t_characters)] H → va_D A [(q_t, zX5 q_t_characters v_t_count v_t_reached), (q_t_characters, zI cC 320 f_t_characters)] → va_S A s.heap H locs → lv_has ls 6 [(0, .ref q_t), (1, .long x1), (3, .int x3), (4, .int x4)] → wpX5_addBytes_28 Q   n x1 x3 x4 v_t_count f_t_characters → W p l e (headSpec wmX5_addBytes zrX5_addBytes).room s m ([.ref q_t, .long a1, .int a3] : List Value).toArray below meth c H locs 0 0 (MQ below (va_Qi (fun (r : Int32) (u : (Int32) × (Nat → Int32)) => Q r (u.1) (u.2)) (fun u t => zAt D A [(q_t, zX5 q_t_characters (u.1) v_t_reached), (q_t_characters, zI cC 320 (u.2))] t) A) ([.ref q_t, .long a1, .int a3] : List Value).toArray s 0 0 A) (F0 m 28 ls []) := by
    intro n
    induction n with
    | zero => intro x1 x3 x4 v_t_count f_t_characters H locs ls hP hD hS hl hw; exact False.elim hw
    | succ n_28 ih_28 =>
      intro x1 x3 x4 v_t_count f_t_characters H locs ls hP hD hS hl hw
      have hw : wpX5_addBytes_28b Q  (wpX5_addBytes_28 Q   n_28)  x1 x3 x4 v_t_count f_t_characters := hw
      refine lv_iload hx hb dX5_addBytes_28 (lv_at hl 3 rfl) ?_
      refine lv_iload_n hx hb dX5_addBytes_30 rfl (lv_at hl 2 rfl) ?_
      refine lv_icmp_ge (tgt := 64) hx hb dX5_addBytes_31 (by decide) (fun c4 => ?_) (fun c4 => ?_)
      · have hw := hw.1 c4
        exact J_64 x1 x3 v_t_count f_t_characters _ _ _ hP hD hS (lv_sub hl [0, 1, 2] rfl) hw
      · have hw := hw.2 c4
        refine lv_lload_n hx hb dX5_addBytes_34 rfl (lv_at hl 1 rfl) ?_
        refine lv_iload hx hb dX5_addBytes_35 (lv_at hl 3 rfl) ?_
        refine z_vi (va_runS (As := [.long x1, .int x4]) (rest := []) ⟨hx, hb, hml, hown, hts⟩ (zkX5_byteAt l   x1 x4 ) (va_cwS 2 hts (z_gS wm_293 wm_294 wm_295 wm_289) rfl rfl rfl (by decide +kernel) ⟨Nat.le_of_ble_eq_true rfl, Nat.le_of_ble_eq_true rfl⟩) z_psS rfl rfl hl.1 rfl (lv_room (Nat.le_of_ble_eq_true rfl)) dX5_addBytes_37 ⟨Nat.zero_le _, Nat.zero_le _⟩) ?_
        refine lv_istore (lv' := [(5, .int (zvX5_byteAt x1 x4)), (0, .ref q_t), (1, .long x1), (3, .int x3), (4, .int x4)]) hx hb dX5_addBytes_40 hl (by decide) rfl (fun ls hl => ?_)
        refine lv_iload hx hb dX5_addBytes_42 (lv_at hl 0 rfl) ?_
        refine lv_bipush (v := 32) hx hb dX5_addBytes_44 (by decide) ?_
        refine lv_icmp_lt (tgt := 56) hx hb dX5_addBytes_46 (by decide) (fun c8 => ?_) (fun c8 => ?_)
        · have hw := hw.1 c8
          refine lv_iconst (v := 0) hx hb dX5_addBytes_56 (by decide) ?_
          exact W.zret (v := 0) hx hb hr (by decide) (fun t ht hW => ⟨⟨0, (v_t_count, f_t_characters), rfl, hw, ⟨by rw [ht]; exact hP, hD⟩⟩, hS.F ht⟩) hS.2.2 dX5_addBytes_57
        · have hw := hw.2 c8
          refine lv_iload hx hb dX5_addBytes_49 (lv_at hl 0 rfl) ?_
          refine lv_bipush (v := 126) hx hb dX5_addBytes_51 (by decide) ?_
          refine lv_icmp_le (tgt := 58) hx hb dX5_addBytes_53 (by decide) (fun c9 => ?_) (fun c9 => ?_)
          · have hw := hw.1 c9
            refine lv_iinc (v := (x4 + 1)) (lv' := [(4, .int (x4 + 1)), (5, .int (zvX5_byteAt x1 x4)), (0, .ref q_t), (1, .long x1), (3, .int x3)]) hx hb dX5_addBytes_58 hl (k := 4) rfl rfl (by decide) rfl (fun ls hl => ?_)
            refine lv_goto (tgt := 28) hx hb dX5_addBytes_61 (by decide) ?_
            exact ih_28 x1 x3 (x4 + 1) v_t_count f_t_characters _ _ _ hP hD hS (lv_sub hl [2, 3, 4, 0] rfl) hw
          · have hw := hw.2 c9
            refine lv_iconst (v := 0) hx hb dX5_addBytes_56 (by decide) ?_
            exact W.zret (v := 0) hx hb hr (by decide) (fun t ht hW => ⟨⟨0, (v_t_count, f_t_characters), rfl, hw, ⟨by rw [ht]; exact hP, hD⟩⟩, hS.F ht⟩) hS.2.2 dX5_addBytes_57
  refine lv_iload_n hx hb dX5_addBytes_0 rfl (lv_at hl 2 rfl) ?_
  refine lv_iconst (v := 1) hx hb dX5_addBytes_1 (by decide) ?_
  refine lv_icmp_lt (tgt := 23) hx hb dX5_addBytes_2 (by decide) (fun c1 => ?_) (fun c1 => ?_)
  · have hw := hw.1 c1
    refine lv_iconst (v := 0) hx hb dX5_addBytes_23 (by decide) ?_
    exact W.zret (v := 0) hx hb hr (by decide) (fun t ht hW => ⟨⟨0, (v_t_count, f_t_characters), rfl, hw, ⟨by rw [ht]; exact hP, hD⟩⟩, hS.F ht⟩) hS.2.2 dX5_addBytes_24
  · have hw := hw.2 c1
    refine lv_iload_n hx hb dX5_addBytes_5 rfl (lv_at hl 2 rfl) ?_
    refine lv_bipush (v := 8) hx hb dX5_addBytes_6 (by decide) ?_
    refine lv_icmp_gt (tgt := 23) hx hb dX5_addBytes_8 (by decide) (fun c2 => ?_) (fun c2 => ?_)
    · have hw := hw.1 c2
      refine lv_iconst (v := 0) hx hb dX5_addBytes_23 (by decide) ?_
      exact W.zret (v := 0) hx hb hr (by decide) (fun t ht hW => ⟨⟨0, (v_t_count, f_t_characters), rfl, hw, ⟨by rw [ht]; exact hP, hD⟩⟩, hS.F ht⟩) hS.2.2 dX5_addBytes_24
    · have hw := hw.2 c2
      refine lv_aload_n hx hb dX5_addBytes_11 rfl (lv_at hl 0 rfl) ?_
      refine va_get (D := D) (ci := 4) (v := .int v_t_count) (C := RX5) (T := TX5) (N := 3) hx hb hts hw_2 hown hK hP 0 rfl rfl 1 (by decide) hw_1 (fun _ h9 => h9) rfl dX5_addBytes_12 ?_
      refine lv_iload_n hx hb dX5_addBytes_15 rfl (lv_at hl 2 rfl) ?_
      refine lv_iadd hx hb dX5_addBytes_16 ?_
      refine lv_sipush (v := 320) hx hb dX5_addBytes_17 (by decide) ?_
      refine lv_icmp_le (tgt := 25) hx hb dX5_addBytes_20 (by decide) (fun c3 => ?_) (fun c3 => ?_)
      · have hw := hw.1 c3
        refine lv_iconst (v := 0) hx hb dX5_addBytes_25 (by decide) ?_
        refine lv_istore (lv' := [(4, .int 0), (0, .ref q_t), (1, .long a1), (3, .int a3)]) hx hb dX5_addBytes_26 hl (by decide) rfl (fun ls hl => ?_)
        obtain ⟨n_28, hw⟩ := hw
        exact L_28 n_28 a1 a3 0 v_t_count f_t_characters _ _ _ hP hD hS (lv_sub hl [1, 2, 3, 0] rfl) hw
      · have hw := hw.2 c3
        refine lv_iconst (v := 0) hx hb dX5_addBytes_23 (by decide) ?_
        exact W.zret (v := 0) hx hb hr (by decide) (fun t ht hW => ⟨⟨0, (v_t_count, f_t_characters), rfl, hw, ⟨by rw [ht]; exact hP, hD⟩⟩, hS.F ht⟩) hS.2.2 dX5_addBytes_24

def wpX5_writeGate_40b (Q : (Int32) → (Nat → Int32) → Prop)  (R_40 : (Int32) → (Int32) → (Int32) → (Int32) → (Nat → Int32) → Prop)  (x2 : Int32) (x3 : Int32) (x4 : Int32) (v_t_count : Int32) (f_t_characters : Nat → Int32) : Prop := (((zvX2_wiresOf x2) ≤ x4 → Q v_t_count f_t_characters) ∧ (¬ (zvX2_wiresOf x2) ≤ x4 → wpX5_put (fun (u8 : Int32) (u9 : Nat → Int32) => ∀ x3_10 : Int32, x3_10 = (x3 / 10) → R_40 x2 x3_10 (x4 + 1) u8 u9) (((48 + (x3 - x3 / 10 * 10)).toUInt32 % 65536).toInt32) v_t_count f_t_characters))
def wpX5_writeGate_40 (Q : (Int32) → (Nat → Int32) → Prop)   : Nat → (Int32) → (Int32) → (Int32) → (Int32) → (Nat → Int32) → Prop
  | 0 => fun _ _ _ _ _ => False
  | n + 1 => fun x2 x3 x4 v_t_count f_t_characters => wpX5_writeGate_40b Q  (wpX5_writeGate_40 Q   n)  x2 x3 x4 v_t_count f_t_characters
def wpX5_writeGate (Q : (Int32) → (Nat → Int32) → Prop) (a1 : Int32)  (v_t_count : Int32) (f_t_characters : Nat → Int32) : Prop := (((zvX2_kind a1) < 1 → Q v_t_count f_t_characters) ∧ (¬ (zvX2_kind a1) < 1 → (((zvX2_kind a1) ≤ 9 → vp_in ((zvX2_kind a1) - 1) 9 ∧ wpX5_put (fun (u4 : Int32) (u5 : Nat → Int32) => ∀ x3_6 : Int32, x3_6 = (a1 / 10) → ∃ n : Nat, wpX5_writeGate_40 Q   n (zvX2_kind a1) x3_6 0 u4 u5) (zvS_charAt ((zvX2_kind a1) - 1)) v_t_count f_t_characters) ∧ (¬ (zvX2_kind a1) ≤ 9 → Q v_t_count f_t_characters))))
abbrev zrX5_writeGate : Room := { frames := 4, cells := 0, slots := 0, locals := 85 }
set_option maxHeartbeats 4000000 in
set_option maxRecDepth 100000 in
theorem zkX5_writeGate (l : Launch) (qk qv : Nat) (D : va_G) (cI cJ cC : ClassId) (q_t q_t_characters : Nat) (sz : Nat) (a1 : Int32) (v_t_count : Int32) (v_t_reached : Int32) (f_t_characters : Nat → Int32) {Q : (Int32) → (Nat → Int32) → Prop} (hw : wpX5_writeGate Q a1 v_t_count f_t_characters) : Met l yX5_writeGate wmX5_writeGate zrX5_writeGate (zPreWX qk qv D (zT cI cJ cC) [(q_t, zX5 q_t_characters v_t_count v_t_reached), (q_t_characters, zI cC 320 f_t_characters)] sz [.ref q_t, .int a1]) (va_Qv (fun u : (Int32) × (Nat → Int32) => Q (u.1) (u.2)) (fun u t => zAt D (va_A [(q_t, zX5 q_t_characters v_t_count v_t_reached), (q_t_characters, zI cC 320 f_t_characters)] sz) [(q_t, zX5 q_t_characters (u.1) v_t_reached), (q_t_characters, zI cC 320 (u.2))] t) (va_A [(q_t, zX5 q_t_characters v_t_count v_t_reached), (q_t_characters, zI cC 320 f_t_characters)] sz)) 0 0 (va_A [(q_t, zX5 q_t_characters v_t_count v_t_reached), (q_t_characters, zI cC 320 f_t_characters)] sz) := by
  refine Met.ofW (cc := cX5_writeGate) (maxL := 5) (ret := none) (by decide) rfl ?_
  intro p e s m args below meth c s₁ B hml hv
  obtain ⟨rfl, hsz, hP, hK, hD0, hT⟩ := hv
  have hx := B.exec
  have hb := B.bytes
  have hr := B.returns
  have hts := atoms_spec (ws := wmX5_writeGate) B.pre
  have hown : s.vm.findClass RX5 = some m.cls := findClass_of_methodNamed B.named
  have hlocks := B.notSynchronized
  subst hsz
  have hD := hD0.self (sz := s.heap.size)
  generalize hAe : va_A [(q_t, zX5 q_t_characters v_t_count v_t_reached), (q_t_characters, zI cC 320 f_t_characters)] s.heap.size = A at hD hT ⊢
  have hA : ∀ q : Nat, s.heap.size ≤ q → A q := fun q h => by rw [← hAe]; exact Or.inr h
  have hS : va_S A s.heap s.heap [] := va_S.rf
  have hP : va_P D vwCl [(q_t, zX5 q_t_characters v_t_count v_t_reached), (q_t_characters, zI cC 320 f_t_characters)] s.heap := hP
  have hl := lv_entry ([.ref q_t, .int a1]) (n := 5) (Nat.le_of_ble_eq_true rfl)
  rw [lg_entry_eq]
  generalize (lg_sl ([.ref q_t, .int a1]) ++ List.replicate (5 - (lg_sl ([.ref q_t, .int a1])).length) Slot.unset).toArray = ls at hl ⊢
  have hl : lv_has ls 5 [(0, .ref q_t), (1, .int a1)] := hl
  have L_40 : ∀ (n : Nat), ∀ (x2 : Int32) (x3 : Int32) (x4 : Int32) (v_t_count : Int32) (f_t_characters : Nat → Int32) (H : Heap) (locs : List Loc) (ls : Array Slot), va_P D vwCl [(q_t, zX5 q_t_characters v_t_count v_t_reached), (q_t_characters, zI cC 320 f_t_characters)] H → va_D A [(q_t, zX5 q_t_characters v_t_count v_t_reached), (q_t_characters, zI cC 320 f_t_characters)] → va_S A s.heap H locs → lv_has ls 5 [(0, .ref q_t), (2, .int x2), (3, .int x3), (4, .int x4)] → wpX5_writeGate_40 Q   n x2 x3 x4 v_t_count f_t_characters → W p l e (headSpec wmX5_writeGate zrX5_writeGate).room s m ([.ref q_t, .int a1] : List Value).toArray below meth c H locs 0 0 (MQ below (va_Qv (fun u : (Int32) × (Nat → Int32) => Q (u.1) (u.2)) (fun u t => zAt D A [(q_t, zX5 q_t_characters (u.1) v_t_reached), (q_t_characters, zI cC 320 (u.2))] t) A) ([.ref q_t, .int a1] : List Value).toArray s 0 0 A) (F0 m 40 ls []) := by
    intro n
    induction n with
    | zero => intro x2 x3 x4 v_t_count f_t_characters H locs ls hP hD hS hl hw; exact False.elim hw
    | succ n_40 ih_40 =>
      intro x2 x3 x4 v_t_count f_t_characters H locs ls hP hD hS hl hw
      have hw : wpX5_writeGate_40b Q  (wpX5_writeGate_40 Q   n_40)  x2 x3 x4 v_t_count f_t_characters := hw
      refine lv_iload hx hb dX5_writeGate_40 (lv_at hl 3 rfl) ?_
      refine lv_iload_n hx hb dX5_writeGate_42 rfl (lv_at hl 1 rfl) ?_
      refine z_vi (va_runS (As := [.int x2]) (rest := [.int x4]) ⟨hx, hb, hml, hown, hts⟩ (zkX2_wiresOf l   x2 ) (va_cwS 1 hts (z_gS wm_349 wm_42 wm_30 wm_39) rfl rfl rfl (by decide +kernel) ⟨Nat.le_of_ble_eq_true rfl, Nat.le_of_ble_eq_true rfl⟩) z_psS rfl rfl hl.1 rfl (lv_room (Nat.le_of_ble_eq_true rfl)) dX5_writeGate_43 ⟨Nat.zero_le _, Nat.zero_le _⟩) ?_
      refine lv_icmp_ge (tgt := 72) hx hb dX5_writeGate_46 (by decide) (fun c7 => ?_) (fun c7 => ?_)
      · have hw := hw.1 c7
        exact W.vret hx hb hr (fun t ht hW => ⟨⟨(v_t_count, f_t_characters), rfl, hw, ⟨by rw [ht]; exact hP, hD⟩⟩, hS.F ht⟩) hS.2.2 dX5_writeGate_72
      · have hw := hw.2 c7
        refine lv_aload_n hx hb dX5_writeGate_49 rfl (lv_at hl 0 rfl) ?_
        refine lv_bipush (v := 48) hx hb dX5_writeGate_50 (by decide) ?_
        refine lv_iload_n hx hb dX5_writeGate_52 rfl (lv_at hl 2 rfl) ?_
        refine lv_bipush (v := 10) hx hb dX5_writeGate_53 (by decide) ?_
        refine lv_irem hx hb dX5_writeGate_55 (by decide) ?_
        refine lv_iadd hx hb dX5_writeGate_56 ?_
        refine lv_i2c hx hb dX5_writeGate_57 rfl ?_
        refine z_wv (wc := [(q_t, zX5 q_t_characters v_t_count v_t_reached), (q_t_characters, zI cC 320 f_t_characters)]) (wr := []) (W1 := fun u : (Int32) × (Nat → Int32) => [(q_t, zX5 q_t_characters (u.1) v_t_reached), (q_t_characters, zI cC 320 (u.2))]) (va_runV (As := [.int ((48 + (x3 - x3 / 10 * 10)).toUInt32 % 65536).toInt32]) (rest := []) ⟨hx, hb, hml, hown, hts⟩ (zkX5_put l D cI cJ cC q_t q_t_characters _ (((48 + (x3 - x3 / 10 * 10)).toUInt32 % 65536).toInt32) v_t_count v_t_reached f_t_characters hw) (cwV 1 hts (z_gV wm_296 wm_297 wm_298 wm_295 wm_291) rfl rfl rfl (by decide +kernel) ⟨Nat.le_of_ble_eq_true rfl, Nat.le_of_ble_eq_true rfl⟩) (z_pvW hK hP hD [0, 1] rfl (by decide) rfl 0 4 rfl rfl) rfl rfl hl.1 rfl (lv_room (Nat.le_of_ble_eq_true rfl)) dX5_writeGate_58 ⟨Nat.zero_le _, Nat.zero_le _⟩) hP hD hS hA [0, 1] [] rfl rfl (by decide) (by decide) (fun u9 H locs hw hP hD hS => ?_)
        obtain ⟨u8, u9⟩ := u9
        have hP : va_P D vwCl [(q_t, zX5 q_t_characters u8 v_t_reached), (q_t_characters, zI cC 320 u9)] H := hP
        have hD : va_D A [(q_t, zX5 q_t_characters u8 v_t_reached), (q_t_characters, zI cC 320 u9)] := hD
        try dsimp only at hw
        refine lv_iload_n hx hb dX5_writeGate_61 rfl (lv_at hl 2 rfl) ?_
        refine lv_bipush (v := 10) hx hb dX5_writeGate_62 (by decide) ?_
        refine lv_idiv hx hb dX5_writeGate_64 (by decide) ?_
        refine lv_topi (fun x3_10 ex3_10 => ?_)
        have hw := hw x3_10 ex3_10
        refine lv_istore_n (lv' := [(3, .int x3_10), (0, .ref q_t), (2, .int x2), (4, .int x4)]) hx hb dX5_writeGate_65 rfl hl (by decide) rfl (fun ls hl => ?_)
        refine lv_iinc (v := (x4 + 1)) (lv' := [(4, .int (x4 + 1)), (3, .int x3_10), (0, .ref q_t), (2, .int x2)]) hx hb dX5_writeGate_66 hl (k := 3) rfl rfl (by decide) rfl (fun ls hl => ?_)
        refine lv_goto (tgt := 40) hx hb dX5_writeGate_69 (by decide) ?_
        exact ih_40 x2 x3_10 (x4 + 1) u8 u9 _ _ _ hP hD hS (lv_sub hl [2, 3, 1, 0] rfl) hw
  refine lv_iload_n hx hb dX5_writeGate_0 rfl (lv_at hl 1 rfl) ?_
  refine z_vi (va_runS (As := [.int a1]) (rest := []) ⟨hx, hb, hml, hown, hts⟩ (zkX2_kind l   a1 ) (va_cwS 1 hts (z_gS wm_342 wm_29 wm_30 wm_26) rfl rfl rfl (by decide +kernel) ⟨Nat.le_of_ble_eq_true rfl, Nat.le_of_ble_eq_true rfl⟩) z_psS rfl rfl hl.1 rfl (lv_room (Nat.le_of_ble_eq_true rfl)) dX5_writeGate_1 ⟨Nat.zero_le _, Nat.zero_le _⟩) ?_
  refine lv_istore_n (lv' := [(2, .int (zvX2_kind a1)), (0, .ref q_t), (1, .int a1)]) hx hb dX5_writeGate_4 rfl hl (by decide) rfl (fun ls hl => ?_)
  refine lv_iload_n hx hb dX5_writeGate_5 rfl (lv_at hl 0 rfl) ?_
  refine lv_iconst (v := 1) hx hb dX5_writeGate_6 (by decide) ?_
  refine lv_icmp_lt (tgt := 19) hx hb dX5_writeGate_7 (by decide) (fun c1 => ?_) (fun c1 => ?_)
  · have hw := hw.1 c1
    exact W.vret hx hb hr (fun t ht hW => ⟨⟨(v_t_count, f_t_characters), rfl, hw, ⟨by rw [ht]; exact hP, hD⟩⟩, hS.F ht⟩) hS.2.2 dX5_writeGate_19
  · have hw := hw.2 c1
    refine lv_iload_n hx hb dX5_writeGate_10 rfl (lv_at hl 0 rfl) ?_
    refine va_ldcS hx hb hown hT.1 dX5_writeGate_11 ?_
    refine z_vi (va_runV (As := []) (rest := [.int (zvX2_kind a1)]) ⟨hx, hb, hml, hown, hts⟩ (zkS_length l qk qv A ) (cwV 0 hts (z_gV wm_343 wm_344 wm_345 wm_307 wm_302) rfl rfl rfl (by decide +kernel) ⟨Nat.le_of_ble_eq_true rfl, Nat.le_of_ble_eq_true rfl⟩) (z_pvK hT hS) rfl rfl hl.1 rfl (lv_room (Nat.le_of_ble_eq_true rfl)) dX5_writeGate_13 ⟨Nat.zero_le _, Nat.zero_le _⟩) ?_
    refine lv_icmp_le (tgt := 20) hx hb dX5_writeGate_16 (by decide) (fun c2 => ?_) (fun c2 => ?_)
    · have hw := hw.1 c2
      refine lv_aload_n hx hb dX5_writeGate_20 rfl (lv_at hl 1 rfl) ?_
      refine va_ldcS hx hb hown hT.1 dX5_writeGate_21 ?_
      refine lv_iload_n hx hb dX5_writeGate_23 rfl (lv_at hl 0 rfl) ?_
      refine lv_iconst (v := 1) hx hb dX5_writeGate_24 (by decide) ?_
      refine lv_isub hx hb dX5_writeGate_25 ?_
      obtain ⟨h3, hw⟩ := hw
      refine z_vi (va_runV (As := [.int ((zvX2_kind a1) - 1)]) (rest := [.ref q_t]) ⟨hx, hb, hml, hown, hts⟩ (zkS_charAt l qk qv A ((zvX2_kind a1) - 1) (z_vp9 h3).1 (z_vp9 h3).2 h3) (cwV 1 hts (z_gV wm_346 wm_347 wm_348 wm_307 wm_341) rfl rfl rfl (by decide +kernel) ⟨Nat.le_of_ble_eq_true rfl, Nat.le_of_ble_eq_true rfl⟩) (z_pvK hT hS) rfl rfl hl.1 rfl (lv_room (Nat.le_of_ble_eq_true rfl)) dX5_writeGate_26 ⟨Nat.zero_le _, Nat.zero_le _⟩) ?_
      refine z_wv (wc := [(q_t, zX5 q_t_characters v_t_count v_t_reached), (q_t_characters, zI cC 320 f_t_characters)]) (wr := []) (W1 := fun u : (Int32) × (Nat → Int32) => [(q_t, zX5 q_t_characters (u.1) v_t_reached), (q_t_characters, zI cC 320 (u.2))]) (va_runV (As := [.int (zvS_charAt ((zvX2_kind a1) - 1))]) (rest := []) ⟨hx, hb, hml, hown, hts⟩ (zkX5_put l D cI cJ cC q_t q_t_characters _ (zvS_charAt ((zvX2_kind a1) - 1)) v_t_count v_t_reached f_t_characters hw) (cwV 1 hts (z_gV wm_296 wm_297 wm_298 wm_295 wm_291) rfl rfl rfl (by decide +kernel) ⟨Nat.le_of_ble_eq_true rfl, Nat.le_of_ble_eq_true rfl⟩) (z_pvW hK hP hD [0, 1] rfl (by decide) rfl 0 4 rfl rfl) rfl rfl hl.1 rfl (lv_room (Nat.le_of_ble_eq_true rfl)) dX5_writeGate_29 ⟨Nat.zero_le _, Nat.zero_le _⟩) hP hD hS hA [0, 1] [] rfl rfl (by decide) (by decide) (fun u9 H locs hw hP hD hS => ?_)
      obtain ⟨u4, u5⟩ := u9
      have hP : va_P D vwCl [(q_t, zX5 q_t_characters u4 v_t_reached), (q_t_characters, zI cC 320 u5)] H := hP
      have hD : va_D A [(q_t, zX5 q_t_characters u4 v_t_reached), (q_t_characters, zI cC 320 u5)] := hD
      try dsimp only at hw
      refine lv_iload_n hx hb dX5_writeGate_32 rfl (lv_at hl 2 rfl) ?_
      refine lv_bipush (v := 10) hx hb dX5_writeGate_33 (by decide) ?_
      refine lv_idiv hx hb dX5_writeGate_35 (by decide) ?_
      refine lv_topi (fun x3_6 ex3_6 => ?_)
      have hw := hw x3_6 ex3_6
      refine lv_istore_n (lv' := [(3, .int x3_6), (2, .int (zvX2_kind a1)), (0, .ref q_t), (1, .int a1)]) hx hb dX5_writeGate_36 rfl hl (by decide) rfl (fun ls hl => ?_)
      refine lv_iconst (v := 0) hx hb dX5_writeGate_37 (by decide) ?_
      refine lv_istore (lv' := [(4, .int 0), (3, .int x3_6), (2, .int (zvX2_kind a1)), (0, .ref q_t), (1, .int a1)]) hx hb dX5_writeGate_38 hl (by decide) rfl (fun ls hl => ?_)
      obtain ⟨n_40, hw⟩ := hw
      exact L_40 n_40 (zvX2_kind a1) x3_6 0 u4 u5 _ _ _ hP hD hS (lv_sub hl [3, 2, 1, 0] rfl) hw
    · have hw := hw.2 c2
      exact W.vret hx hb hr (fun t ht hW => ⟨⟨(v_t_count, f_t_characters), rfl, hw, ⟨by rw [ht]; exact hP, hD⟩⟩, hS.F ht⟩) hS.2.2 dX5_writeGate_19

def wpX5_write_24 (Q : (Int32) → (Nat → Int32) → Prop) (R_6 : (Int32) → (Int32) → (Nat → Int32) → Prop) (v_a1_count : Int32) (f_a1_gates : Nat → Int32) (x2 : Int32) (v_t_count : Int32) (f_t_characters : Nat → Int32) : Prop := wpX0_at (fun r4 : Int32 => wpX5_writeGate (fun (u5 : Int32) (u6 : Nat → Int32) => R_6 (x2 + 1) u5 u6) r4 v_t_count f_t_characters) x2 v_a1_count f_a1_gates
def wpX5_write_6b (Q : (Int32) → (Nat → Int32) → Prop)  (R_6 : (Int32) → (Int32) → (Nat → Int32) → Prop) (v_a1_count : Int32) (f_a1_gates : Nat → Int32) (x2 : Int32) (v_t_count : Int32) (f_t_characters : Nat → Int32) : Prop := (((zvX0_count v_a1_count) ≤ x2 → Q v_t_count f_t_characters) ∧ (¬ (zvX0_count v_a1_count) ≤ x2 → ((x2 ≤ 0 → wpX5_write_24 Q R_6 v_a1_count f_a1_gates x2 v_t_count f_t_characters) ∧ (¬ x2 ≤ 0 → wpX5_put (fun (u7 : Int32) (u8 : Nat → Int32) => wpX5_write_24 Q R_6 v_a1_count f_a1_gates x2 u7 u8) 32 v_t_count f_t_characters))))
def wpX5_write_6 (Q : (Int32) → (Nat → Int32) → Prop)  (v_a1_count : Int32) (f_a1_gates : Nat → Int32) : Nat → (Int32) → (Int32) → (Nat → Int32) → Prop
  | 0 => fun _ _ _ => False
  | n + 1 => fun x2 v_t_count f_t_characters => wpX5_write_6b Q  (wpX5_write_6 Q  v_a1_count f_a1_gates n) v_a1_count f_a1_gates x2 v_t_count f_t_characters
def wpX5_write (Q : (Int32) → (Nat → Int32) → Prop)  (v_a1_count : Int32) (f_a1_gates : Nat → Int32) (v_t_count : Int32) (f_t_characters : Nat → Int32) : Prop := wpX5_removeAll (fun (u1 : Int32) => ∃ n : Nat, wpX5_write_6 Q  v_a1_count f_a1_gates n 0 u1 f_t_characters) v_t_count
abbrev zrX5_write : Room := { frames := 5, cells := 0, slots := 0, locals := 109 }
set_option maxHeartbeats 4000000 in
set_option maxRecDepth 100000 in
theorem zkX5_write (l : Launch) (qk qv : Nat) (D : va_G) (cI cJ cC : ClassId) (q_t q_a1 q_t_characters q_a1_gates : Nat) (sz : Nat)  (v_t_count : Int32) (v_t_reached : Int32) (v_a1_count : Int32) (f_t_characters : Nat → Int32) (f_a1_gates : Nat → Int32) {Q : (Int32) → (Nat → Int32) → Prop} (hw : wpX5_write Q v_a1_count f_a1_gates v_t_count f_t_characters) : Met l yX5_write wmX5_write zrX5_write (zPreWX qk qv D (zT cI cJ cC) [(q_t, zX5 q_t_characters v_t_count v_t_reached), (q_a1, zX0 q_a1_gates v_a1_count), (q_t_characters, zI cC 320 f_t_characters), (q_a1_gates, zI cI 64 f_a1_gates)] sz [.ref q_t, .ref q_a1]) (va_Qv (fun u : (Int32) × (Nat → Int32) => Q (u.1) (u.2)) (fun u t => zAt D (va_A [(q_t, zX5 q_t_characters v_t_count v_t_reached), (q_a1, zX0 q_a1_gates v_a1_count), (q_t_characters, zI cC 320 f_t_characters), (q_a1_gates, zI cI 64 f_a1_gates)] sz) [(q_t, zX5 q_t_characters (u.1) v_t_reached), (q_a1, zX0 q_a1_gates v_a1_count), (q_t_characters, zI cC 320 (u.2)), (q_a1_gates, zI cI 64 f_a1_gates)] t) (va_A [(q_t, zX5 q_t_characters v_t_count v_t_reached), (q_a1, zX0 q_a1_gates v_a1_count), (q_t_characters, zI cC 320 f_t_characters), (q_a1_gates, zI cI 64 f_a1_gates)] sz)) 0 0 (va_A [(q_t, zX5 q_t_characters v_t_count v_t_reached), (q_a1, zX0 q_a1_gates v_a1_count), (q_t_characters, zI cC 320 f_t_characters), (q_a1_gates, zI cI 64 f_a1_gates)] sz) := by
  refine Met.ofW (cc := cX5_write) (maxL := 3) (ret := none) (by decide) rfl ?_
  intro p e s m args below meth c s₁ B hml hv
  obtain ⟨rfl, hsz, hP, hK, hD0, hT⟩ := hv
  have hx := B.exec
  have hb := B.bytes
  have hr := B.returns
  have hts := atoms_spec (ws := wmX5_write) B.pre
  have hown : s.vm.findClass RX5 = some m.cls := findClass_of_methodNamed B.named
  have hlocks := B.notSynchronized
  subst hsz
  have hD := hD0.self (sz := s.heap.size)
  generalize hAe : va_A [(q_t, zX5 q_t_characters v_t_count v_t_reached), (q_a1, zX0 q_a1_gates v_a1_count), (q_t_characters, zI cC 320 f_t_characters), (q_a1_gates, zI cI 64 f_a1_gates)] s.heap.size = A at hD hT ⊢
  have hA : ∀ q : Nat, s.heap.size ≤ q → A q := fun q h => by rw [← hAe]; exact Or.inr h
  have hS : va_S A s.heap s.heap [] := va_S.rf
  have hP : va_P D vwCl [(q_t, zX5 q_t_characters v_t_count v_t_reached), (q_a1, zX0 q_a1_gates v_a1_count), (q_t_characters, zI cC 320 f_t_characters), (q_a1_gates, zI cI 64 f_a1_gates)] s.heap := hP
  have hl := lv_entry ([.ref q_t, .ref q_a1]) (n := 3) (Nat.le_of_ble_eq_true rfl)
  rw [lg_entry_eq]
  generalize (lg_sl ([.ref q_t, .ref q_a1]) ++ List.replicate (3 - (lg_sl ([.ref q_t, .ref q_a1])).length) Slot.unset).toArray = ls at hl ⊢
  have hl : lv_has ls 3 [(0, .ref q_t), (1, .ref q_a1)] := hl
  have L_6 : ∀ (n : Nat), ∀ (x2 : Int32) (v_t_count : Int32) (f_t_characters : Nat → Int32) (H : Heap) (locs : List Loc) (ls : Array Slot), va_P D vwCl [(q_t, zX5 q_t_characters v_t_count v_t_reached), (q_a1, zX0 q_a1_gates v_a1_count), (q_t_characters, zI cC 320 f_t_characters), (q_a1_gates, zI cI 64 f_a1_gates)] H → va_D A [(q_t, zX5 q_t_characters v_t_count v_t_reached), (q_a1, zX0 q_a1_gates v_a1_count), (q_t_characters, zI cC 320 f_t_characters), (q_a1_gates, zI cI 64 f_a1_gates)] → va_S A s.heap H locs → lv_has ls 3 [(0, .ref q_t), (1, .ref q_a1), (2, .int x2)] → wpX5_write_6 Q  v_a1_count f_a1_gates n x2 v_t_count f_t_characters → W p l e (headSpec wmX5_write zrX5_write).room s m ([.ref q_t, .ref q_a1] : List Value).toArray below meth c H locs 0 0 (MQ below (va_Qv (fun u : (Int32) × (Nat → Int32) => Q (u.1) (u.2)) (fun u t => zAt D A [(q_t, zX5 q_t_characters (u.1) v_t_reached), (q_a1, zX0 q_a1_gates v_a1_count), (q_t_characters, zI cC 320 (u.2)), (q_a1_gates, zI cI 64 f_a1_gates)] t) A) ([.ref q_t, .ref q_a1] : List Value).toArray s 0 0 A) (F0 m 6 ls []) := by
    intro n
    induction n with
    | zero => intro x2 v_t_count f_t_characters H locs ls hP hD hS hl hw; exact False.elim hw
    | succ n_6 ih_6 =>
      have J_24 : ∀ (x2 : Int32) (v_t_count : Int32) (f_t_characters : Nat → Int32) (H : Heap) (locs : List Loc) (ls : Array Slot), va_P D vwCl [(q_t, zX5 q_t_characters v_t_count v_t_reached), (q_a1, zX0 q_a1_gates v_a1_count), (q_t_characters, zI cC 320 f_t_characters), (q_a1_gates, zI cI 64 f_a1_gates)] H → va_D A [(q_t, zX5 q_t_characters v_t_count v_t_reached), (q_a1, zX0 q_a1_gates v_a1_count), (q_t_characters, zI cC 320 f_t_characters), (q_a1_gates, zI cI 64 f_a1_gates)] → va_S A s.heap H locs → lv_has ls 3 [(0, .ref q_t), (1, .ref q_a1), (2, .int x2)] → wpX5_write_24 Q (wpX5_write_6 Q  v_a1_count f_a1_gates n_6) v_a1_count f_a1_gates x2 v_t_count f_t_characters → W p l e (headSpec wmX5_write zrX5_write).room s m ([.ref q_t, .ref q_a1] : List Value).toArray below meth c H locs 0 0 (MQ below (va_Qv (fun u : (Int32) × (Nat → Int32) => Q (u.1) (u.2)) (fun u t => zAt D A [(q_t, zX5 q_t_characters (u.1) v_t_reached), (q_a1, zX0 q_a1_gates v_a1_count), (q_t_characters, zI cC 320 (u.2)), (q_a1_gates, zI cI 64 f_a1_gates)] t) A) ([.ref q_t, .ref q_a1] : List Value).toArray s 0 0 A) (F0 m 24 ls []) := by
        intro x2 v_t_count f_t_characters H locs ls hP hD hS hl hw
        unfold wpX5_write_24 at hw
        refine lv_aload_n hx hb dX5_write_24 rfl (lv_at hl 0 rfl) ?_
        refine lv_aload_n hx hb dX5_write_25 rfl (lv_at hl 1 rfl) ?_
        refine lv_iload_n hx hb dX5_write_26 rfl (lv_at hl 2 rfl) ?_
        refine z_ri (va_runV (As := [.int x2]) (rest := [.ref q_t]) ⟨hx, hb, hml, hown, hts⟩ (zkX0_at l D cI cJ cC q_a1 q_a1_gates x2 v_a1_count f_a1_gates hw) (cwV 1 hts (z_gV wm_355 wm_13 wm_14 wm_15 wm_8) rfl rfl rfl (by decide +kernel) ⟨Nat.le_of_ble_eq_true rfl, Nat.le_of_ble_eq_true rfl⟩) (z_pvR hK hP [1, 3] rfl 1 0 rfl rfl) rfl rfl hl.1 rfl (lv_room (Nat.le_of_ble_eq_true rfl)) dX5_write_27 ⟨Nat.zero_le _, Nat.zero_le _⟩) (fun r4 hw => ?_)
        refine z_wv (wc := [(q_t, zX5 q_t_characters v_t_count v_t_reached), (q_t_characters, zI cC 320 f_t_characters)]) (wr := [(q_a1, zX0 q_a1_gates v_a1_count), (q_a1_gates, zI cI 64 f_a1_gates)]) (W1 := fun u : (Int32) × (Nat → Int32) => [(q_t, zX5 q_t_characters (u.1) v_t_reached), (q_t_characters, zI cC 320 (u.2))]) (va_runV (As := [.int r4]) (rest := []) ⟨hx, hb, hml, hown, hts⟩ (zkX5_writeGate l qk qv D cI cJ cC q_t q_t_characters _ r4 v_t_count v_t_reached f_t_characters hw) (cwV 1 hts (z_gV wm_356 wm_357 wm_358 wm_295 wm_350) rfl rfl rfl (by decide +kernel) ⟨Nat.le_of_ble_eq_true rfl, Nat.le_of_ble_eq_true rfl⟩) (z_pvWX hK hP hD hS hA hT [0, 2] rfl (by decide) rfl 0 4 rfl rfl) rfl rfl hl.1 rfl (lv_room (Nat.le_of_ble_eq_true rfl)) dX5_write_30 ⟨Nat.zero_le _, Nat.zero_le _⟩) hP hD hS hA [0, 2] [1, 3] rfl rfl (by decide) (by decide) (fun u9 H locs hw hP hD hS => ?_)
        obtain ⟨u5, u6⟩ := u9
        have hP : va_P D vwCl [(q_a1, zX0 q_a1_gates v_a1_count), (q_a1_gates, zI cI 64 f_a1_gates), (q_t, zX5 q_t_characters u5 v_t_reached), (q_t_characters, zI cC 320 u6)] H := hP
        have hD : va_D A [(q_a1, zX0 q_a1_gates v_a1_count), (q_a1_gates, zI cI 64 f_a1_gates), (q_t, zX5 q_t_characters u5 v_t_reached), (q_t_characters, zI cC 320 u6)] := hD
        try dsimp only at hw
        refine lv_iinc (v := (x2 + 1)) (lv' := [(2, .int (x2 + 1)), (0, .ref q_t), (1, .ref q_a1)]) hx hb dX5_write_33 hl (k := 2) rfl rfl (by decide) rfl (fun ls hl => ?_)
        refine lv_goto (tgt := 6) hx hb dX5_write_36 (by decide) ?_
        exact ih_6 (x2 + 1) u5 u6 _ _ _ (hP.sub [2, 0, 3, 1] rfl) (hD.sub [2, 0, 3, 1] (by decide) rfl) hS (lv_sub hl [1, 2, 0] rfl) hw
      intro x2 v_t_count f_t_characters H locs ls hP hD hS hl hw
      have hw : wpX5_write_6b Q  (wpX5_write_6 Q  v_a1_count f_a1_gates n_6) v_a1_count f_a1_gates x2 v_t_count f_t_characters := hw
      refine lv_iload_n hx hb dX5_write_6 rfl (lv_at hl 2 rfl) ?_
      refine lv_aload_n hx hb dX5_write_7 rfl (lv_at hl 1 rfl) ?_
      refine z_vi (va_runV (As := []) (rest := [.int x2]) ⟨hx, hb, hml, hown, hts⟩ (zkX0_count l D cI cJ cC q_a1 q_a1_gates  v_a1_count) (cwV 0 hts (z_gV wm_354 wm_181 wm_182 wm_15 wm_7) rfl rfl rfl (by decide +kernel) ⟨Nat.le_of_ble_eq_true rfl, Nat.le_of_ble_eq_true rfl⟩) (z_pvR hK hP [1] rfl 1 0 rfl rfl) rfl rfl hl.1 rfl (lv_room (Nat.le_of_ble_eq_true rfl)) dX5_write_8 ⟨Nat.zero_le _, Nat.zero_le _⟩) ?_
      refine lv_icmp_ge (tgt := 39) hx hb dX5_write_11 (by decide) (fun c2 => ?_) (fun c2 => ?_)
      · have hw := hw.1 c2
        exact W.vret hx hb hr (fun t ht hW => ⟨⟨(v_t_count, f_t_characters), rfl, hw, ⟨by rw [ht]; exact hP, hD⟩⟩, hS.F ht⟩) hS.2.2 dX5_write_39
      · have hw := hw.2 c2
        refine lv_iload_n hx hb dX5_write_14 rfl (lv_at hl 2 rfl) ?_
        refine lv_if_le (tgt := 24) hx hb dX5_write_15 (by decide) (fun c3 => ?_) (fun c3 => ?_)
        · have hw := hw.1 c3
          exact J_24 x2 v_t_count f_t_characters _ _ _ hP hD hS hl hw
        · have hw := hw.2 c3
          refine lv_aload_n hx hb dX5_write_18 rfl (lv_at hl 0 rfl) ?_
          refine lv_bipush (v := 32) hx hb dX5_write_19 (by decide) ?_
          refine z_wv (wc := [(q_t, zX5 q_t_characters v_t_count v_t_reached), (q_t_characters, zI cC 320 f_t_characters)]) (wr := [(q_a1, zX0 q_a1_gates v_a1_count), (q_a1_gates, zI cI 64 f_a1_gates)]) (W1 := fun u : (Int32) × (Nat → Int32) => [(q_t, zX5 q_t_characters (u.1) v_t_reached), (q_t_characters, zI cC 320 (u.2))]) (va_runV (As := [.int 32]) (rest := []) ⟨hx, hb, hml, hown, hts⟩ (zkX5_put l D cI cJ cC q_t q_t_characters _ 32 v_t_count v_t_reached f_t_characters hw) (cwV 1 hts (z_gV wm_296 wm_297 wm_298 wm_295 wm_291) rfl rfl rfl (by decide +kernel) ⟨Nat.le_of_ble_eq_true rfl, Nat.le_of_ble_eq_true rfl⟩) (z_pvW hK hP hD [0, 2] rfl (by decide) rfl 0 4 rfl rfl) rfl rfl hl.1 rfl (lv_room (Nat.le_of_ble_eq_true rfl)) dX5_write_21 ⟨Nat.zero_le _, Nat.zero_le _⟩) hP hD hS hA [0, 2] [1, 3] rfl rfl (by decide) (by decide) (fun u9 H locs hw hP hD hS => ?_)
          obtain ⟨u7, u8⟩ := u9
          have hP : va_P D vwCl [(q_a1, zX0 q_a1_gates v_a1_count), (q_a1_gates, zI cI 64 f_a1_gates), (q_t, zX5 q_t_characters u7 v_t_reached), (q_t_characters, zI cC 320 u8)] H := hP
          have hD : va_D A [(q_a1, zX0 q_a1_gates v_a1_count), (q_a1_gates, zI cI 64 f_a1_gates), (q_t, zX5 q_t_characters u7 v_t_reached), (q_t_characters, zI cC 320 u8)] := hD
          try dsimp only at hw
          exact J_24 x2 u7 u8 _ _ _ (hP.sub [2, 0, 3, 1] rfl) (hD.sub [2, 0, 3, 1] (by decide) rfl) hS hl hw
  refine lv_aload_n hx hb dX5_write_0 rfl (lv_at hl 0 rfl) ?_
  refine z_wv (wc := [(q_t, zX5 q_t_characters v_t_count v_t_reached)]) (wr := [(q_a1, zX0 q_a1_gates v_a1_count), (q_t_characters, zI cC 320 f_t_characters), (q_a1_gates, zI cI 64 f_a1_gates)]) (W1 := fun u : (Int32) => [(q_t, zX5 q_t_characters u v_t_reached)]) (va_runV (As := []) (rest := []) ⟨hx, hb, hml, hown, hts⟩ (zkX5_removeAll l D cI cJ cC q_t q_t_characters _  v_t_count v_t_reached hw) (cwV 0 hts (z_gV wm_351 wm_352 wm_353 wm_295 wm_288) rfl rfl rfl (by decide +kernel) ⟨Nat.le_of_ble_eq_true rfl, Nat.le_of_ble_eq_true rfl⟩) (z_pvW hK hP hD [0] rfl (by decide) rfl 0 4 rfl rfl) rfl rfl hl.1 rfl (lv_room (Nat.le_of_ble_eq_true rfl)) dX5_write_1 ⟨Nat.zero_le _, Nat.zero_le _⟩) hP hD hS hA [0] [1, 2, 3] rfl rfl (by decide) (by decide) (fun u9 H locs hw hP hD hS => ?_)
  obtain ⟨u1, rfl⟩ : ∃ z, z = u9 := ⟨_, rfl⟩
  have hP : va_P D vwCl [(q_a1, zX0 q_a1_gates v_a1_count), (q_t_characters, zI cC 320 f_t_characters), (q_a1_gates, zI cI 64 f_a1_gates), (q_t, zX5 q_t_characters u1 v_t_reached)] H := hP
  have hD : va_D A [(q_a1, zX0 q_a1_gates v_a1_count), (q_t_characters, zI cC 320 f_t_characters), (q_a1_gates, zI cI 64 f_a1_gates), (q_t, zX5 q_t_characters u1 v_t_reached)] := hD
  try dsimp only at hw
  refine lv_iconst (v := 0) hx hb dX5_write_4 (by decide) ?_
  refine lv_istore_n (lv' := [(2, .int 0), (0, .ref q_t), (1, .ref q_a1)]) hx hb dX5_write_5 rfl hl (by decide) rfl (fun ls hl => ?_)
  obtain ⟨n_6, hw⟩ := hw
  exact L_6 n_6 0 u1 f_t_characters _ _ _ (hP.sub [3, 0, 1, 2] rfl) (hD.sub [3, 0, 1, 2] (by decide) rfl) hS (lv_sub hl [1, 2, 0] rfl) hw

def wpX5_parseGate_60b (Q : Int32 → (Int32) → Prop)  (R_60 : (Int32) → (Int32) → (Int32) → (Int32) → (Int32) → (Int32) → (Int32) → Prop) (v_t_count : Int32) (f_t_characters : Nat → Int32) (x1 : Int32) (x2 : Int32) (x3 : Int32) (x4 : Int32) (x5 : Int32) (x6 : Int32) (v_t_reached : Int32) : Prop := (((zvX2_wiresOf x2) ≤ x6 → Q x3 v_t_reached) ∧ (¬ (zvX2_wiresOf x2) ≤ x6 → wpX5_at (fun r4 : Int32 => (((r4 - 48) < 0 → Q (-1) v_t_reached) ∧ (¬ (r4 - 48) < 0 → ((x1 ≤ (r4 - 48) → Q (-1) v_t_reached) ∧ (¬ x1 ≤ (r4 - 48) → ((((x5 >>> ((r4 - 48) &&& 31)) &&& 1) = 1 → Q (-1) v_t_reached) ∧ (¬ ((x5 >>> ((r4 - 48) &&& 31)) &&& 1) = 1 → ∀ x3_8 : Int32, x3_8 = (x3 + (x4 * (r4 - 48))) → ∀ x5_9 : Int32, x5_9 = (x5 ||| ((1 : Int32) <<< ((r4 - 48) &&& 31))) → R_60 x1 x2 x3_8 (x4 * 10) x5_9 (x6 + 1) (v_t_reached + 1)))))))) v_t_reached v_t_count f_t_characters))
def wpX5_parseGate_60 (Q : Int32 → (Int32) → Prop)  (v_t_count : Int32) (f_t_characters : Nat → Int32) : Nat → (Int32) → (Int32) → (Int32) → (Int32) → (Int32) → (Int32) → (Int32) → Prop
  | 0 => fun _ _ _ _ _ _ _ => False
  | n + 1 => fun x1 x2 x3 x4 x5 x6 v_t_reached => wpX5_parseGate_60b Q  (wpX5_parseGate_60 Q  v_t_count f_t_characters n) v_t_count f_t_characters x1 x2 x3 x4 x5 x6 v_t_reached
def wpX5_parseGate_31 (Q : Int32 → (Int32) → Prop)  (v_t_count : Int32) (f_t_characters : Nat → Int32) (x1 : Int32) (y0 : Int32) (v_t_reached : Int32) : Prop := ((y0 = 0 → Q (-1) v_t_reached) ∧ (¬ y0 = 0 → ∃ n : Nat, wpX5_parseGate_60 Q  v_t_count f_t_characters n x1 y0 y0 10 0 0 (v_t_reached + 1)))
def wpX5_parseGate (Q : Int32 → (Int32) → Prop) (a1 : Int32) (v_t_count : Int32) (f_t_characters : Nat → Int32) (v_t_reached : Int32) : Prop := ((v_t_count ≤ v_t_reached → wpX5_parseGate_31 Q  v_t_count f_t_characters a1 0 v_t_reached) ∧ (¬ v_t_count ≤ v_t_reached → wpX5_at (fun r10 : Int32 => wpX5_parseGate_31 Q  v_t_count f_t_characters a1 ((zvS_indexOf ((r10.toUInt32 % 65536).toInt32)) + 1) v_t_reached) v_t_reached v_t_count f_t_characters))
abbrev zrX5_parseGate : Room := { frames := 4, cells := 0, slots := 0, locals := 91 }
set_option maxHeartbeats 4000000 in
set_option maxRecDepth 100000 in
theorem zkX5_parseGate (l : Launch) (qk qv : Nat) (D : va_G) (cI cJ cC : ClassId) (q_t q_t_characters : Nat) (sz : Nat) (a1 : Int32) (v_t_count : Int32) (v_t_reached : Int32) (f_t_characters : Nat → Int32) {Q : Int32 → (Int32) → Prop} (hw : wpX5_parseGate Q a1 v_t_count f_t_characters v_t_reached) : Met l yX5_parseGate wmX5_parseGate zrX5_parseGate (zPreWX qk qv D (zT cI cJ cC) [(q_t, zX5 q_t_characters v_t_count v_t_reached), (q_t_characters, zI cC 320 f_t_characters)] sz [.ref q_t, .int a1]) (va_Qi (fun (r : Int32) (u : (Int32)) => Q r u) (fun u t => zAt D (va_A [(q_t, zX5 q_t_characters v_t_count v_t_reached), (q_t_characters, zI cC 320 f_t_characters)] sz) [(q_t, zX5 q_t_characters v_t_count u), (q_t_characters, zI cC 320 f_t_characters)] t) (va_A [(q_t, zX5 q_t_characters v_t_count v_t_reached), (q_t_characters, zI cC 320 f_t_characters)] sz)) 0 0 (va_A [(q_t, zX5 q_t_characters v_t_count v_t_reached), (q_t_characters, zI cC 320 f_t_characters)] sz) := by
  refine Met.ofW (cc := cX5_parseGate) (maxL := 8) (ret := (some .int)) (by decide) rfl ?_
  intro p e s m args below meth c s₁ B hml hv
  obtain ⟨rfl, hsz, hP, hK, hD0, hT⟩ := hv
  have hx := B.exec
  have hb := B.bytes
  have hr := B.returns
  have hts := atoms_spec (ws := wmX5_parseGate) B.pre
  have hown : s.vm.findClass RX5 = some m.cls := findClass_of_methodNamed B.named
  have hlocks := B.notSynchronized
  subst hsz
  have hD := hD0.self (sz := s.heap.size)
  generalize hAe : va_A [(q_t, zX5 q_t_characters v_t_count v_t_reached), (q_t_characters, zI cC 320 f_t_characters)] s.heap.size = A at hD hT ⊢
  have hA : ∀ q : Nat, s.heap.size ≤ q → A q := fun q h => by rw [← hAe]; exact Or.inr h
  have hS : va_S A s.heap s.heap [] := va_S.rf
  have hP : va_P D vwCl [(q_t, zX5 q_t_characters v_t_count v_t_reached), (q_t_characters, zI cC 320 f_t_characters)] s.heap := hP
  have hw_1 := hts _ (z_in wm_285)
  have hw_2 : ∀ w ∈ u_ws RX5 TX5 3, w ∈ wmX5_parseGate := fun w h => z_in (wi_wsX50 w h)
  have hw_3 := hts _ (z_in wm_284)
  have hl := lv_entry ([.ref q_t, .int a1]) (n := 8) (Nat.le_of_ble_eq_true rfl)
  rw [lg_entry_eq]
  generalize (lg_sl ([.ref q_t, .int a1]) ++ List.replicate (8 - (lg_sl ([.ref q_t, .int a1])).length) Slot.unset).toArray = ls at hl ⊢
  have hl : lv_has ls 8 [(0, .ref q_t), (1, .int a1)] := hl
  have L_60 : ∀ (n : Nat), ∀ (x1 : Int32) (x2 : Int32) (x3 : Int32) (x4 : Int32) (x5 : Int32) (x6 : Int32) (v_t_reached : Int32) (H : Heap) (locs : List Loc) (ls : Array Slot), va_P D vwCl [(q_t, zX5 q_t_characters v_t_count v_t_reached), (q_t_characters, zI cC 320 f_t_characters)] H → va_D A [(q_t, zX5 q_t_characters v_t_count v_t_reached), (q_t_characters, zI cC 320 f_t_characters)] → va_S A s.heap H locs → lv_has ls 8 [(0, .ref q_t), (1, .int x1), (2, .int x2), (3, .int x3), (4, .int x4), (5, .int x5), (6, .int x6)] → wpX5_parseGate_60 Q  v_t_count f_t_characters n x1 x2 x3 x4 x5 x6 v_t_reached → W p l e (headSpec wmX5_parseGate zrX5_parseGate).room s m ([.ref q_t, .int a1] : List Value).toArray below meth c H locs 0 0 (MQ below (va_Qi (fun (r : Int32) (u : (Int32)) => Q r u) (fun u t => zAt D A [(q_t, zX5 q_t_characters v_t_count u), (q_t_characters, zI cC 320 f_t_characters)] t) A) ([.ref q_t, .int a1] : List Value).toArray s 0 0 A) (F0 m 60 ls []) := by
    intro n
    induction n with
    | zero => intro x1 x2 x3 x4 x5 x6 v_t_reached H locs ls hP hD hS hl hw; exact False.elim hw
    | succ n_60 ih_60 =>
      intro x1 x2 x3 x4 x5 x6 v_t_reached H locs ls hP hD hS hl hw
      have hw : wpX5_parseGate_60b Q  (wpX5_parseGate_60 Q  v_t_count f_t_characters n_60) v_t_count f_t_characters x1 x2 x3 x4 x5 x6 v_t_reached := hw
      refine lv_iload hx hb dX5_parseGate_60 (lv_at hl 6 rfl) ?_
      refine lv_iload_n hx hb dX5_parseGate_62 rfl (lv_at hl 2 rfl) ?_
      refine z_vi (va_runS (As := [.int x2]) (rest := [.int x6]) ⟨hx, hb, hml, hown, hts⟩ (zkX2_wiresOf l   x2 ) (va_cwS 1 hts (z_gS wm_349 wm_42 wm_30 wm_39) rfl rfl rfl (by decide +kernel) ⟨Nat.le_of_ble_eq_true rfl, Nat.le_of_ble_eq_true rfl⟩) z_psS rfl rfl hl.1 rfl (lv_room (Nat.le_of_ble_eq_true rfl)) dX5_parseGate_63 ⟨Nat.zero_le _, Nat.zero_le _⟩) ?_
      refine lv_icmp_ge (tgt := 146) hx hb dX5_parseGate_66 (by decide) (fun c3 => ?_) (fun c3 => ?_)
      · have hw := hw.1 c3
        refine lv_iload_n hx hb dX5_parseGate_146 rfl (lv_at hl 3 rfl) ?_
        exact W.iret (v := x3) hx hb hr (fun t ht hW => ⟨⟨x3, (v_t_reached), rfl, hw, ⟨by rw [ht]; exact hP, hD⟩⟩, hS.F ht⟩) hS.2.2 dX5_parseGate_147
      · have hw := hw.2 c3
        refine lv_aload_n hx hb dX5_parseGate_69 rfl (lv_at hl 0 rfl) ?_
        refine lv_aload_n hx hb dX5_parseGate_70 rfl (lv_at hl 0 rfl) ?_
        refine va_get (D := D) (ci := 4) (v := .int v_t_reached) (C := RX5) (T := TX5) (N := 3) hx hb hts hw_2 hown hK hP 0 rfl rfl 2 (by decide) hw_1 (fun _ h9 => h9) rfl dX5_parseGate_71 ?_
        refine z_ri (va_runV (As := [.int v_t_reached]) (rest := []) ⟨hx, hb, hml, hown, hts⟩ (zkX5_at l D cI cJ cC q_t q_t_characters v_t_reached v_t_count v_t_reached f_t_characters hw) (cwV 1 hts (z_gV wm_418 wm_419 wm_420 wm_295 wm_287) rfl rfl rfl (by decide +kernel) ⟨Nat.le_of_ble_eq_true rfl, Nat.le_of_ble_eq_true rfl⟩) (z_pvR hK hP [0, 1] rfl 0 4 rfl rfl) rfl rfl hl.1 rfl (lv_room (Nat.le_of_ble_eq_true rfl)) dX5_parseGate_74 ⟨Nat.zero_le _, Nat.zero_le _⟩) (fun r4 hw => ?_)
        refine lv_bipush (v := 48) hx hb dX5_parseGate_77 (by decide) ?_
        refine lv_isub hx hb dX5_parseGate_79 ?_
        refine lv_istore (lv' := [(7, .int (r4 - 48)), (0, .ref q_t), (1, .int x1), (2, .int x2), (3, .int x3), (4, .int x4), (5, .int x5), (6, .int x6)]) hx hb dX5_parseGate_80 hl (by decide) rfl (fun ls hl => ?_)
        refine lv_iload hx hb dX5_parseGate_82 (lv_at hl 0 rfl) ?_
        refine lv_if_lt (tgt := 104) hx hb dX5_parseGate_84 (by decide) (fun c5 => ?_) (fun c5 => ?_)
        · have hw := hw.1 c5
          refine lv_iconst (v := -1) hx hb dX5_parseGate_104 (by decide) ?_
          exact W.iret (v := (-1)) hx hb hr (fun t ht hW => ⟨⟨(-1), (v_t_reached), rfl, hw, ⟨by rw [ht]; exact hP, hD⟩⟩, hS.F ht⟩) hS.2.2 dX5_parseGate_105
        · have hw := hw.2 c5
          refine lv_iload hx hb dX5_parseGate_87 (lv_at hl 0 rfl) ?_
          refine lv_iload_n hx hb dX5_parseGate_89 rfl (lv_at hl 2 rfl) ?_
          refine lv_icmp_ge (tgt := 104) hx hb dX5_parseGate_90 (by decide) (fun c6 => ?_) (fun c6 => ?_)
          · have hw := hw.1 c6
            refine lv_iconst (v := -1) hx hb dX5_parseGate_104 (by decide) ?_
            exact W.iret (v := (-1)) hx hb hr (fun t ht hW => ⟨⟨(-1), (v_t_reached), rfl, hw, ⟨by rw [ht]; exact hP, hD⟩⟩, hS.F ht⟩) hS.2.2 dX5_parseGate_105
          · have hw := hw.2 c6
            refine lv_iload hx hb dX5_parseGate_93 (lv_at hl 6 rfl) ?_
            refine lv_iload hx hb dX5_parseGate_95 (lv_at hl 0 rfl) ?_
            refine lv_ishr hx hb dX5_parseGate_97 ?_
            refine lv_iconst (v := 1) hx hb dX5_parseGate_98 (by decide) ?_
            refine lv_iand hx hb dX5_parseGate_99 ?_
            refine lv_iconst (v := 1) hx hb dX5_parseGate_100 (by decide) ?_
            refine lv_icmp_ne (tgt := 106) hx hb dX5_parseGate_101 (by decide) (fun c7 => ?_) (fun c7 => ?_)
            · have hw := hw.2 c7
              refine lv_aload_n hx hb dX5_parseGate_106 rfl (lv_at hl 1 rfl) ?_
              refine lv_dup hx hb dX5_parseGate_107 rfl ?_
              refine va_get (D := D) (ci := 4) (v := .int v_t_reached) (C := RX5) (T := TX5) (N := 3) hx hb hts hw_2 hown hK hP 0 rfl rfl 2 (by decide) hw_1 (fun _ h9 => h9) rfl dX5_parseGate_108 ?_
              refine lv_iconst (v := 1) hx hb dX5_parseGate_111 (by decide) ?_
              refine lv_iadd hx hb dX5_parseGate_112 ?_
              refine va_put (D := D) (ci := 4) (v := .int (v_t_reached + 1)) (ty := .int) (C := RX5) (T := TX5) (N := 3) hx hb hts hw_2 tyX5 tyX5_ok nmX5 hown hK hP hD hS 0 rfl rfl 2 (by decide) hw_1 (fun _ h9 => h9) rfl (by decide +kernel) rfl rfl (Nat.le_of_ble_eq_true rfl) dX5_parseGate_113 (fun H locs hP hD hS => ?_)
              have hP : va_P D vwCl [(q_t, zX5 q_t_characters v_t_count (v_t_reached + 1)), (q_t_characters, zI cC 320 f_t_characters)] H := hP
              have hD : va_D A [(q_t, zX5 q_t_characters v_t_count (v_t_reached + 1)), (q_t_characters, zI cC 320 f_t_characters)] := hD
              refine lv_iload_n hx hb dX5_parseGate_116 rfl (lv_at hl 4 rfl) ?_
              refine lv_iload hx hb dX5_parseGate_117 (lv_at hl 5 rfl) ?_
              refine lv_iload hx hb dX5_parseGate_119 (lv_at hl 0 rfl) ?_
              refine lv_imul hx hb dX5_parseGate_121 ?_
              refine lv_iadd hx hb dX5_parseGate_122 ?_
              refine lv_topi (fun x3_8 ex3_8 => ?_)
              have hw := hw x3_8 ex3_8
              refine lv_istore_n (lv' := [(3, .int x3_8), (7, .int (r4 - 48)), (0, .ref q_t), (1, .int x1), (2, .int x2), (4, .int x4), (5, .int x5), (6, .int x6)]) hx hb dX5_parseGate_123 rfl hl (by decide) rfl (fun ls hl => ?_)
              refine lv_iload hx hb dX5_parseGate_124 (lv_at hl 5 rfl) ?_
              refine lv_bipush (v := 10) hx hb dX5_parseGate_126 (by decide) ?_
              refine lv_imul hx hb dX5_parseGate_128 ?_
              refine lv_istore (lv' := [(4, .int (x4 * 10)), (3, .int x3_8), (7, .int (r4 - 48)), (0, .ref q_t), (1, .int x1), (2, .int x2), (5, .int x5), (6, .int x6)]) hx hb dX5_parseGate_129 hl (by decide) rfl (fun ls hl => ?_)
              refine lv_iload hx hb dX5_parseGate_131 (lv_at hl 6 rfl) ?_
              refine lv_iconst (v := 1) hx hb dX5_parseGate_133 (by decide) ?_
              refine lv_iload hx hb dX5_parseGate_134 (lv_at hl 2 rfl) ?_
              refine lv_ishl hx hb dX5_parseGate_136 ?_
              refine lv_ior hx hb dX5_parseGate_137 ?_
              refine lv_topi (fun x5_9 ex5_9 => ?_)
              have hw := hw x5_9 ex5_9
              refine lv_istore (lv' := [(5, .int x5_9), (4, .int (x4 * 10)), (3, .int x3_8), (7, .int (r4 - 48)), (0, .ref q_t), (1, .int x1), (2, .int x2), (6, .int x6)]) hx hb dX5_parseGate_138 hl (by decide) rfl (fun ls hl => ?_)
              refine lv_iinc (v := (x6 + 1)) (lv' := [(6, .int (x6 + 1)), (5, .int x5_9), (4, .int (x4 * 10)), (3, .int x3_8), (7, .int (r4 - 48)), (0, .ref q_t), (1, .int x1), (2, .int x2)]) hx hb dX5_parseGate_140 hl (k := 7) rfl rfl (by decide) rfl (fun ls hl => ?_)
              refine lv_goto (tgt := 60) hx hb dX5_parseGate_143 (by decide) ?_
              exact ih_60 x1 x2 x3_8 (x4 * 10) x5_9 (x6 + 1) (v_t_reached + 1) _ _ _ hP hD hS (lv_sub hl [5, 6, 7, 3, 2, 1, 0] rfl) hw
            · have hw := hw.1 c7
              refine lv_iconst (v := -1) hx hb dX5_parseGate_104 (by decide) ?_
              exact W.iret (v := (-1)) hx hb hr (fun t ht hW => ⟨⟨(-1), (v_t_reached), rfl, hw, ⟨by rw [ht]; exact hP, hD⟩⟩, hS.F ht⟩) hS.2.2 dX5_parseGate_105
  have J_31 : ∀ (x1 : Int32) (y0 : Int32) (v_t_reached : Int32) (H : Heap) (locs : List Loc) (ls : Array Slot), va_P D vwCl [(q_t, zX5 q_t_characters v_t_count v_t_reached), (q_t_characters, zI cC 320 f_t_characters)] H → va_D A [(q_t, zX5 q_t_characters v_t_count v_t_reached), (q_t_characters, zI cC 320 f_t_characters)] → va_S A s.heap H locs → lv_has ls 8 [(0, .ref q_t), (1, .int x1)] → wpX5_parseGate_31 Q  v_t_count f_t_characters x1 y0 v_t_reached → W p l e (headSpec wmX5_parseGate zrX5_parseGate).room s m ([.ref q_t, .int a1] : List Value).toArray below meth c H locs 0 0 (MQ below (va_Qi (fun (r : Int32) (u : (Int32)) => Q r u) (fun u t => zAt D A [(q_t, zX5 q_t_characters v_t_count u), (q_t_characters, zI cC 320 f_t_characters)] t) A) ([.ref q_t, .int a1] : List Value).toArray s 0 0 A) (F0 m 31 ls [.int y0]) := by
    intro x1 y0 v_t_reached H locs ls hP hD hS hl hw
    unfold wpX5_parseGate_31 at hw
    refine lv_istore_n (lv' := [(2, .int y0), (0, .ref q_t), (1, .int x1)]) hx hb dX5_parseGate_31 rfl hl (by decide) rfl (fun ls hl => ?_)
    refine lv_iload_n hx hb dX5_parseGate_32 rfl (lv_at hl 0 rfl) ?_
    refine lv_if_ne (tgt := 38) hx hb dX5_parseGate_33 (by decide) (fun c2 => ?_) (fun c2 => ?_)
    · have hw := hw.2 c2
      refine lv_aload_n hx hb dX5_parseGate_38 rfl (lv_at hl 1 rfl) ?_
      refine lv_dup hx hb dX5_parseGate_39 rfl ?_
      refine va_get (D := D) (ci := 4) (v := .int v_t_reached) (C := RX5) (T := TX5) (N := 3) hx hb hts hw_2 hown hK hP 0 rfl rfl 2 (by decide) hw_1 (fun _ h9 => h9) rfl dX5_parseGate_40 ?_
      refine lv_iconst (v := 1) hx hb dX5_parseGate_43 (by decide) ?_
      refine lv_iadd hx hb dX5_parseGate_44 ?_
      refine va_put (D := D) (ci := 4) (v := .int (v_t_reached + 1)) (ty := .int) (C := RX5) (T := TX5) (N := 3) hx hb hts hw_2 tyX5 tyX5_ok nmX5 hown hK hP hD hS 0 rfl rfl 2 (by decide) hw_1 (fun _ h9 => h9) rfl (by decide +kernel) rfl rfl (Nat.le_of_ble_eq_true rfl) dX5_parseGate_45 (fun H locs hP hD hS => ?_)
      have hP : va_P D vwCl [(q_t, zX5 q_t_characters v_t_count (v_t_reached + 1)), (q_t_characters, zI cC 320 f_t_characters)] H := hP
      have hD : va_D A [(q_t, zX5 q_t_characters v_t_count (v_t_reached + 1)), (q_t_characters, zI cC 320 f_t_characters)] := hD
      refine lv_iload_n hx hb dX5_parseGate_48 rfl (lv_at hl 0 rfl) ?_
      refine lv_istore_n (lv' := [(3, .int y0), (2, .int y0), (0, .ref q_t), (1, .int x1)]) hx hb dX5_parseGate_49 rfl hl (by decide) rfl (fun ls hl => ?_)
      refine lv_bipush (v := 10) hx hb dX5_parseGate_50 (by decide) ?_
      refine lv_istore (lv' := [(4, .int 10), (3, .int y0), (2, .int y0), (0, .ref q_t), (1, .int x1)]) hx hb dX5_parseGate_52 hl (by decide) rfl (fun ls hl => ?_)
      refine lv_iconst (v := 0) hx hb dX5_parseGate_54 (by decide) ?_
      refine lv_istore (lv' := [(5, .int 0), (4, .int 10), (3, .int y0), (2, .int y0), (0, .ref q_t), (1, .int x1)]) hx hb dX5_parseGate_55 hl (by decide) rfl (fun ls hl => ?_)
      refine lv_iconst (v := 0) hx hb dX5_parseGate_57 (by decide) ?_
      refine lv_istore (lv' := [(6, .int 0), (5, .int 0), (4, .int 10), (3, .int y0), (2, .int y0), (0, .ref q_t), (1, .int x1)]) hx hb dX5_parseGate_58 hl (by decide) rfl (fun ls hl => ?_)
      obtain ⟨n_60, hw⟩ := hw
      exact L_60 n_60 x1 y0 y0 10 0 0 (v_t_reached + 1) _ _ _ hP hD hS (lv_sub hl [5, 6, 4, 3, 2, 1, 0] rfl) hw
    · have hw := hw.1 c2
      refine lv_iconst (v := -1) hx hb dX5_parseGate_36 (by decide) ?_
      exact W.iret (v := (-1)) hx hb hr (fun t ht hW => ⟨⟨(-1), (v_t_reached), rfl, hw, ⟨by rw [ht]; exact hP, hD⟩⟩, hS.F ht⟩) hS.2.2 dX5_parseGate_37
  refine lv_aload_n hx hb dX5_parseGate_0 rfl (lv_at hl 0 rfl) ?_
  refine va_get (D := D) (ci := 4) (v := .int v_t_reached) (C := RX5) (T := TX5) (N := 3) hx hb hts hw_2 hown hK hP 0 rfl rfl 2 (by decide) hw_1 (fun _ h9 => h9) rfl dX5_parseGate_1 ?_
  refine lv_aload_n hx hb dX5_parseGate_4 rfl (lv_at hl 0 rfl) ?_
  refine va_get (D := D) (ci := 4) (v := .int v_t_count) (C := RX5) (T := TX5) (N := 3) hx hb hts hw_2 hown hK hP 0 rfl rfl 1 (by decide) hw_3 (fun _ h9 => h9) rfl dX5_parseGate_5 ?_
  refine lv_icmp_ge (tgt := 30) hx hb dX5_parseGate_8 (by decide) (fun c1 => ?_) (fun c1 => ?_)
  · have hw := hw.1 c1
    refine lv_iconst (v := 0) hx hb dX5_parseGate_30 (by decide) ?_
    exact J_31 a1 0 v_t_reached _ _ _ hP hD hS hl hw
  · have hw := hw.2 c1
    refine va_ldcS hx hb hown hT.1 dX5_parseGate_11 ?_
    refine lv_aload_n hx hb dX5_parseGate_13 rfl (lv_at hl 0 rfl) ?_
    refine lv_aload_n hx hb dX5_parseGate_14 rfl (lv_at hl 0 rfl) ?_
    refine va_get (D := D) (ci := 4) (v := .int v_t_reached) (C := RX5) (T := TX5) (N := 3) hx hb hts hw_2 hown hK hP 0 rfl rfl 2 (by decide) hw_1 (fun _ h9 => h9) rfl dX5_parseGate_15 ?_
    refine z_ri (va_runV (As := [.int v_t_reached]) (rest := [.ref qk]) ⟨hx, hb, hml, hown, hts⟩ (zkX5_at l D cI cJ cC q_t q_t_characters v_t_reached v_t_count v_t_reached f_t_characters hw) (cwV 1 hts (z_gV wm_418 wm_419 wm_420 wm_295 wm_287) rfl rfl rfl (by decide +kernel) ⟨Nat.le_of_ble_eq_true rfl, Nat.le_of_ble_eq_true rfl⟩) (z_pvR hK hP [0, 1] rfl 0 4 rfl rfl) rfl rfl hl.1 rfl (lv_room (Nat.le_of_ble_eq_true rfl)) dX5_parseGate_18 ⟨Nat.zero_le _, Nat.zero_le _⟩) (fun r10 hw => ?_)
    refine lv_i2c hx hb dX5_parseGate_21 rfl ?_
    refine z_vi (va_runV (As := [.int (r10.toUInt32 % 65536).toInt32]) (rest := []) ⟨hx, hb, hml, hown, hts⟩ (zkS_indexOf l qk qv A ((r10.toUInt32 % 65536).toInt32)) (cwV 1 hts (z_gV wm_421 wm_422 wm_423 wm_307 wm_417) rfl rfl rfl (by decide +kernel) ⟨Nat.le_of_ble_eq_true rfl, Nat.le_of_ble_eq_true rfl⟩) (z_pvK hT hS) rfl rfl hl.1 rfl (lv_room (Nat.le_of_ble_eq_true rfl)) dX5_parseGate_22 ⟨Nat.zero_le _, Nat.zero_le _⟩) ?_
    refine lv_iconst (v := 1) hx hb dX5_parseGate_25 (by decide) ?_
    refine lv_iadd hx hb dX5_parseGate_26 ?_
    refine lv_goto (tgt := 31) hx hb dX5_parseGate_27 (by decide) ?_
    exact J_31 a1 ((zvS_indexOf ((r10.toUInt32 % 65536).toInt32)) + 1) v_t_reached _ _ _ hP hD hS hl hw

def wpX5_parse_20b (Q : Int32 → (Int32) → (Int32) → (Nat → Int32) → Prop)  (R_20 : (Int32) → (Int32) → (Int32) → (Int32) → (Nat → Int32) → Prop) (v_t_count : Int32) (f_t_characters : Nat → Int32) (x2 : Int32) (x3 : Int32) (v_t_reached : Int32) (v_a1_count : Int32) (f_a1_gates : Nat → Int32) : Prop := ((64 ≤ x3 → Q v_t_reached v_t_reached v_a1_count f_a1_gates) ∧ (¬ 64 ≤ x3 → wpX5_parseGate (fun (r5 : Int32) (u4 : Int32) => ((r5 = (-1) → Q u4 u4 v_a1_count f_a1_gates) ∧ (¬ r5 = (-1) → wpX0_add (fun (u7 : Int32) (u8 : Nat → Int32) => ((u4 = v_t_count → Q (-1) u4 u7 u8) ∧ (¬ u4 = v_t_count → wpX5_at (fun r10 : Int32 => ((r10 = 32 → R_20 x2 (x3 + 1) (u4 + 1) u7 u8) ∧ (¬ r10 = 32 → Q u4 u4 u7 u8))) u4 v_t_count f_t_characters))) r5 v_a1_count f_a1_gates))) x2 v_t_count f_t_characters v_t_reached))
def wpX5_parse_20 (Q : Int32 → (Int32) → (Int32) → (Nat → Int32) → Prop)  (v_t_count : Int32) (f_t_characters : Nat → Int32) : Nat → (Int32) → (Int32) → (Int32) → (Int32) → (Nat → Int32) → Prop
  | 0 => fun _ _ _ _ _ => False
  | n + 1 => fun x2 x3 v_t_reached v_a1_count f_a1_gates => wpX5_parse_20b Q  (wpX5_parse_20 Q  v_t_count f_t_characters n) v_t_count f_t_characters x2 x3 v_t_reached v_a1_count f_a1_gates
def wpX5_parse (Q : Int32 → (Int32) → (Int32) → (Nat → Int32) → Prop) (a2 : Int32) (v_t_count : Int32) (f_t_characters : Nat → Int32) (v_t_reached : Int32) (v_a1_count : Int32) (f_a1_gates : Nat → Int32) : Prop := wpX0_removeAll (fun (u1 : Int32) => ((v_t_count = 0 → Q (-1) 0 u1 f_a1_gates) ∧ (¬ v_t_count = 0 → ∃ n : Nat, wpX5_parse_20 Q  v_t_count f_t_characters n a2 0 0 u1 f_a1_gates))) v_a1_count
abbrev zrX5_parse : Room := { frames := 5, cells := 0, slots := 0, locals := 118 }
set_option maxHeartbeats 4000000 in
set_option maxRecDepth 100000 in
theorem zkX5_parse (l : Launch) (qk qv : Nat) (D : va_G) (cI cJ cC : ClassId) (q_t q_a1 q_t_characters q_a1_gates : Nat) (sz : Nat) (a2 : Int32) (v_t_count : Int32) (v_t_reached : Int32) (v_a1_count : Int32) (f_t_characters : Nat → Int32) (f_a1_gates : Nat → Int32) {Q : Int32 → (Int32) → (Int32) → (Nat → Int32) → Prop} (hw : wpX5_parse Q a2 v_t_count f_t_characters v_t_reached v_a1_count f_a1_gates) : Met l yX5_parse wmX5_parse zrX5_parse (zPreWX qk qv D (zT cI cJ cC) [(q_t, zX5 q_t_characters v_t_count v_t_reached), (q_a1, zX0 q_a1_gates v_a1_count), (q_t_characters, zI cC 320 f_t_characters), (q_a1_gates, zI cI 64 f_a1_gates)] sz [.ref q_t, .ref q_a1, .int a2]) (va_Qi (fun (r : Int32) (u : (Int32) × (Int32) × (Nat → Int32)) => Q r (u.1) (u.2.1) (u.2.2)) (fun u t => zAt D (va_A [(q_t, zX5 q_t_characters v_t_count v_t_reached), (q_a1, zX0 q_a1_gates v_a1_count), (q_t_characters, zI cC 320 f_t_characters), (q_a1_gates, zI cI 64 f_a1_gates)] sz) [(q_t, zX5 q_t_characters v_t_count (u.1)), (q_a1, zX0 q_a1_gates (u.2.1)), (q_t_characters, zI cC 320 f_t_characters), (q_a1_gates, zI cI 64 (u.2.2))] t) (va_A [(q_t, zX5 q_t_characters v_t_count v_t_reached), (q_a1, zX0 q_a1_gates v_a1_count), (q_t_characters, zI cC 320 f_t_characters), (q_a1_gates, zI cI 64 f_a1_gates)] sz)) 0 0 (va_A [(q_t, zX5 q_t_characters v_t_count v_t_reached), (q_a1, zX0 q_a1_gates v_a1_count), (q_t_characters, zI cC 320 f_t_characters), (q_a1_gates, zI cI 64 f_a1_gates)] sz) := by
  refine Met.ofW (cc := cX5_parse) (maxL := 5) (ret := (some .int)) (by decide) rfl ?_
  intro p e s m args below meth c s₁ B hml hv
  obtain ⟨rfl, hsz, hP, hK, hD0, hT⟩ := hv
  have hx := B.exec
  have hb := B.bytes
  have hr := B.returns
  have hts := atoms_spec (ws := wmX5_parse) B.pre
  have hown : s.vm.findClass RX5 = some m.cls := findClass_of_methodNamed B.named
  have hlocks := B.notSynchronized
  subst hsz
  have hD := hD0.self (sz := s.heap.size)
  generalize hAe : va_A [(q_t, zX5 q_t_characters v_t_count v_t_reached), (q_a1, zX0 q_a1_gates v_a1_count), (q_t_characters, zI cC 320 f_t_characters), (q_a1_gates, zI cI 64 f_a1_gates)] s.heap.size = A at hD hT ⊢
  have hA : ∀ q : Nat, s.heap.size ≤ q → A q := fun q h => by rw [← hAe]; exact Or.inr h
  have hS : va_S A s.heap s.heap [] := va_S.rf
  have hP : va_P D vwCl [(q_t, zX5 q_t_characters v_t_count v_t_reached), (q_a1, zX0 q_a1_gates v_a1_count), (q_t_characters, zI cC 320 f_t_characters), (q_a1_gates, zI cI 64 f_a1_gates)] s.heap := hP
  have hw_1 := hts _ (z_in wm_285)
  have hw_2 : ∀ w ∈ u_ws RX5 TX5 3, w ∈ wmX5_parse := fun w h => z_in (wi_wsX50 w h)
  have hw_3 := hts _ (z_in wm_284)
  have hl := lv_entry ([.ref q_t, .ref q_a1, .int a2]) (n := 5) (Nat.le_of_ble_eq_true rfl)
  rw [lg_entry_eq]
  generalize (lg_sl ([.ref q_t, .ref q_a1, .int a2]) ++ List.replicate (5 - (lg_sl ([.ref q_t, .ref q_a1, .int a2])).length) Slot.unset).toArray = ls at hl ⊢
  have hl : lv_has ls 5 [(0, .ref q_t), (1, .ref q_a1), (2, .int a2)] := hl
  have L_20 : ∀ (n : Nat), ∀ (x2 : Int32) (x3 : Int32) (v_t_reached : Int32) (v_a1_count : Int32) (f_a1_gates : Nat → Int32) (H : Heap) (locs : List Loc) (ls : Array Slot), va_P D vwCl [(q_t, zX5 q_t_characters v_t_count v_t_reached), (q_a1, zX0 q_a1_gates v_a1_count), (q_t_characters, zI cC 320 f_t_characters), (q_a1_gates, zI cI 64 f_a1_gates)] H → va_D A [(q_t, zX5 q_t_characters v_t_count v_t_reached), (q_a1, zX0 q_a1_gates v_a1_count), (q_t_characters, zI cC 320 f_t_characters), (q_a1_gates, zI cI 64 f_a1_gates)] → va_S A s.heap H locs → lv_has ls 5 [(0, .ref q_t), (1, .ref q_a1), (2, .int x2), (3, .int x3)] → wpX5_parse_20 Q  v_t_count f_t_characters n x2 x3 v_t_reached v_a1_count f_a1_gates → W p l e (headSpec wmX5_parse zrX5_parse).room s m ([.ref q_t, .ref q_a1, .int a2] : List Value).toArray below meth c H locs 0 0 (MQ below (va_Qi (fun (r : Int32) (u : (Int32) × (Int32) × (Nat → Int32)) => Q r (u.1) (u.2.1) (u.2.2)) (fun u t => zAt D A [(q_t, zX5 q_t_characters v_t_count (u.1)), (q_a1, zX0 q_a1_gates (u.2.1)), (q_t_characters, zI cC 320 f_t_characters), (q_a1_gates, zI cI 64 (u.2.2))] t) A) ([.ref q_t, .ref q_a1, .int a2] : List Value).toArray s 0 0 A) (F0 m 20 ls []) := by
    intro n
    induction n with
    | zero => intro x2 x3 v_t_reached v_a1_count f_a1_gates H locs ls hP hD hS hl hw; exact False.elim hw
    | succ n_20 ih_20 =>
      intro x2 x3 v_t_reached v_a1_count f_a1_gates H locs ls hP hD hS hl hw
      have hw : wpX5_parse_20b Q  (wpX5_parse_20 Q  v_t_count f_t_characters n_20) v_t_count f_t_characters x2 x3 v_t_reached v_a1_count f_a1_gates := hw
      refine lv_iload_n hx hb dX5_parse_20 rfl (lv_at hl 3 rfl) ?_
      refine lv_bipush (v := 64) hx hb dX5_parse_21 (by decide) ?_
      refine lv_icmp_ge (tgt := 97) hx hb dX5_parse_23 (by decide) (fun c3 => ?_) (fun c3 => ?_)
      · have hw := hw.1 c3
        refine lv_aload_n hx hb dX5_parse_97 rfl (lv_at hl 0 rfl) ?_
        refine va_get (D := D) (ci := 4) (v := .int v_t_reached) (C := RX5) (T := TX5) (N := 3) hx hb hts hw_2 hown hK hP 0 rfl rfl 2 (by decide) hw_1 (fun _ h9 => h9) rfl dX5_parse_98 ?_
        exact W.iret (v := v_t_reached) hx hb hr (fun t ht hW => ⟨⟨v_t_reached, (v_t_reached, v_a1_count, f_a1_gates), rfl, hw, ⟨by rw [ht]; exact hP, hD⟩⟩, hS.F ht⟩) hS.2.2 dX5_parse_101
      · have hw := hw.2 c3
        refine lv_aload_n hx hb dX5_parse_26 rfl (lv_at hl 0 rfl) ?_
        refine lv_iload_n hx hb dX5_parse_27 rfl (lv_at hl 2 rfl) ?_
        refine z_wi (wc := [(q_t, zX5 q_t_characters v_t_count v_t_reached), (q_t_characters, zI cC 320 f_t_characters)]) (wr := [(q_a1, zX0 q_a1_gates v_a1_count), (q_a1_gates, zI cI 64 f_a1_gates)]) (W1 := fun u : (Int32) => [(q_t, zX5 q_t_characters v_t_count u), (q_t_characters, zI cC 320 f_t_characters)]) (va_runV (As := [.int x2]) (rest := []) ⟨hx, hb, hml, hown, hts⟩ (zkX5_parseGate l qk qv D cI cJ cC q_t q_t_characters _ x2 v_t_count v_t_reached f_t_characters hw) (cwV 1 hts (z_gV wm_426 wm_427 wm_428 wm_295 wm_424) rfl rfl rfl (by decide +kernel) ⟨Nat.le_of_ble_eq_true rfl, Nat.le_of_ble_eq_true rfl⟩) (z_pvWX hK hP hD hS hA hT [0, 2] rfl (by decide) rfl 0 4 rfl rfl) rfl rfl hl.1 rfl (lv_room (Nat.le_of_ble_eq_true rfl)) dX5_parse_28 ⟨Nat.zero_le _, Nat.zero_le _⟩) hP hD hS hA [0, 2] [1, 3] rfl rfl (by decide) (by decide) (fun r5 u9 H locs hw hP hD hS => ?_)
        obtain ⟨u4, rfl⟩ : ∃ z, z = u9 := ⟨_, rfl⟩
        have hP : va_P D vwCl [(q_a1, zX0 q_a1_gates v_a1_count), (q_a1_gates, zI cI 64 f_a1_gates), (q_t, zX5 q_t_characters v_t_count u4), (q_t_characters, zI cC 320 f_t_characters)] H := hP
        have hD : va_D A [(q_a1, zX0 q_a1_gates v_a1_count), (q_a1_gates, zI cI 64 f_a1_gates), (q_t, zX5 q_t_characters v_t_count u4), (q_t_characters, zI cC 320 f_t_characters)] := hD
        try dsimp only at hw
        refine lv_istore (lv' := [(4, .int r5), (0, .ref q_t), (1, .ref q_a1), (2, .int x2), (3, .int x3)]) hx hb dX5_parse_31 hl (by decide) rfl (fun ls hl => ?_)
        refine lv_iload hx hb dX5_parse_33 (lv_at hl 0 rfl) ?_
        refine lv_iconst (v := -1) hx hb dX5_parse_35 (by decide) ?_
        refine lv_icmp_ne (tgt := 44) hx hb dX5_parse_36 (by decide) (fun c6 => ?_) (fun c6 => ?_)
        · have hw := hw.2 c6
          refine lv_aload_n hx hb dX5_parse_44 rfl (lv_at hl 2 rfl) ?_
          refine lv_iload hx hb dX5_parse_45 (lv_at hl 0 rfl) ?_
          refine z_wv (wc := [(q_a1, zX0 q_a1_gates v_a1_count), (q_a1_gates, zI cI 64 f_a1_gates)]) (wr := [(q_t, zX5 q_t_characters v_t_count u4), (q_t_characters, zI cC 320 f_t_characters)]) (W1 := fun u : (Int32) × (Nat → Int32) => [(q_a1, zX0 q_a1_gates (u.1)), (q_a1_gates, zI cI 64 (u.2))]) (va_runV (As := [.int r5]) (rest := []) ⟨hx, hb, hml, hown, hts⟩ (zkX0_add l D cI cJ cC q_a1 q_a1_gates _ r5 v_a1_count f_a1_gates hw) (cwV 1 hts (z_gV wm_429 wm_17 wm_18 wm_15 wm_10) rfl rfl rfl (by decide +kernel) ⟨Nat.le_of_ble_eq_true rfl, Nat.le_of_ble_eq_true rfl⟩) (z_pvW hK hP hD [0, 1] rfl (by decide) rfl 0 0 rfl rfl) rfl rfl hl.1 rfl (lv_room (Nat.le_of_ble_eq_true rfl)) dX5_parse_47 ⟨Nat.zero_le _, Nat.zero_le _⟩) hP hD hS hA [0, 1] [2, 3] rfl rfl (by decide) (by decide) (fun u9 H locs hw hP hD hS => ?_)
          obtain ⟨u7, u8⟩ := u9
          have hP : va_P D vwCl [(q_t, zX5 q_t_characters v_t_count u4), (q_t_characters, zI cC 320 f_t_characters), (q_a1, zX0 q_a1_gates u7), (q_a1_gates, zI cI 64 u8)] H := hP
          have hD : va_D A [(q_t, zX5 q_t_characters v_t_count u4), (q_t_characters, zI cC 320 f_t_characters), (q_a1, zX0 q_a1_gates u7), (q_a1_gates, zI cI 64 u8)] := hD
          try dsimp only at hw
          refine lv_aload_n hx hb dX5_parse_50 rfl (lv_at hl 1 rfl) ?_
          refine va_get (D := D) (ci := 4) (v := .int u4) (C := RX5) (T := TX5) (N := 3) hx hb hts hw_2 hown hK hP 0 rfl rfl 2 (by decide) hw_1 (fun _ h9 => h9) rfl dX5_parse_51 ?_
          refine lv_aload_n hx hb dX5_parse_54 rfl (lv_at hl 1 rfl) ?_
          refine va_get (D := D) (ci := 4) (v := .int v_t_count) (C := RX5) (T := TX5) (N := 3) hx hb hts hw_2 hown hK hP 0 rfl rfl 1 (by decide) hw_3 (fun _ h9 => h9) rfl dX5_parse_55 ?_
          refine lv_icmp_ne (tgt := 63) hx hb dX5_parse_58 (by decide) (fun c9 => ?_) (fun c9 => ?_)
          · have hw := hw.2 c9
            refine lv_aload_n hx hb dX5_parse_63 rfl (lv_at hl 1 rfl) ?_
            refine lv_aload_n hx hb dX5_parse_64 rfl (lv_at hl 1 rfl) ?_
            refine va_get (D := D) (ci := 4) (v := .int u4) (C := RX5) (T := TX5) (N := 3) hx hb hts hw_2 hown hK hP 0 rfl rfl 2 (by decide) hw_1 (fun _ h9 => h9) rfl dX5_parse_65 ?_
            refine z_ri (va_runV (As := [.int u4]) (rest := []) ⟨hx, hb, hml, hown, hts⟩ (zkX5_at l D cI cJ cC q_t q_t_characters u4 v_t_count u4 f_t_characters hw) (cwV 1 hts (z_gV wm_418 wm_419 wm_420 wm_295 wm_287) rfl rfl rfl (by decide +kernel) ⟨Nat.le_of_ble_eq_true rfl, Nat.le_of_ble_eq_true rfl⟩) (z_pvR hK hP [0, 1] rfl 0 4 rfl rfl) rfl rfl hl.1 rfl (lv_room (Nat.le_of_ble_eq_true rfl)) dX5_parse_68 ⟨Nat.zero_le _, Nat.zero_le _⟩) (fun r10 hw => ?_)
            refine lv_bipush (v := 32) hx hb dX5_parse_71 (by decide) ?_
            refine lv_icmp_eq (tgt := 81) hx hb dX5_parse_73 (by decide) (fun c11 => ?_) (fun c11 => ?_)
            · have hw := hw.1 c11
              refine lv_aload_n hx hb dX5_parse_81 rfl (lv_at hl 1 rfl) ?_
              refine lv_dup hx hb dX5_parse_82 rfl ?_
              refine va_get (D := D) (ci := 4) (v := .int u4) (C := RX5) (T := TX5) (N := 3) hx hb hts hw_2 hown hK hP 0 rfl rfl 2 (by decide) hw_1 (fun _ h9 => h9) rfl dX5_parse_83 ?_
              refine lv_iconst (v := 1) hx hb dX5_parse_86 (by decide) ?_
              refine lv_iadd hx hb dX5_parse_87 ?_
              refine va_put (D := D) (ci := 4) (v := .int (u4 + 1)) (ty := .int) (C := RX5) (T := TX5) (N := 3) hx hb hts hw_2 tyX5 tyX5_ok nmX5 hown hK hP hD hS 0 rfl rfl 2 (by decide) hw_1 (fun _ h9 => h9) rfl (by decide +kernel) rfl rfl (Nat.le_of_ble_eq_true rfl) dX5_parse_88 (fun H locs hP hD hS => ?_)
              have hP : va_P D vwCl [(q_t, zX5 q_t_characters v_t_count (u4 + 1)), (q_t_characters, zI cC 320 f_t_characters), (q_a1, zX0 q_a1_gates u7), (q_a1_gates, zI cI 64 u8)] H := hP
              have hD : va_D A [(q_t, zX5 q_t_characters v_t_count (u4 + 1)), (q_t_characters, zI cC 320 f_t_characters), (q_a1, zX0 q_a1_gates u7), (q_a1_gates, zI cI 64 u8)] := hD
              refine lv_iinc (v := (x3 + 1)) (lv' := [(3, .int (x3 + 1)), (4, .int r5), (0, .ref q_t), (1, .ref q_a1), (2, .int x2)]) hx hb dX5_parse_91 hl (k := 4) rfl rfl (by decide) rfl (fun ls hl => ?_)
              refine lv_goto (tgt := 20) hx hb dX5_parse_94 (by decide) ?_
              exact ih_20 x2 (x3 + 1) (u4 + 1) u7 u8 _ _ _ (hP.sub [0, 2, 1, 3] rfl) (hD.sub [0, 2, 1, 3] (by decide) rfl) hS (lv_sub hl [2, 3, 4, 0] rfl) hw
            · have hw := hw.2 c11
              refine lv_aload_n hx hb dX5_parse_76 rfl (lv_at hl 1 rfl) ?_
              refine va_get (D := D) (ci := 4) (v := .int u4) (C := RX5) (T := TX5) (N := 3) hx hb hts hw_2 hown hK hP 0 rfl rfl 2 (by decide) hw_1 (fun _ h9 => h9) rfl dX5_parse_77 ?_
              exact W.iret (v := u4) hx hb hr (fun t ht hW => ⟨⟨u4, (u4, u7, u8), rfl, hw, ⟨by rw [ht]; exact (hP.sub [0, 2, 1, 3] rfl), (hD.sub [0, 2, 1, 3] (by decide) rfl)⟩⟩, hS.F ht⟩) hS.2.2 dX5_parse_80
          · have hw := hw.1 c9
            refine lv_iconst (v := -1) hx hb dX5_parse_61 (by decide) ?_
            exact W.iret (v := (-1)) hx hb hr (fun t ht hW => ⟨⟨(-1), (u4, u7, u8), rfl, hw, ⟨by rw [ht]; exact (hP.sub [0, 2, 1, 3] rfl), (hD.sub [0, 2, 1, 3] (by decide) rfl)⟩⟩, hS.F ht⟩) hS.2.2 dX5_parse_62
        · have hw := hw.1 c6
          refine lv_aload_n hx hb dX5_parse_39 rfl (lv_at hl 1 rfl) ?_
          refine va_get (D := D) (ci := 4) (v := .int u4) (C := RX5) (T := TX5) (N := 3) hx hb hts hw_2 hown hK hP 2 rfl rfl 2 (by decide) hw_1 (fun _ h9 => h9) rfl dX5_parse_40 ?_
          exact W.iret (v := u4) hx hb hr (fun t ht hW => ⟨⟨u4, (u4, v_a1_count, f_a1_gates), rfl, hw, ⟨by rw [ht]; exact (hP.sub [2, 0, 3, 1] rfl), (hD.sub [2, 0, 3, 1] (by decide) rfl)⟩⟩, hS.F ht⟩) hS.2.2 dX5_parse_43
  refine lv_aload_n hx hb dX5_parse_0 rfl (lv_at hl 1 rfl) ?_
  refine z_wv (wc := [(q_a1, zX0 q_a1_gates v_a1_count)]) (wr := [(q_t, zX5 q_t_characters v_t_count v_t_reached), (q_t_characters, zI cC 320 f_t_characters), (q_a1_gates, zI cI 64 f_a1_gates)]) (W1 := fun u : (Int32) => [(q_a1, zX0 q_a1_gates u)]) (va_runV (As := []) (rest := []) ⟨hx, hb, hml, hown, hts⟩ (zkX0_removeAll l D cI cJ cC q_a1 q_a1_gates _  v_a1_count hw) (cwV 0 hts (z_gV wm_425 wm_21 wm_22 wm_15 wm_9) rfl rfl rfl (by decide +kernel) ⟨Nat.le_of_ble_eq_true rfl, Nat.le_of_ble_eq_true rfl⟩) (z_pvW hK hP hD [1] rfl (by decide) rfl 1 0 rfl rfl) rfl rfl hl.1 rfl (lv_room (Nat.le_of_ble_eq_true rfl)) dX5_parse_1 ⟨Nat.zero_le _, Nat.zero_le _⟩) hP hD hS hA [1] [0, 2, 3] rfl rfl (by decide) (by decide) (fun u9 H locs hw hP hD hS => ?_)
  obtain ⟨u1, rfl⟩ : ∃ z, z = u9 := ⟨_, rfl⟩
  have hP : va_P D vwCl [(q_t, zX5 q_t_characters v_t_count v_t_reached), (q_t_characters, zI cC 320 f_t_characters), (q_a1_gates, zI cI 64 f_a1_gates), (q_a1, zX0 q_a1_gates u1)] H := hP
  have hD : va_D A [(q_t, zX5 q_t_characters v_t_count v_t_reached), (q_t_characters, zI cC 320 f_t_characters), (q_a1_gates, zI cI 64 f_a1_gates), (q_a1, zX0 q_a1_gates u1)] := hD
  try dsimp only at hw
  refine lv_aload_n hx hb dX5_parse_4 rfl (lv_at hl 0 rfl) ?_
  refine lv_iconst (v := 0) hx hb dX5_parse_5 (by decide) ?_
  refine va_put (D := D) (ci := 4) (v := .int 0) (ty := .int) (C := RX5) (T := TX5) (N := 3) hx hb hts hw_2 tyX5 tyX5_ok nmX5 hown hK hP hD hS 0 rfl rfl 2 (by decide) hw_1 (fun _ h9 => h9) rfl (by decide +kernel) rfl rfl (Nat.le_of_ble_eq_true rfl) dX5_parse_6 (fun H locs hP hD hS => ?_)
  have hP : va_P D vwCl [(q_t, zX5 q_t_characters v_t_count 0), (q_t_characters, zI cC 320 f_t_characters), (q_a1_gates, zI cI 64 f_a1_gates), (q_a1, zX0 q_a1_gates u1)] H := hP
  have hD : va_D A [(q_t, zX5 q_t_characters v_t_count 0), (q_t_characters, zI cC 320 f_t_characters), (q_a1_gates, zI cI 64 f_a1_gates), (q_a1, zX0 q_a1_gates u1)] := hD
  refine lv_aload_n hx hb dX5_parse_9 rfl (lv_at hl 0 rfl) ?_
  refine va_get (D := D) (ci := 4) (v := .int v_t_count) (C := RX5) (T := TX5) (N := 3) hx hb hts hw_2 hown hK hP 0 rfl rfl 1 (by decide) hw_3 (fun _ h9 => h9) rfl dX5_parse_10 ?_
  refine lv_if_ne (tgt := 18) hx hb dX5_parse_13 (by decide) (fun c2 => ?_) (fun c2 => ?_)
  · have hw := hw.2 c2
    refine lv_iconst (v := 0) hx hb dX5_parse_18 (by decide) ?_
    refine lv_istore_n (lv' := [(3, .int 0), (0, .ref q_t), (1, .ref q_a1), (2, .int a2)]) hx hb dX5_parse_19 rfl hl (by decide) rfl (fun ls hl => ?_)
    obtain ⟨n_20, hw⟩ := hw
    exact L_20 n_20 a2 0 0 u1 f_a1_gates _ _ _ (hP.sub [0, 3, 1, 2] rfl) (hD.sub [0, 3, 1, 2] (by decide) rfl) hS (lv_sub hl [1, 2, 3, 0] rfl) hw
  · have hw := hw.1 c2
    refine lv_iconst (v := -1) hx hb dX5_parse_16 (by decide) ?_
    exact W.iret (v := (-1)) hx hb hr (fun t ht hW => ⟨⟨(-1), (0, u1, f_a1_gates), rfl, hw, ⟨by rw [ht]; exact (hP.sub [0, 3, 1, 2] rfl), (hD.sub [0, 3, 1, 2] (by decide) rfl)⟩⟩, hS.F ht⟩) hS.2.2 dX5_parse_17
