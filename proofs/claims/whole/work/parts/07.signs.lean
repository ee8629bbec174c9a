/-! Walks, written by wip/whole/gen.py out of the listing of the class. -/
def wpX4_begin (Q : (Int32) → (Int32) → (Int32) → Prop) (a1 : Int32)  (v_t_x : Int32) (v_t_z : Int32) (v_t_minus : Int32) : Prop := Q 0 ((1 : Int32) <<< (a1 &&& 31)) 0
abbrev zrX4_begin : Room := { frames := 0, cells := 0, slots := 0, locals := 0 }
set_option maxHeartbeats 4000000 in
set_option maxRecDepth 100000 in
theorem zkX4_begin (l : Launch) (D : va_G) (cI cJ cC : ClassId) (q_t : Nat) (sz : Nat) (a1 : Int32) (v_t_x : Int32) (v_t_z : Int32) (v_t_minus : Int32) {Q : (Int32) → (Int32) → (Int32) → Prop} (hw : wpX4_begin Q a1 v_t_x v_t_z v_t_minus) : Met l yX4_begin wmX4_begin zrX4_begin (zPreW D (zT cI cJ cC) [(q_t, zX4 v_t_x v_t_z v_t_minus)] sz [.ref q_t, .int a1]) (va_Qv (fun u : (Int32) × (Int32) × (Int32) => Q (u.1) (u.2.1) (u.2.2)) (fun u t => zAt D (va_A [(q_t, zX4 v_t_x v_t_z v_t_minus)] sz) [(q_t, zX4 (u.1) (u.2.1) (u.2.2))] t) (va_A [(q_t, zX4 v_t_x v_t_z v_t_minus)] sz)) 0 0 (va_A [(q_t, zX4 v_t_x v_t_z v_t_minus)] sz) := by
  refine Met.ofW (cc := cX4_begin) (maxL := 2) (ret := none) (by decide) rfl ?_
  intro p e s m args below meth c s₁ B hml hv
  obtain ⟨rfl, hsz, hP, hK, hD0⟩ := hv
  have hx := B.exec
  have hb := B.bytes
  have hr := B.returns
  have hts := atoms_spec (ws := wmX4_begin) B.pre
  have hown : s.vm.findClass RX4 = some m.cls := findClass_of_methodNamed B.named
  have hlocks := B.notSynchronized
  subst hsz
  have hD := hD0.self (sz := s.heap.size)
  generalize hAe : va_A [(q_t, zX4 v_t_x v_t_z v_t_minus)] s.heap.size = A at hD ⊢
  have hA : ∀ q : Nat, s.heap.size ≤ q → A q := fun q h => by rw [← hAe]; exact Or.inr h
  have hS : va_S A s.heap s.heap [] := va_S.rf
  have hP : va_P D vwCl [(q_t, zX4 v_t_x v_t_z v_t_minus)] s.heap := hP
  have hw_1 := hts _ (z_in wm_257)
  have hw_2 : ∀ w ∈ u_ws RX4 TX4 3, w ∈ wmX4_begin := fun w h => z_in (wi_wsX40 w h)
  have hw_3 := hts _ (z_in wm_258)
  have hw_4 := hts _ (z_in wm_259)
  have hl := lv_entry ([.ref q_t, .int a1]) (n := 2) (Nat.le_of_ble_eq_true rfl)
  rw [lg_entry_eq]
  generalize (lg_sl ([.ref q_t, .int a1]) ++ List.replicate (2 - (lg_sl ([.ref q_t, .int a1])).length) Slot.unset).toArray = ls at hl ⊢
  have hl : lv_has ls 2 [(0, .ref q_t), (1, .int a1)] := hl
  refine lv_aload_n hx hb dX4_begin_0 rfl (lv_at hl 0 rfl) ?_
  refine lv_iconst (v := 0) hx hb dX4_begin_1 (by decide) ?_
  refine va_put (D := D) (ci := 3) (v := .int 0) (ty := .int) (C := RX4) (T := TX4) (N := 3) hx hb hts hw_2 tyX4 tyX4_ok nmX4 hown hK hP hD hS 0 rfl rfl 0 (by decide) hw_1 (fun _ h9 => h9) rfl (by decide +kernel) rfl rfl (Nat.le_of_ble_eq_true rfl) dX4_begin_2 (fun H locs hP hD hS => ?_)
  have hP : va_P D vwCl [(q_t, zX4 0 v_t_z v_t_minus)] H := hP
  have hD : va_D A [(q_t, zX4 0 v_t_z v_t_minus)] := hD
  refine lv_aload_n hx hb dX4_begin_5 rfl (lv_at hl 0 rfl) ?_
  refine lv_iconst (v := 1) hx hb dX4_begin_6 (by decide) ?_
  refine lv_iload_n hx hb dX4_begin_7 rfl (lv_at hl 1 rfl) ?_
  refine lv_ishl hx hb dX4_begin_8 ?_
  refine va_put (D := D) (ci := 3) (v := .int ((1 : Int32) <<< (a1 &&& 31))) (ty := .int) (C := RX4) (T := TX4) (N := 3) hx hb hts hw_2 tyX4 tyX4_ok nmX4 hown hK hP hD hS 0 rfl rfl 1 (by decide) hw_3 (fun _ h9 => h9) rfl (by decide +kernel) rfl rfl (Nat.le_of_ble_eq_true rfl) dX4_begin_9 (fun H locs hP hD hS => ?_)
  have hP : va_P D vwCl [(q_t, zX4 0 ((1 : Int32) <<< (a1 &&& 31)) v_t_minus)] H := hP
  have hD : va_D A [(q_t, zX4 0 ((1 : Int32) <<< (a1 &&& 31)) v_t_minus)] := hD
  refine lv_aload_n hx hb dX4_begin_12 rfl (lv_at hl 0 rfl) ?_
  refine lv_iconst (v := 0) hx hb dX4_begin_13 (by decide) ?_
  refine va_put (D := D) (ci := 3) (v := .int 0) (ty := .int) (C := RX4) (T := TX4) (N := 3) hx hb hts hw_2 tyX4 tyX4_ok nmX4 hown hK hP hD hS 0 rfl rfl 2 (by decide) hw_4 (fun _ h9 => h9) rfl (by decide +kernel) rfl rfl (Nat.le_of_ble_eq_true rfl) dX4_begin_14 (fun H locs hP hD hS => ?_)
  have hP : va_P D vwCl [(q_t, zX4 0 ((1 : Int32) <<< (a1 &&& 31)) 0)] H := hP
  have hD : va_D A [(q_t, zX4 0 ((1 : Int32) <<< (a1 &&& 31)) 0)] := hD
  exact W.vret hx hb hr (fun t ht hW => ⟨⟨(0, ((1 : Int32) <<< (a1 &&& 31)), 0), rfl, hw, ⟨by rw [ht]; exact hP, hD⟩⟩, hS.F ht⟩) hS.2.2 dX4_begin_17

def zvX4_bit (a0 : Int32) (a1 : Int32)  : Int32 := ((a0 >>> (a1 &&& 31)) &&& 1)
abbrev zrX4_bit : Room := { frames := 0, cells := 0, slots := 0, locals := 0 }
set_option maxHeartbeats 4000000 in
set_option maxRecDepth 100000 in
theorem zkX4_bit (l : Launch)   (a0 : Int32) (a1 : Int32)  : Met l yX4_bit wmX4_bit zrX4_bit (zPreS [.int a0, .int a1]) (vp_Si (fun r => r = zvX4_bit a0 a1)) 0 0 (fun _ => False) := by
  refine Met.ofW (cc := cX4_bit) (maxL := 2) (ret := (some .int)) (by decide) rfl ?_
  intro p e s m args below meth c s₁ B hml hv
  obtain ⟨rfl, -⟩ := hv
  have hx := B.exec
  have hb := B.bytes
  have hr := B.returns
  have hts := atoms_spec (ws := wmX4_bit) B.pre
  have hown : s.vm.findClass RX4 = some m.cls := findClass_of_methodNamed B.named
  have hlocks := B.notSynchronized
  have hl := lv_entry ([.int a0, .int a1]) (n := 2) (Nat.le_of_ble_eq_true rfl)
  rw [lg_entry_eq]
  generalize (lg_sl ([.int a0, .int a1]) ++ List.replicate (2 - (lg_sl ([.int a0, .int a1])).length) Slot.unset).toArray = ls at hl ⊢
  have hl : lv_has ls 2 [(0, .int a0), (1, .int a1)] := hl
  refine lv_iload_n hx hb dX4_bit_0 rfl (lv_at hl 0 rfl) ?_
  refine lv_iload_n hx hb dX4_bit_1 rfl (lv_at hl 1 rfl) ?_
  refine lv_ishr hx hb dX4_bit_2 ?_
  refine lv_iconst (v := 1) hx hb dX4_bit_3 (by decide) ?_
  refine lv_iand hx hb dX4_bit_4 ?_
  exact W.iret (v := ((a0 >>> (a1 &&& 31)) &&& 1)) hx hb hr (fun t ht hW => ⟨_, rfl, (by rw [zvX4_bit]), ht⟩) (fun _ h => by cases h) dX4_bit_5

def zvX4_traded (a0 : Int32) (a1 : Int32) (a2 : Int32)  : Int32 := ((a0 ^^^ (((zvX4_bit a0 a1) ^^^ (zvX4_bit a0 a2)) <<< (a1 &&& 31))) ^^^ (((zvX4_bit a0 a1) ^^^ (zvX4_bit a0 a2)) <<< (a2 &&& 31)))
abbrev zrX4_traded : Room := { frames := 1, cells := 0, slots := 0, locals := 21 }
set_option maxHeartbeats 4000000 in
set_option maxRecDepth 100000 in
theorem zkX4_traded (l : Launch)   (a0 : Int32) (a1 : Int32) (a2 : Int32)  : Met l yX4_traded wmX4_traded zrX4_traded (zPreS [.int a0, .int a1, .int a2]) (vp_Si (fun r => r = zvX4_traded a0 a1 a2)) 0 0 (fun _ => False) := by
  refine Met.ofW (cc := cX4_traded) (maxL := 4) (ret := (some .int)) (by decide) rfl ?_
  intro p e s m args below meth c s₁ B hml hv
  obtain ⟨rfl, -⟩ := hv
  have hx := B.exec
  have hb := B.bytes
  have hr := B.returns
  have hts := atoms_spec (ws := wmX4_traded) B.pre
  have hown : s.vm.findClass RX4 = some m.cls := findClass_of_methodNamed B.named
  have hlocks := B.notSynchronized
  have hl := lv_entry ([.int a0, .int a1, .int a2]) (n := 4) (Nat.le_of_ble_eq_true rfl)
  rw [lg_entry_eq]
  generalize (lg_sl ([.int a0, .int a1, .int a2]) ++ List.replicate (4 - (lg_sl ([.int a0, .int a1, .int a2])).length) Slot.unset).toArray = ls at hl ⊢
  have hl : lv_has ls 4 [(0, .int a0), (1, .int a1), (2, .int a2)] := hl
  refine lv_iload_n hx hb dX4_traded_0 rfl (lv_at hl 0 rfl) ?_
  refine lv_iload_n hx hb dX4_traded_1 rfl (lv_at hl 1 rfl) ?_
  refine z_vi (va_runS (As := [.int a0, .int a1]) (rest := []) ⟨hx, hb, hml, hown, hts⟩ (zkX4_bit l   a0 a1 ) (va_cwS 2 hts (z_gS wm_262 wm_263 wm_264 wm_260) rfl rfl rfl (by decide +kernel) ⟨Nat.le_of_ble_eq_true rfl, Nat.le_of_ble_eq_true rfl⟩) z_psS rfl rfl hl.1 rfl (lv_room (Nat.le_of_ble_eq_true rfl)) dX4_traded_2 ⟨Nat.zero_le _, Nat.zero_le _⟩) ?_
  refine lv_iload_n hx hb dX4_traded_5 rfl (lv_at hl 0 rfl) ?_
  refine lv_iload_n hx hb dX4_traded_6 rfl (lv_at hl 2 rfl) ?_
  refine z_vi (va_runS (As := [.int a0, .int a2]) (rest := [.int (zvX4_bit a0 a1)]) ⟨hx, hb, hml, hown, hts⟩ (zkX4_bit l   a0 a2 ) (va_cwS 2 hts (z_gS wm_262 wm_263 wm_264 wm_260) rfl rfl rfl (by decide +kernel) ⟨Nat.le_of_ble_eq_true rfl, Nat.le_of_ble_eq_true rfl⟩) z_psS rfl rfl hl.1 rfl (lv_room (Nat.le_of_ble_eq_true rfl)) dX4_traded_7 ⟨Nat.zero_le _, Nat.zero_le _⟩) ?_
  refine lv_ixor hx hb dX4_traded_10 ?_
  refine lv_istore_n (lv' := [(3, .int ((zvX4_bit a0 a1) ^^^ (zvX4_bit a0 a2))), (0, .int a0), (1, .int a1), (2, .int a2)]) hx hb dX4_traded_11 rfl hl (by decide) rfl (fun ls hl => ?_)
  refine lv_iload_n hx hb dX4_traded_12 rfl (lv_at hl 1 rfl) ?_
  refine lv_iload_n hx hb dX4_traded_13 rfl (lv_at hl 0 rfl) ?_
  refine lv_iload_n hx hb dX4_traded_14 rfl (lv_at hl 2 rfl) ?_
  refine lv_ishl hx hb dX4_traded_15 ?_
  refine lv_ixor hx hb dX4_traded_16 ?_
  refine lv_iload_n hx hb dX4_traded_17 rfl (lv_at hl 0 rfl) ?_
  refine lv_iload_n hx hb dX4_traded_18 rfl (lv_at hl 3 rfl) ?_
  refine lv_ishl hx hb dX4_traded_19 ?_
  refine lv_ixor hx hb dX4_traded_20 ?_
  exact W.iret (v := ((a0 ^^^ (((zvX4_bit a0 a1) ^^^ (zvX4_bit a0 a2)) <<< (a1 &&& 31))) ^^^ (((zvX4_bit a0 a1) ^^^ (zvX4_bit a0 a2)) <<< (a2 &&& 31)))) hx hb hr (fun t ht hW => ⟨_, rfl, (by rw [zvX4_traded]), ht⟩) (fun _ h => by cases h) dX4_traded_21

def wpX4_passH (Q : (Int32) → (Int32) → (Int32) → Prop) (a1 : Int32)  (v_t_x : Int32) (v_t_z : Int32) (v_t_minus : Int32) : Prop := ∀ x2_1 : Int32, x2_1 = ((zvX4_bit v_t_x a1) ^^^ (zvX4_bit v_t_z a1)) → ∀ z_2 : Int32, z_2 = (v_t_minus ^^^ ((zvX4_bit v_t_x a1) &&& (zvX4_bit v_t_z a1))) → Q (v_t_x ^^^ (x2_1 <<< (a1 &&& 31))) (v_t_z ^^^ (x2_1 <<< (a1 &&& 31))) z_2
abbrev zrX4_passH : Room := { frames := 1, cells := 0, slots := 0, locals := 21 }
set_option maxHeartbeats 4000000 in
set_option maxRecDepth 100000 in
theorem zkX4_passH (l : Launch) (D : va_G) (cI cJ cC : ClassId) (q_t : Nat) (sz : Nat) (a1 : Int32) (v_t_x : Int32) (v_t_z : Int32) (v_t_minus : Int32) {Q : (Int32) → (Int32) → (Int32) → Prop} (hw : wpX4_passH Q a1 v_t_x v_t_z v_t_minus) : Met l yX4_passH wmX4_passH zrX4_passH (zPreW D (zT cI cJ cC) [(q_t, zX4 v_t_x v_t_z v_t_minus)] sz [.ref q_t, .int a1]) (va_Qv (fun u : (Int32) × (Int32) × (Int32) => Q (u.1) (u.2.1) (u.2.2)) (fun u t => zAt D (va_A [(q_t, zX4 v_t_x v_t_z v_t_minus)] sz) [(q_t, zX4 (u.1) (u.2.1) (u.2.2))] t) (va_A [(q_t, zX4 v_t_x v_t_z v_t_minus)] sz)) 0 0 (va_A [(q_t, zX4 v_t_x v_t_z v_t_minus)] sz) := by
  refine Met.ofW (cc := cX4_passH) (maxL := 3) (ret := none) (by decide) rfl ?_
  intro p e s m args below meth c s₁ B hml hv
  obtain ⟨rfl, hsz, hP, hK, hD0⟩ := hv
  have hx := B.exec
  have hb := B.bytes
  have hr := B.returns
  have hts := atoms_spec (ws := wmX4_passH) B.pre
  have hown : s.vm.findClass RX4 = some m.cls := findClass_of_methodNamed B.named
  have hlocks := B.notSynchronized
  subst hsz
  have hD := hD0.self (sz := s.heap.size)
  generalize hAe : va_A [(q_t, zX4 v_t_x v_t_z v_t_minus)] s.heap.size = A at hD ⊢
  have hA : ∀ q : Nat, s.heap.size ≤ q → A q := fun q h => by rw [← hAe]; exact Or.inr h
  have hS : va_S A s.heap s.heap [] := va_S.rf
  have hP : va_P D vwCl [(q_t, zX4 v_t_x v_t_z v_t_minus)] s.heap := hP
  have hw_1 := hts _ (z_in wm_257)
  have hw_2 : ∀ w ∈ u_ws RX4 TX4 3, w ∈ wmX4_passH := fun w h => z_in (wi_wsX40 w h)
  have hw_3 := hts _ (z_in wm_258)
  have hw_4 := hts _ (z_in wm_259)
  have hl := lv_entry ([.ref q_t, .int a1]) (n := 3) (Nat.le_of_ble_eq_true rfl)
  rw [lg_entry_eq]
  generalize (lg_sl ([.ref q_t, .int a1]) ++ List.replicate (3 - (lg_sl ([.ref q_t, .int a1])).length) Slot.unset).toArray = ls at hl ⊢
  have hl : lv_has ls 3 [(0, .ref q_t), (1, .int a1)] := hl
  refine lv_aload_n hx hb dX4_passH_0 rfl (lv_at hl 0 rfl) ?_
  refine va_get (D := D) (ci := 3) (v := .int v_t_x) (C := RX4) (T := TX4) (N := 3) hx hb hts hw_2 hown hK hP 0 rfl rfl 0 (by decide) hw_1 (fun _ h9 => h9) rfl dX4_passH_1 ?_
  refine lv_iload_n hx hb dX4_passH_4 rfl (lv_at hl 1 rfl) ?_
  refine z_vi (va_runS (As := [.int v_t_x, .int a1]) (rest := []) ⟨hx, hb, hml, hown, hts⟩ (zkX4_bit l   v_t_x a1 ) (va_cwS 2 hts (z_gS wm_262 wm_263 wm_264 wm_260) rfl rfl rfl (by decide +kernel) ⟨Nat.le_of_ble_eq_true rfl, Nat.le_of_ble_eq_true rfl⟩) z_psS rfl rfl hl.1 rfl (lv_room (Nat.le_of_ble_eq_true rfl)) dX4_passH_5 ⟨Nat.zero_le _, Nat.zero_le _⟩) ?_
  refine lv_aload_n hx hb dX4_passH_8 rfl (lv_at hl 0 rfl) ?_
  refine va_get (D := D) (ci := 3) (v := .int v_t_z) (C := RX4) (T := TX4) (N := 3) hx hb hts hw_2 hown hK hP 0 rfl rfl 1 (by decide) hw_3 (fun _ h9 => h9) rfl dX4_passH_9 ?_
  refine lv_iload_n hx hb dX4_passH_12 rfl (lv_at hl 1 rfl) ?_
  refine z_vi (va_runS (As := [.int v_t_z, .int a1]) (rest := [.int (zvX4_bit v_t_x a1)]) ⟨hx, hb, hml, hown, hts⟩ (zkX4_bit l   v_t_z a1 ) (va_cwS 2 hts (z_gS wm_262 wm_263 wm_264 wm_260) rfl rfl rfl (by decide +kernel) ⟨Nat.le_of_ble_eq_true rfl, Nat.le_of_ble_eq_true rfl⟩) z_psS rfl rfl hl.1 rfl (lv_room (Nat.le_of_ble_eq_true rfl)) dX4_passH_13 ⟨Nat.zero_le _, Nat.zero_le _⟩) ?_
  refine lv_ixor hx hb dX4_passH_16 ?_
  refine lv_topi (fun x2_1 ex2_1 => ?_)
  have hw := hw x2_1 ex2_1
  refine lv_istore_n (lv' := [(2, .int x2_1), (0, .ref q_t), (1, .int a1)]) hx hb dX4_passH_17 rfl hl (by decide) rfl (fun ls hl => ?_)
  refine lv_aload_n hx hb dX4_passH_18 rfl (lv_at hl 1 rfl) ?_
  refine lv_dup hx hb dX4_passH_19 rfl ?_
  refine va_get (D := D) (ci := 3) (v := .int v_t_minus) (C := RX4) (T := TX4) (N := 3) hx hb hts hw_2 hown hK hP 0 rfl rfl 2 (by decide) hw_4 (fun _ h9 => h9) rfl dX4_passH_20 ?_
  refine lv_aload_n hx hb dX4_passH_23 rfl (lv_at hl 1 rfl) ?_
  refine va_get (D := D) (ci := 3) (v := .int v_t_x) (C := RX4) (T := TX4) (N := 3) hx hb hts hw_2 hown hK hP 0 rfl rfl 0 (by decide) hw_1 (fun _ h9 => h9) rfl dX4_passH_24 ?_
  refine lv_iload_n hx hb dX4_passH_27 rfl (lv_at hl 2 rfl) ?_
  refine z_vi (va_runS (As := [.int v_t_x, .int a1]) (rest := [.int v_t_minus, .ref q_t]) ⟨hx, hb, hml, hown, hts⟩ (zkX4_bit l   v_t_x a1 ) (va_cwS 2 hts (z_gS wm_262 wm_263 wm_264 wm_260) rfl rfl rfl (by decide +kernel) ⟨Nat.le_of_ble_eq_true rfl, Nat.le_of_ble_eq_true rfl⟩) z_psS rfl rfl hl.1 rfl (lv_room (Nat.le_of_ble_eq_true rfl)) dX4_passH_28 ⟨Nat.zero_le _, Nat.zero_le _⟩) ?_
  refine lv_aload_n hx hb dX4_passH_31 rfl (lv_at hl 1 rfl) ?_
  refine va_get (D := D) (ci := 3) (v := .int v_t_z) (C := RX4) (T := TX4) (N := 3) hx hb hts hw_2 hown hK hP 0 rfl rfl 1 (by decide) hw_3 (fun _ h9 => h9) rfl dX4_passH_32 ?_
  refine lv_iload_n hx hb dX4_passH_35 rfl (lv_at hl 2 rfl) ?_
  refine z_vi (va_runS (As := [.int v_t_z, .int a1]) (rest := [.int (zvX4_bit v_t_x a1), .int v_t_minus, .ref q_t]) ⟨hx, hb, hml, hown, hts⟩ (zkX4_bit l   v_t_z a1 ) (va_cwS 2 hts (z_gS wm_262 wm_263 wm_264 wm_260) rfl rfl rfl (by decide +kernel) ⟨Nat.le_of_ble_eq_true rfl, Nat.le_of_ble_eq_true rfl⟩) z_psS rfl rfl hl.1 rfl (lv_room (Nat.le_of_ble_eq_true rfl)) dX4_passH_36 ⟨Nat.zero_le _, Nat.zero_le _⟩) ?_
  refine lv_iand hx hb dX4_passH_39 ?_
  refine lv_ixor hx hb dX4_passH_40 ?_
  refine lv_topi (fun z_2 ez_2 => ?_)
  have hw := hw z_2 ez_2
  refine va_put (D := D) (ci := 3) (v := .int z_2) (ty := .int) (C := RX4) (T := TX4) (N := 3) hx hb hts hw_2 tyX4 tyX4_ok nmX4 hown hK hP hD hS 0 rfl rfl 2 (by decide) hw_4 (fun _ h9 => h9) rfl (by decide +kernel) rfl rfl (Nat.le_of_ble_eq_true rfl) dX4_passH_41 (fun H locs hP hD hS => ?_)
  have hP : va_P D vwCl [(q_t, zX4 v_t_x v_t_z z_2)] H := hP
  have hD : va_D A [(q_t, zX4 v_t_x v_t_z z_2)] := hD
  refine lv_aload_n hx hb dX4_passH_44 rfl (lv_at hl 1 rfl) ?_
  refine lv_dup hx hb dX4_passH_45 rfl ?_
  refine va_get (D := D) (ci := 3) (v := .int v_t_x) (C := RX4) (T := TX4) (N := 3) hx hb hts hw_2 hown hK hP 0 rfl rfl 0 (by decide) hw_1 (fun _ h9 => h9) rfl dX4_passH_46 ?_
  refine lv_iload_n hx hb dX4_passH_49 rfl (lv_at hl 0 rfl) ?_
  refine lv_iload_n hx hb dX4_passH_50 rfl (lv_at hl 2 rfl) ?_
  refine lv_ishl hx hb dX4_passH_51 ?_
  refine lv_ixor hx hb dX4_passH_52 ?_
  refine va_put (D := D) (ci := 3) (v := .int (v_t_x ^^^ (x2_1 <<< (a1 &&& 31)))) (ty := .int) (C := RX4) (T := TX4) (N := 3) hx hb hts hw_2 tyX4 tyX4_ok nmX4 hown hK hP hD hS 0 rfl rfl 0 (by decide) hw_1 (fun _ h9 => h9) rfl (by decide +kernel) rfl rfl (Nat.le_of_ble_eq_true rfl) dX4_passH_53 (fun H locs hP hD hS => ?_)
  have hP : va_P D vwCl [(q_t, zX4 (v_t_x ^^^ (x2_1 <<< (a1 &&& 31))) v_t_z z_2)] H := hP
  have hD : va_D A [(q_t, zX4 (v_t_x ^^^ (x2_1 <<< (a1 &&& 31))) v_t_z z_2)] := hD
  refine lv_aload_n hx hb dX4_passH_56 rfl (lv_at hl 1 rfl) ?_
  refine lv_dup hx hb dX4_passH_57 rfl ?_
  refine va_get (D := D) (ci := 3) (v := .int v_t_z) (C := RX4) (T := TX4) (N := 3) hx hb hts hw_2 hown hK hP 0 rfl rfl 1 (by decide) hw_3 (fun _ h9 => h9) rfl dX4_passH_58 ?_
  refine lv_iload_n hx hb dX4_passH_61 rfl (lv_at hl 0 rfl) ?_
  refine lv_iload_n hx hb dX4_passH_62 rfl (lv_at hl 2 rfl) ?_
  refine lv_ishl hx hb dX4_passH_63 ?_
  refine lv_ixor hx hb dX4_passH_64 ?_
  refine va_put (D := D) (ci := 3) (v := .int (v_t_z ^^^ (x2_1 <<< (a1 &&& 31)))) (ty := .int) (C := RX4) (T := TX4) (N := 3) hx hb hts hw_2 tyX4 tyX4_ok nmX4 hown hK hP hD hS 0 rfl rfl 1 (by decide) hw_3 (fun _ h9 => h9) rfl (by decide +kernel) rfl rfl (Nat.le_of_ble_eq_true rfl) dX4_passH_65 (fun H locs hP hD hS => ?_)
  have hP : va_P D vwCl [(q_t, zX4 (v_t_x ^^^ (x2_1 <<< (a1 &&& 31))) (v_t_z ^^^ (x2_1 <<< (a1 &&& 31))) z_2)] H := hP
  have hD : va_D A [(q_t, zX4 (v_t_x ^^^ (x2_1 <<< (a1 &&& 31))) (v_t_z ^^^ (x2_1 <<< (a1 &&& 31))) z_2)] := hD
  exact W.vret hx hb hr (fun t ht hW => ⟨⟨((v_t_x ^^^ (x2_1 <<< (a1 &&& 31))), (v_t_z ^^^ (x2_1 <<< (a1 &&& 31))), z_2), rfl, hw, ⟨by rw [ht]; exact hP, hD⟩⟩, hS.F ht⟩) hS.2.2 dX4_passH_68

def wpX4_passCX (Q : (Int32) → (Int32) → (Int32) → Prop) (a1 : Int32) (a2 : Int32)  (v_t_x : Int32) (v_t_z : Int32) (v_t_minus : Int32) : Prop := ∀ z_1 : Int32, z_1 = (v_t_minus ^^^ (((zvX4_bit v_t_x a1) &&& (zvX4_bit v_t_z a2)) &&& ((1 ^^^ (zvX4_bit v_t_x a2)) ^^^ (zvX4_bit v_t_z a1)))) → ∀ z_2 : Int32, z_2 = (v_t_x ^^^ ((zvX4_bit v_t_x a1) <<< (a2 &&& 31))) → ∀ z_3 : Int32, z_3 = (v_t_z ^^^ ((zvX4_bit v_t_z a2) <<< (a1 &&& 31))) → Q z_2 z_3 z_1
abbrev zrX4_passCX : Room := { frames := 1, cells := 0, slots := 0, locals := 21 }
set_option maxHeartbeats 4000000 in
set_option maxRecDepth 100000 in
theorem zkX4_passCX (l : Launch) (D : va_G) (cI cJ cC : ClassId) (q_t : Nat) (sz : Nat) (a1 : Int32) (a2 : Int32) (v_t_x : Int32) (v_t_z : Int32) (v_t_minus : Int32) {Q : (Int32) → (Int32) → (Int32) → Prop} (hw : wpX4_passCX Q a1 a2 v_t_x v_t_z v_t_minus) : Met l yX4_passCX wmX4_passCX zrX4_passCX (zPreW D (zT cI cJ cC) [(q_t, zX4 v_t_x v_t_z v_t_minus)] sz [.ref q_t, .int a1, .int a2]) (va_Qv (fun u : (Int32) × (Int32) × (Int32) => Q (u.1) (u.2.1) (u.2.2)) (fun u t => zAt D (va_A [(q_t, zX4 v_t_x v_t_z v_t_minus)] sz) [(q_t, zX4 (u.1) (u.2.1) (u.2.2))] t) (va_A [(q_t, zX4 v_t_x v_t_z v_t_minus)] sz)) 0 0 (va_A [(q_t, zX4 v_t_x v_t_z v_t_minus)] sz) := by
  refine Met.ofW (cc := cX4_passCX) (maxL := 3) (ret := none) (by decide) rfl ?_
  intro p e s m args below meth c s₁ B hml hv
  obtain ⟨rfl, hsz, hP, hK, hD0⟩ := hv
  have hx := B.exec
  have hb := B.bytes
  have hr := B.returns
  have hts := atoms_spec (ws := wmX4_passCX) B.pre
  have hown : s.vm.findClass RX4 = some m.cls := findClass_of_methodNamed B.named
  have hlocks := B.notSynchronized
  subst hsz
  have hD := hD0.self (sz := s.heap.size)
  generalize hAe : va_A [(q_t, zX4 v_t_x v_t_z v_t_minus)] s.heap.size = A at hD ⊢
  have hA : ∀ q : Nat, s.heap.size ≤ q → A q := fun q h => by rw [← hAe]; exact Or.inr h
  have hS : va_S A s.heap s.heap [] := va_S.rf
  have hP : va_P D vwCl [(q_t, zX4 v_t_x v_t_z v_t_minus)] s.heap := hP
  have hw_1 := hts _ (z_in wm_259)
  have hw_2 : ∀ w ∈ u_ws RX4 TX4 3, w ∈ wmX4_passCX := fun w h => z_in (wi_wsX40 w h)
  have hw_3 := hts _ (z_in wm_257)
  have hw_4 := hts _ (z_in wm_258)
  have hl := lv_entry ([.ref q_t, .int a1, .int a2]) (n := 3) (Nat.le_of_ble_eq_true rfl)
  rw [lg_entry_eq]
  generalize (lg_sl ([.ref q_t, .int a1, .int a2]) ++ List.replicate (3 - (lg_sl ([.ref q_t, .int a1, .int a2])).length) Slot.unset).toArray = ls at hl ⊢
  have hl : lv_has ls 3 [(0, .ref q_t), (1, .int a1), (2, .int a2)] := hl
  refine lv_aload_n hx hb dX4_passCX_0 rfl (lv_at hl 0 rfl) ?_
  refine lv_dup hx hb dX4_passCX_1 rfl ?_
  refine va_get (D := D) (ci := 3) (v := .int v_t_minus) (C := RX4) (T := TX4) (N := 3) hx hb hts hw_2 hown hK hP 0 rfl rfl 2 (by decide) hw_1 (fun _ h9 => h9) rfl dX4_passCX_2 ?_
  refine lv_aload_n hx hb dX4_passCX_5 rfl (lv_at hl 0 rfl) ?_
  refine va_get (D := D) (ci := 3) (v := .int v_t_x) (C := RX4) (T := TX4) (N := 3) hx hb hts hw_2 hown hK hP 0 rfl rfl 0 (by decide) hw_3 (fun _ h9 => h9) rfl dX4_passCX_6 ?_
  refine lv_iload_n hx hb dX4_passCX_9 rfl (lv_at hl 1 rfl) ?_
  refine z_vi (va_runS (As := [.int v_t_x, .int a1]) (rest := [.int v_t_minus, .ref q_t]) ⟨hx, hb, hml, hown, hts⟩ (zkX4_bit l   v_t_x a1 ) (va_cwS 2 hts (z_gS wm_262 wm_263 wm_264 wm_260) rfl rfl rfl (by decide +kernel) ⟨Nat.le_of_ble_eq_true rfl, Nat.le_of_ble_eq_true rfl⟩) z_psS rfl rfl hl.1 rfl (lv_room (Nat.le_of_ble_eq_true rfl)) dX4_passCX_10 ⟨Nat.zero_le _, Nat.zero_le _⟩) ?_
  refine lv_aload_n hx hb dX4_passCX_13 rfl (lv_at hl 0 rfl) ?_
  refine va_get (D := D) (ci := 3) (v := .int v_t_z) (C := RX4) (T := TX4) (N := 3) hx hb hts hw_2 hown hK hP 0 rfl rfl 1 (by decide) hw_4 (fun _ h9 => h9) rfl dX4_passCX_14 ?_
  refine lv_iload_n hx hb dX4_passCX_17 rfl (lv_at hl 2 rfl) ?_
  refine z_vi (va_runS (As := [.int v_t_z, .int a2]) (rest := [.int (zvX4_bit v_t_x a1), .int v_t_minus, .ref q_t]) ⟨hx, hb, hml, hown, hts⟩ (zkX4_bit l   v_t_z a2 ) (va_cwS 2 hts (z_gS wm_262 wm_263 wm_264 wm_260) rfl rfl rfl (by decide +kernel) ⟨Nat.le_of_ble_eq_true rfl, Nat.le_of_ble_eq_true rfl⟩) z_psS rfl rfl hl.1 rfl (lv_room (Nat.le_of_ble_eq_true rfl)) dX4_passCX_18 ⟨Nat.zero_le _, Nat.zero_le _⟩) ?_
  refine lv_iand hx hb dX4_passCX_21 ?_
  refine lv_iconst (v := 1) hx hb dX4_passCX_22 (by decide) ?_
  refine lv_aload_n hx hb dX4_passCX_23 rfl (lv_at hl 0 rfl) ?_
  refine va_get (D := D) (ci := 3) (v := .int v_t_x) (C := RX4) (T := TX4) (N := 3) hx hb hts hw_2 hown hK hP 0 rfl rfl 0 (by decide) hw_3 (fun _ h9 => h9) rfl dX4_passCX_24 ?_
  refine lv_iload_n hx hb dX4_passCX_27 rfl (lv_at hl 2 rfl) ?_
  refine z_vi (va_runS (As := [.int v_t_x, .int a2]) (rest := [.int 1, .int ((zvX4_bit v_t_x a1) &&& (zvX4_bit v_t_z a2)), .int v_t_minus, .ref q_t]) ⟨hx, hb, hml, hown, hts⟩ (zkX4_bit l   v_t_x a2 ) (va_cwS 2 hts (z_gS wm_262 wm_263 wm_264 wm_260) rfl rfl rfl (by decide +kernel) ⟨Nat.le_of_ble_eq_true rfl, Nat.le_of_ble_eq_true rfl⟩) z_psS rfl rfl hl.1 rfl (lv_room (Nat.le_of_ble_eq_true rfl)) dX4_passCX_28 ⟨Nat.zero_le _, Nat.zero_le _⟩) ?_
  refine lv_ixor hx hb dX4_passCX_31 ?_
  refine lv_aload_n hx hb dX4_passCX_32 rfl (lv_at hl 0 rfl) ?_
  refine va_get (D := D) (ci := 3) (v := .int v_t_z) (C := RX4) (T := TX4) (N := 3) hx hb hts hw_2 hown hK hP 0 rfl rfl 1 (by decide) hw_4 (fun _ h9 => h9) rfl dX4_passCX_33 ?_
  refine lv_iload_n hx hb dX4_passCX_36 rfl (lv_at hl 1 rfl) ?_
  refine z_vi (va_runS (As := [.int v_t_z, .int a1]) (rest := [.int (1 ^^^ (zvX4_bit v_t_x a2)), .int ((zvX4_bit v_t_x a1) &&& (zvX4_bit v_t_z a2)), .int v_t_minus, .ref q_t]) ⟨hx, hb, hml, hown, hts⟩ (zkX4_bit l   v_t_z a1 ) (va_cwS 2 hts (z_gS wm_262 wm_263 wm_264 wm_260) rfl rfl rfl (by decide +kernel) ⟨Nat.le_of_ble_eq_true rfl, Nat.le_of_ble_eq_true rfl⟩) z_psS rfl rfl hl.1 rfl (lv_room (Nat.le_of_ble_eq_true rfl)) dX4_passCX_37 ⟨Nat.zero_le _, Nat.zero_le _⟩) ?_
  refine lv_ixor hx hb dX4_passCX_40 ?_
  refine lv_iand hx hb dX4_passCX_41 ?_
  refine lv_ixor hx hb dX4_passCX_42 ?_
  refine lv_topi (fun z_1 ez_1 => ?_)
  have hw := hw z_1 ez_1
  refine va_put (D := D) (ci := 3) (v := .int z_1) (ty := .int) (C := RX4) (T := TX4) (N := 3) hx hb hts hw_2 tyX4 tyX4_ok nmX4 hown hK hP hD hS 0 rfl rfl 2 (by decide) hw_1 (fun _ h9 => h9) rfl (by decide +kernel) rfl rfl (Nat.le_of_ble_eq_true rfl) dX4_passCX_43 (fun H locs hP hD hS => ?_)
  have hP : va_P D vwCl [(q_t, zX4 v_t_x v_t_z z_1)] H := hP
  have hD : va_D A [(q_t, zX4 v_t_x v_t_z z_1)] := hD
  refine lv_aload_n hx hb dX4_passCX_46 rfl (lv_at hl 0 rfl) ?_
  refine lv_dup hx hb dX4_passCX_47 rfl ?_
  refine va_get (D := D) (ci := 3) (v := .int v_t_x) (C := RX4) (T := TX4) (N := 3) hx hb hts hw_2 hown hK hP 0 rfl rfl 0 (by decide) hw_3 (fun _ h9 => h9) rfl dX4_passCX_48 ?_
  refine lv_aload_n hx hb dX4_passCX_51 rfl (lv_at hl 0 rfl) ?_
  refine va_get (D := D) (ci := 3) (v := .int v_t_x) (C := RX4) (T := TX4) (N := 3) hx hb hts hw_2 hown hK hP 0 rfl rfl 0 (by decide) hw_3 (fun _ h9 => h9) rfl dX4_passCX_52 ?_
  refine lv_iload_n hx hb dX4_passCX_55 rfl (lv_at hl 1 rfl) ?_
  refine z_vi (va_runS (As := [.int v_t_x, .int a1]) (rest := [.int v_t_x, .ref q_t]) ⟨hx, hb, hml, hown, hts⟩ (zkX4_bit l   v_t_x a1 ) (va_cwS 2 hts (z_gS wm_262 wm_263 wm_264 wm_260) rfl rfl rfl (by decide +kernel) ⟨Nat.le_of_ble_eq_true rfl, Nat.le_of_ble_eq_true rfl⟩) z_psS rfl rfl hl.1 rfl (lv_room (Nat.le_of_ble_eq_true rfl)) dX4_passCX_56 ⟨Nat.zero_le _, Nat.zero_le _⟩) ?_
  refine lv_iload_n hx hb dX4_passCX_59 rfl (lv_at hl 2 rfl) ?_
  refine lv_ishl hx hb dX4_passCX_60 ?_
  refine lv_ixor hx hb dX4_passCX_61 ?_
  refine lv_topi (fun z_2 ez_2 => ?_)
  have hw := hw z_2 ez_2
  refine va_put (D := D) (ci := 3) (v := .int z_2) (ty := .int) (C := RX4) (T := TX4) (N := 3) hx hb hts hw_2 tyX4 tyX4_ok nmX4 hown hK hP hD hS 0 rfl rfl 0 (by decide) hw_3 (fun _ h9 => h9) rfl (by decide +kernel) rfl rfl (Nat.le_of_ble_eq_true rfl) dX4_passCX_62 (fun H locs hP hD hS => ?_)
  have hP : va_P D vwCl [(q_t, zX4 z_2 v_t_z z_1)] H := hP
  have hD : va_D A [(q_t, zX4 z_2 v_t_z z_1)] := hD
  refine lv_aload_n hx hb dX4_passCX_65 rfl (lv_at hl 0 rfl) ?_
  refine lv_dup hx hb dX4_passCX_66 rfl ?_
  refine va_get (D := D) (ci := 3) (v := .int v_t_z) (C := RX4) (T := TX4) (N := 3) hx hb hts hw_2 hown hK hP 0 rfl rfl 1 (by decide) hw_4 (fun _ h9 => h9) rfl dX4_passCX_67 ?_
  refine lv_aload_n hx hb dX4_passCX_70 rfl (lv_at hl 0 rfl) ?_
  refine va_get (D := D) (ci := 3) (v := .int v_t_z) (C := RX4) (T := TX4) (N := 3) hx hb hts hw_2 hown hK hP 0 rfl rfl 1 (by decide) hw_4 (fun _ h9 => h9) rfl dX4_passCX_71 ?_
  refine lv_iload_n hx hb dX4_passCX_74 rfl (lv_at hl 2 rfl) ?_
  refine z_vi (va_runS (As := [.int v_t_z, .int a2]) (rest := [.int v_t_z, .ref q_t]) ⟨hx, hb, hml, hown, hts⟩ (zkX4_bit l   v_t_z a2 ) (va_cwS 2 hts (z_gS wm_262 wm_263 wm_264 wm_260) rfl rfl rfl (by decide +kernel) ⟨Nat.le_of_ble_eq_true rfl, Nat.le_of_ble_eq_true rfl⟩) z_psS rfl rfl hl.1 rfl (lv_room (Nat.le_of_ble_eq_true rfl)) dX4_passCX_75 ⟨Nat.zero_le _, Nat.zero_le _⟩) ?_
  refine lv_iload_n hx hb dX4_passCX_78 rfl (lv_at hl 1 rfl) ?_
  refine lv_ishl hx hb dX4_passCX_79 ?_
  refine lv_ixor hx hb dX4_passCX_80 ?_
  refine lv_topi (fun z_3 ez_3 => ?_)
  have hw := hw z_3 ez_3
  refine va_put (D := D) (ci := 3) (v := .int z_3) (ty := .int) (C := RX4) (T := TX4) (N := 3) hx hb hts hw_2 tyX4 tyX4_ok nmX4 hown hK hP hD hS 0 rfl rfl 1 (by decide) hw_4 (fun _ h9 => h9) rfl (by decide +kernel) rfl rfl (Nat.le_of_ble_eq_true rfl) dX4_passCX_81 (fun H locs hP hD hS => ?_)
  have hP : va_P D vwCl [(q_t, zX4 z_2 z_3 z_1)] H := hP
  have hD : va_D A [(q_t, zX4 z_2 z_3 z_1)] := hD
  exact W.vret hx hb hr (fun t ht hW => ⟨⟨(z_2, z_3, z_1), rfl, hw, ⟨by rw [ht]; exact hP, hD⟩⟩, hS.F ht⟩) hS.2.2 dX4_passCX_84

def wpX4_pass (Q : (Int32) → (Int32) → (Int32) → Prop) (a1 : Int32)  (v_t_x : Int32) (v_t_z : Int32) (v_t_minus : Int32) : Prop := (((zvX2_kind a1) = 1 → wpX4_passH (fun (u2 : Int32) (u3 : Int32) (u4 : Int32) => Q u2 u3 u4) (zvX2_a a1) v_t_x v_t_z v_t_minus) ∧ (¬ (zvX2_kind a1) = 1 → (((zvX2_kind a1) = 2 → ∀ z_6 : Int32, z_6 = (v_t_minus ^^^ ((zvX4_bit v_t_x (zvX2_a a1)) &&& (zvX4_bit v_t_z (zvX2_a a1)))) → ∀ z_7 : Int32, z_7 = (v_t_z ^^^ ((zvX4_bit v_t_x (zvX2_a a1)) <<< ((zvX2_a a1) &&& 31))) → Q v_t_x z_7 z_6) ∧ (¬ (zvX2_kind a1) = 2 → (((zvX2_kind a1) = 3 → Q v_t_x v_t_z v_t_minus) ∧ (¬ (zvX2_kind a1) = 3 → (((zvX2_kind a1) = 4 → Q v_t_x v_t_z (v_t_minus ^^^ (zvX4_bit v_t_z (zvX2_a a1)))) ∧ (¬ (zvX2_kind a1) = 4 → (((zvX2_kind a1) = 5 → Q v_t_x v_t_z (v_t_minus ^^^ (zvX4_bit v_t_x (zvX2_a a1)))) ∧ (¬ (zvX2_kind a1) = 5 → (((zvX2_kind a1) = 6 → wpX4_passCX (fun (u12 : Int32) (u13 : Int32) (u14 : Int32) => Q u12 u13 u14) (zvX2_a a1) (zvX2_b a1) v_t_x v_t_z v_t_minus) ∧ (¬ (zvX2_kind a1) = 6 → (((zvX2_kind a1) = 7 → wpX4_passH (fun (u16 : Int32) (u17 : Int32) (u18 : Int32) => wpX4_passCX (fun (u19 : Int32) (u20 : Int32) (u21 : Int32) => wpX4_passH (fun (u22 : Int32) (u23 : Int32) (u24 : Int32) => Q u22 u23 u24) (zvX2_b a1) u19 u20 u21) (zvX2_a a1) (zvX2_b a1) u16 u17 u18) (zvX2_b a1) v_t_x v_t_z v_t_minus) ∧ (¬ (zvX2_kind a1) = 7 → (((zvX2_kind a1) = 8 → Q (zvX4_traded v_t_x (zvX2_a a1) (zvX2_b a1)) (zvX4_traded v_t_z (zvX2_a a1) (zvX2_b a1)) v_t_minus) ∧ (¬ (zvX2_kind a1) = 8 → Q v_t_x v_t_z v_t_minus))))))))))))))))
abbrev zrX4_pass : Room := { frames := 2, cells := 0, slots := 0, locals := 44 }
set_option maxHeartbeats 4000000 in
set_option maxRecDepth 100000 in
theorem zkX4_pass (l : Launch) (D : va_G) (cI cJ cC : ClassId) (q_t : Nat) (sz : Nat) (a1 : Int32) (v_t_x : Int32) (v_t_z : Int32) (v_t_minus : Int32) {Q : (Int32) → (Int32) → (Int32) → Prop} (hw : wpX4_pass Q a1 v_t_x v_t_z v_t_minus) : Met l yX4_pass wmX4_pass zrX4_pass (zPreW D (zT cI cJ cC) [(q_t, zX4 v_t_x v_t_z v_t_minus)] sz [.ref q_t, .int a1]) (va_Qv (fun u : (Int32) × (Int32) × (Int32) => Q (u.1) (u.2.1) (u.2.2)) (fun u t => zAt D (va_A [(q_t, zX4 v_t_x v_t_z v_t_minus)] sz) [(q_t, zX4 (u.1) (u.2.1) (u.2.2))] t) (va_A [(q_t, zX4 v_t_x v_t_z v_t_minus)] sz)) 0 0 (va_A [(q_t, zX4 v_t_x v_t_z v_t_minus)] sz) := by
  refine Met.ofW (cc := cX4_pass) (maxL := 4) (ret := none) (by decide) rfl ?_
  intro p e s m args below meth c s₁ B hml hv
  obtain ⟨rfl, hsz, hP, hK, hD0⟩ := hv
  have hx := B.exec
  have hb := B.bytes
  have hr := B.returns
  have hts := atoms_spec (ws := wmX4_pass) B.pre
  have hown : s.vm.findClass RX4 = some m.cls := findClass_of_methodNamed B.named
  have hlocks := B.notSynchronized
  subst hsz
  have hD := hD0.self (sz := s.heap.size)
  generalize hAe : va_A [(q_t, zX4 v_t_x v_t_z v_t_minus)] s.heap.size = A at hD ⊢
  have hA : ∀ q : Nat, s.heap.size ≤ q → A q := fun q h => by rw [← hAe]; exact Or.inr h
  have hS : va_S A s.heap s.heap [] := va_S.rf
  have hP : va_P D vwCl [(q_t, zX4 v_t_x v_t_z v_t_minus)] s.heap := hP
  have hw_1 := hts _ (z_in wm_259)
  have hw_2 : ∀ w ∈ u_ws RX4 TX4 3, w ∈ wmX4_pass := fun w h => z_in (wi_wsX40 w h)
  have hw_3 := hts _ (z_in wm_257)
  have hw_4 := hts _ (z_in wm_258)
  have hl := lv_entry ([.ref q_t, .int a1]) (n := 4) (Nat.le_of_ble_eq_true rfl)
  rw [lg_entry_eq]
  generalize (lg_sl ([.ref q_t, .int a1]) ++ List.replicate (4 - (lg_sl ([.ref q_t, .int a1])).length) Slot.unset).toArray = ls at hl ⊢
  have hl : lv_has ls 4 [(0, .ref q_t), (1, .int a1)] := hl
  refine lv_iload_n hx hb dX4_pass_0 rfl (lv_at hl 1 rfl) ?_
  refine z_vi (va_runS (As := [.int a1]) (rest := []) ⟨hx, hb, hml, hown, hts⟩ (zkX2_a l   a1 ) (va_cwS 1 hts (z_gS wm_267 wm_34 wm_30 wm_31) rfl rfl rfl (by decide +kernel) ⟨Nat.le_of_ble_eq_true rfl, Nat.le_of_ble_eq_true rfl⟩) z_psS rfl rfl hl.1 rfl (lv_room (Nat.le_of_ble_eq_true rfl)) dX4_pass_1 ⟨Nat.zero_le _, Nat.zero_le _⟩) ?_
  refine lv_istore_n (lv' := [(2, .int (zvX2_a a1)), (0, .ref q_t), (1, .int a1)]) hx hb dX4_pass_4 rfl hl (by decide) rfl (fun ls hl => ?_)
  refine lv_iload_n hx hb dX4_pass_5 rfl (lv_at hl 2 rfl) ?_
  refine z_vi (va_runS (As := [.int a1]) (rest := []) ⟨hx, hb, hml, hown, hts⟩ (zkX2_b l   a1 ) (va_cwS 1 hts (z_gS wm_268 wm_63 wm_30 wm_55) rfl rfl rfl (by decide +kernel) ⟨Nat.le_of_ble_eq_true rfl, Nat.le_of_ble_eq_true rfl⟩) z_psS rfl rfl hl.1 rfl (lv_room (Nat.le_of_ble_eq_true rfl)) dX4_pass_6 ⟨Nat.zero_le _, Nat.zero_le _⟩) ?_
  refine lv_istore_n (lv' := [(3, .int (zvX2_b a1)), (2, .int (zvX2_a a1)), (0, .ref q_t), (1, .int a1)]) hx hb dX4_pass_9 rfl hl (by decide) rfl (fun ls hl => ?_)
  refine lv_iload_n hx hb dX4_pass_10 rfl (lv_at hl 3 rfl) ?_
  refine z_vi (va_runS (As := [.int a1]) (rest := []) ⟨hx, hb, hml, hown, hts⟩ (zkX2_kind l   a1 ) (va_cwS 1 hts (z_gS wm_269 wm_29 wm_30 wm_26) rfl rfl rfl (by decide +kernel) ⟨Nat.le_of_ble_eq_true rfl, Nat.le_of_ble_eq_true rfl⟩) z_psS rfl rfl hl.1 rfl (lv_room (Nat.le_of_ble_eq_true rfl)) dX4_pass_11 ⟨Nat.zero_le _, Nat.zero_le _⟩) ?_
  by_cases c1 : (zvX2_kind a1) = 1
  · have hw := hw.1 c1
    refine lv_tableIn (off := 46) (tgt := 60) hx hb dX4_pass_14 (by rw [c1]; decide) (by rw [c1]; decide) (by rw [c1]; decide) (by decide) ?_
    refine lv_aload_n hx hb dX4_pass_60 rfl (lv_at hl 2 rfl) ?_
    refine lv_iload_n hx hb dX4_pass_61 rfl (lv_at hl 1 rfl) ?_
    refine z_wv (wc := [(q_t, zX4 v_t_x v_t_z v_t_minus)]) (wr := []) (W1 := fun u : (Int32) × (Int32) × (Int32) => [(q_t, zX4 (u.1) (u.2.1) (u.2.2))]) (va_runV (As := [.int (zvX2_a a1)]) (rest := []) ⟨hx, hb, hml, hown, hts⟩ (zkX4_passH l D cI cJ cC q_t _ (zvX2_a a1) v_t_x v_t_z v_t_minus hw) (cwV 1 hts (z_gV wm_270 wm_271 wm_272 wm_264 wm_261) rfl rfl rfl (by decide +kernel) ⟨Nat.le_of_ble_eq_true rfl, Nat.le_of_ble_eq_true rfl⟩) (z_pvW hK hP hD [0] rfl (by decide) rfl 0 3 rfl rfl) rfl rfl hl.1 rfl (lv_room (Nat.le_of_ble_eq_true rfl)) dX4_pass_62 ⟨Nat.zero_le _, Nat.zero_le _⟩) hP hD hS hA [0] [] rfl rfl (by decide) (by decide) (fun u9 H locs hw hP hD hS => ?_)
    obtain ⟨u2, u3, u4⟩ := u9
    have hP : va_P D vwCl [(q_t, zX4 u2 u3 u4)] H := hP
    have hD : va_D A [(q_t, zX4 u2 u3 u4)] := hD
    try dsimp only at hw
    refine lv_goto (tgt := 213) hx hb dX4_pass_65 (by decide) ?_
    exact W.vret hx hb hr (fun t ht hW => ⟨⟨(u2, u3, u4), rfl, hw, ⟨by rw [ht]; exact hP, hD⟩⟩, hS.F ht⟩) hS.2.2 dX4_pass_213
  have hw := hw.2 c1
  by_cases c5 : (zvX2_kind a1) = 2
  · have hw := hw.1 c5
    refine lv_tableIn (off := 54) (tgt := 68) hx hb dX4_pass_14 (by rw [c5]; decide) (by rw [c5]; decide) (by rw [c5]; decide) (by decide) ?_
    refine lv_aload_n hx hb dX4_pass_68 rfl (lv_at hl 2 rfl) ?_
    refine lv_dup hx hb dX4_pass_69 rfl ?_
    refine va_get (D := D) (ci := 3) (v := .int v_t_minus) (C := RX4) (T := TX4) (N := 3) hx hb hts hw_2 hown hK hP 0 rfl rfl 2 (by decide) hw_1 (fun _ h9 => h9) rfl dX4_pass_70 ?_
    refine lv_aload_n hx hb dX4_pass_73 rfl (lv_at hl 2 rfl) ?_
    refine va_get (D := D) (ci := 3) (v := .int v_t_x) (C := RX4) (T := TX4) (N := 3) hx hb hts hw_2 hown hK hP 0 rfl rfl 0 (by decide) hw_3 (fun _ h9 => h9) rfl dX4_pass_74 ?_
    refine lv_iload_n hx hb dX4_pass_77 rfl (lv_at hl 1 rfl) ?_
    refine z_vi (va_runS (As := [.int v_t_x, .int (zvX2_a a1)]) (rest := [.int v_t_minus, .ref q_t]) ⟨hx, hb, hml, hown, hts⟩ (zkX4_bit l   v_t_x (zvX2_a a1) ) (va_cwS 2 hts (z_gS wm_262 wm_263 wm_264 wm_260) rfl rfl rfl (by decide +kernel) ⟨Nat.le_of_ble_eq_true rfl, Nat.le_of_ble_eq_true rfl⟩) z_psS rfl rfl hl.1 rfl (lv_room (Nat.le_of_ble_eq_true rfl)) dX4_pass_78 ⟨Nat.zero_le _, Nat.zero_le _⟩) ?_
    refine lv_aload_n hx hb dX4_pass_81 rfl (lv_at hl 2 rfl) ?_
    refine va_get (D := D) (ci := 3) (v := .int v_t_z) (C := RX4) (T := TX4) (N := 3) hx hb hts hw_2 hown hK hP 0 rfl rfl 1 (by decide) hw_4 (fun _ h9 => h9) rfl dX4_pass_82 ?_
    refine lv_iload_n hx hb dX4_pass_85 rfl (lv_at hl 1 rfl) ?_
    refine z_vi (va_runS (As := [.int v_t_z, .int (zvX2_a a1)]) (rest := [.int (zvX4_bit v_t_x (zvX2_a a1)), .int v_t_minus, .ref q_t]) ⟨hx, hb, hml, hown, hts⟩ (zkX4_bit l   v_t_z (zvX2_a a1) ) (va_cwS 2 hts (z_gS wm_262 wm_263 wm_264 wm_260) rfl rfl rfl (by decide +kernel) ⟨Nat.le_of_ble_eq_true rfl, Nat.le_of_ble_eq_true rfl⟩) z_psS rfl rfl hl.1 rfl (lv_room (Nat.le_of_ble_eq_true rfl)) dX4_pass_86 ⟨Nat.zero_le _, Nat.zero_le _⟩) ?_
    refine lv_iand hx hb dX4_pass_89 ?_
    refine lv_ixor hx hb dX4_pass_90 ?_
    refine lv_topi (fun z_6 ez_6 => ?_)
    have hw := hw z_6 ez_6
    refine va_put (D := D) (ci := 3) (v := .int z_6) (ty := .int) (C := RX4) (T := TX4) (N := 3) hx hb hts hw_2 tyX4 tyX4_ok nmX4 hown hK hP hD hS 0 rfl rfl 2 (by decide) hw_1 (fun _ h9 => h9) rfl (by decide +kernel) rfl rfl (Nat.le_of_ble_eq_true rfl) dX4_pass_91 (fun H locs hP hD hS => ?_)
    have hP : va_P D vwCl [(q_t, zX4 v_t_x v_t_z z_6)] H := hP
    have hD : va_D A [(q_t, zX4 v_t_x v_t_z z_6)] := hD
    refine lv_aload_n hx hb dX4_pass_94 rfl (lv_at hl 2 rfl) ?_
    refine lv_dup hx hb dX4_pass_95 rfl ?_
    refine va_get (D := D) (ci := 3) (v := .int v_t_z) (C := RX4) (T := TX4) (N := 3) hx hb hts hw_2 hown hK hP 0 rfl rfl 1 (by decide) hw_4 (fun _ h9 => h9) rfl dX4_pass_96 ?_
    refine lv_aload_n hx hb dX4_pass_99 rfl (lv_at hl 2 rfl) ?_
    refine va_get (D := D) (ci := 3) (v := .int v_t_x) (C := RX4) (T := TX4) (N := 3) hx hb hts hw_2 hown hK hP 0 rfl rfl 0 (by decide) hw_3 (fun _ h9 => h9) rfl dX4_pass_100 ?_
    refine lv_iload_n hx hb dX4_pass_103 rfl (lv_at hl 1 rfl) ?_
    refine z_vi (va_runS (As := [.int v_t_x, .int (zvX2_a a1)]) (rest := [.int v_t_z, .ref q_t]) ⟨hx, hb, hml, hown, hts⟩ (zkX4_bit l   v_t_x (zvX2_a a1) ) (va_cwS 2 hts (z_gS wm_262 wm_263 wm_264 wm_260) rfl rfl rfl (by decide +kernel) ⟨Nat.le_of_ble_eq_true rfl, Nat.le_of_ble_eq_true rfl⟩) z_psS rfl rfl hl.1 rfl (lv_room (Nat.le_of_ble_eq_true rfl)) dX4_pass_104 ⟨Nat.zero_le _, Nat.zero_le _⟩) ?_
    refine lv_iload_n hx hb dX4_pass_107 rfl (lv_at hl 1 rfl) ?_
    refine lv_ishl hx hb dX4_pass_108 ?_
    refine lv_ixor hx hb dX4_pass_109 ?_
    refine lv_topi (fun z_7 ez_7 => ?_)
    have hw := hw z_7 ez_7
    refine va_put (D := D) (ci := 3) (v := .int z_7) (ty := .int) (C := RX4) (T := TX4) (N := 3) hx hb hts hw_2 tyX4 tyX4_ok nmX4 hown hK hP hD hS 0 rfl rfl 1 (by decide) hw_4 (fun _ h9 => h9) rfl (by decide +kernel) rfl rfl (Nat.le_of_ble_eq_true rfl) dX4_pass_110 (fun H locs hP hD hS => ?_)
    have hP : va_P D vwCl [(q_t, zX4 v_t_x z_7 z_6)] H := hP
    have hD : va_D A [(q_t, zX4 v_t_x z_7 z_6)] := hD
    refine lv_goto (tgt := 213) hx hb dX4_pass_113 (by decide) ?_
    exact W.vret hx hb hr (fun t ht hW => ⟨⟨(v_t_x, z_7, z_6), rfl, hw, ⟨by rw [ht]; exact hP, hD⟩⟩, hS.F ht⟩) hS.2.2 dX4_pass_213
  have hw := hw.2 c5
  by_cases c8 : (zvX2_kind a1) = 3
  · have hw := hw.1 c8
    refine lv_tableIn (off := 199) (tgt := 213) hx hb dX4_pass_14 (by rw [c8]; decide) (by rw [c8]; decide) (by rw [c8]; decide) (by decide) ?_
    exact W.vret hx hb hr (fun t ht hW => ⟨⟨(v_t_x, v_t_z, v_t_minus), rfl, hw, ⟨by rw [ht]; exact hP, hD⟩⟩, hS.F ht⟩) hS.2.2 dX4_pass_213
  have hw := hw.2 c8
  by_cases c9 : (zvX2_kind a1) = 4
  · have hw := hw.1 c9
    refine lv_tableIn (off := 102) (tgt := 116) hx hb dX4_pass_14 (by rw [c9]; decide) (by rw [c9]; decide) (by rw [c9]; decide) (by decide) ?_
    refine lv_aload_n hx hb dX4_pass_116 rfl (lv_at hl 2 rfl) ?_
    refine lv_dup hx hb dX4_pass_117 rfl ?_
    refine va_get (D := D) (ci := 3) (v := .int v_t_minus) (C := RX4) (T := TX4) (N := 3) hx hb hts hw_2 hown hK hP 0 rfl rfl 2 (by decide) hw_1 (fun _ h9 => h9) rfl dX4_pass_118 ?_
    refine lv_aload_n hx hb dX4_pass_121 rfl (lv_at hl 2 rfl) ?_
    refine va_get (D := D) (ci := 3) (v := .int v_t_z) (C := RX4) (T := TX4) (N := 3) hx hb hts hw_2 hown hK hP 0 rfl rfl 1 (by decide) hw_4 (fun _ h9 => h9) rfl dX4_pass_122 ?_
    refine lv_iload_n hx hb dX4_pass_125 rfl (lv_at hl 1 rfl) ?_
    refine z_vi (va_runS (As := [.int v_t_z, .int (zvX2_a a1)]) (rest := [.int v_t_minus, .ref q_t]) ⟨hx, hb, hml, hown, hts⟩ (zkX4_bit l   v_t_z (zvX2_a a1) ) (va_cwS 2 hts (z_gS wm_262 wm_263 wm_264 wm_260) rfl rfl rfl (by decide +kernel) ⟨Nat.le_of_ble_eq_true rfl, Nat.le_of_ble_eq_true rfl⟩) z_psS rfl rfl hl.1 rfl (lv_room (Nat.le_of_ble_eq_true rfl)) dX4_pass_126 ⟨Nat.zero_le _, Nat.zero_le _⟩) ?_
    refine lv_ixor hx hb dX4_pass_129 ?_
    refine va_put (D := D) (ci := 3) (v := .int (v_t_minus ^^^ (zvX4_bit v_t_z (zvX2_a a1)))) (ty := .int) (C := RX4) (T := TX4) (N := 3) hx hb hts hw_2 tyX4 tyX4_ok nmX4 hown hK hP hD hS 0 rfl rfl 2 (by decide) hw_1 (fun _ h9 => h9) rfl (by decide +kernel) rfl rfl (Nat.le_of_ble_eq_true rfl) dX4_pass_130 (fun H locs hP hD hS => ?_)
    have hP : va_P D vwCl [(q_t, zX4 v_t_x v_t_z (v_t_minus ^^^ (zvX4_bit v_t_z (zvX2_a a1))))] H := hP
    have hD : va_D A [(q_t, zX4 v_t_x v_t_z (v_t_minus ^^^ (zvX4_bit v_t_z (zvX2_a a1))))] := hD
    refine lv_goto (tgt := 213) hx hb dX4_pass_133 (by decide) ?_
    exact W.vret hx hb hr (fun t ht hW => ⟨⟨(v_t_x, v_t_z, (v_t_minus ^^^ (zvX4_bit v_t_z (zvX2_a a1)))), rfl, hw, ⟨by rw [ht]; exact hP, hD⟩⟩, hS.F ht⟩) hS.2.2 dX4_pass_213
  have hw := hw.2 c9
  by_cases c10 : (zvX2_kind a1) = 5
  · have hw := hw.1 c10
    refine lv_tableIn (off := 122) (tgt := 136) hx hb dX4_pass_14 (by rw [c10]; decide) (by rw [c10]; decide) (by rw [c10]; decide) (by decide) ?_
    refine lv_aload_n hx hb dX4_pass_136 rfl (lv_at hl 2 rfl) ?_
    refine lv_dup hx hb dX4_pass_137 rfl ?_
    refine va_get (D := D) (ci := 3) (v := .int v_t_minus) (C := RX4) (T := TX4) (N := 3) hx hb hts hw_2 hown hK hP 0 rfl rfl 2 (by decide) hw_1 (fun _ h9 => h9) rfl dX4_pass_138 ?_
    refine lv_aload_n hx hb dX4_pass_141 rfl (lv_at hl 2 rfl) ?_
    refine va_get (D := D) (ci := 3) (v := .int v_t_x) (C := RX4) (T := TX4) (N := 3) hx hb hts hw_2 hown hK hP 0 rfl rfl 0 (by decide) hw_3 (fun _ h9 => h9) rfl dX4_pass_142 ?_
    refine lv_iload_n hx hb dX4_pass_145 rfl (lv_at hl 1 rfl) ?_
    refine z_vi (va_runS (As := [.int v_t_x, .int (zvX2_a a1)]) (rest := [.int v_t_minus, .ref q_t]) ⟨hx, hb, hml, hown, hts⟩ (zkX4_bit l   v_t_x (zvX2_a a1) ) (va_cwS 2 hts (z_gS wm_262 wm_263 wm_264 wm_260) rfl rfl rfl (by decide +kernel) ⟨Nat.le_of_ble_eq_true rfl, Nat.le_of_ble_eq_true rfl⟩) z_psS rfl rfl hl.1 rfl (lv_room (Nat.le_of_ble_eq_true rfl)) dX4_pass_146 ⟨Nat.zero_le _, Nat.zero_le _⟩) ?_
    refine lv_ixor hx hb dX4_pass_149 ?_
    refine va_put (D := D) (ci := 3) (v := .int (v_t_minus ^^^ (zvX4_bit v_t_x (zvX2_a a1)))) (ty := .int) (C := RX4) (T := TX4) (N := 3) hx hb hts hw_2 tyX4 tyX4_ok nmX4 hown hK hP hD hS 0 rfl rfl 2 (by decide) hw_1 (fun _ h9 => h9) rfl (by decide +kernel) rfl rfl (Nat.le_of_ble_eq_true rfl) dX4_pass_150 (fun H locs hP hD hS => ?_)
    have hP : va_P D vwCl [(q_t, zX4 v_t_x v_t_z (v_t_minus ^^^ (zvX4_bit v_t_x (zvX2_a a1))))] H := hP
    have hD : va_D A [(q_t, zX4 v_t_x v_t_z (v_t_minus ^^^ (zvX4_bit v_t_x (zvX2_a a1))))] := hD
    refine lv_goto (tgt := 213) hx hb dX4_pass_153 (by decide) ?_
    exact W.vret hx hb hr (fun t ht hW => ⟨⟨(v_t_x, v_t_z, (v_t_minus ^^^ (zvX4_bit v_t_x (zvX2_a a1)))), rfl, hw, ⟨by rw [ht]; exact hP, hD⟩⟩, hS.F ht⟩) hS.2.2 dX4_pass_213
  have hw := hw.2 c10
  by_cases c11 : (zvX2_kind a1) = 6
  · have hw := hw.1 c11
    refine lv_tableIn (off := 142) (tgt := 156) hx hb dX4_pass_14 (by rw [c11]; decide) (by rw [c11]; decide) (by rw [c11]; decide) (by decide) ?_
    refine lv_aload_n hx hb dX4_pass_156 rfl (lv_at hl 2 rfl) ?_
    refine lv_iload_n hx hb dX4_pass_157 rfl (lv_at hl 1 rfl) ?_
    refine lv_iload_n hx hb dX4_pass_158 rfl (lv_at hl 0 rfl) ?_
    refine z_wv (wc := [(q_t, zX4 v_t_x v_t_z v_t_minus)]) (wr := []) (W1 := fun u : (Int32) × (Int32) × (Int32) => [(q_t, zX4 (u.1) (u.2.1) (u.2.2))]) (va_runV (As := [.int (zvX2_a a1), .int (zvX2_b a1)]) (rest := []) ⟨hx, hb, hml, hown, hts⟩ (zkX4_passCX l D cI cJ cC q_t _ (zvX2_a a1) (zvX2_b a1) v_t_x v_t_z v_t_minus hw) (cwV 2 hts (z_gV wm_273 wm_274 wm_275 wm_264 wm_265) rfl rfl rfl (by decide +kernel) ⟨Nat.le_of_ble_eq_true rfl, Nat.le_of_ble_eq_true rfl⟩) (z_pvW hK hP hD [0] rfl (by decide) rfl 0 3 rfl rfl) rfl rfl hl.1 rfl (lv_room (Nat.le_of_ble_eq_true rfl)) dX4_pass_159 ⟨Nat.zero_le _, Nat.zero_le _⟩) hP hD hS hA [0] [] rfl rfl (by decide) (by decide) (fun u9 H locs hw hP hD hS => ?_)
    obtain ⟨u12, u13, u14⟩ := u9
    have hP : va_P D vwCl [(q_t, zX4 u12 u13 u14)] H := hP
    have hD : va_D A [(q_t, zX4 u12 u13 u14)] := hD
    try dsimp only at hw
    refine lv_goto (tgt := 213) hx hb dX4_pass_162 (by decide) ?_
    exact W.vret hx hb hr (fun t ht hW => ⟨⟨(u12, u13, u14), rfl, hw, ⟨by rw [ht]; exact hP, hD⟩⟩, hS.F ht⟩) hS.2.2 dX4_pass_213
  have hw := hw.2 c11
  by_cases c15 : (zvX2_kind a1) = 7
  · have hw := hw.1 c15
    refine lv_tableIn (off := 151) (tgt := 165) hx hb dX4_pass_14 (by rw [c15]; decide) (by rw [c15]; decide) (by rw [c15]; decide) (by decide) ?_
    refine lv_aload_n hx hb dX4_pass_165 rfl (lv_at hl 2 rfl) ?_
    refine lv_iload_n hx hb dX4_pass_166 rfl (lv_at hl 0 rfl) ?_
    refine z_wv (wc := [(q_t, zX4 v_t_x v_t_z v_t_minus)]) (wr := []) (W1 := fun u : (Int32) × (Int32) × (Int32) => [(q_t, zX4 (u.1) (u.2.1) (u.2.2))]) (va_runV (As := [.int (zvX2_b a1)]) (rest := []) ⟨hx, hb, hml, hown, hts⟩ (zkX4_passH l D cI cJ cC q_t _ (zvX2_b a1) v_t_x v_t_z v_t_minus hw) (cwV 1 hts (z_gV wm_270 wm_271 wm_272 wm_264 wm_261) rfl rfl rfl (by decide +kernel) ⟨Nat.le_of_ble_eq_true rfl, Nat.le_of_ble_eq_true rfl⟩) (z_pvW hK hP hD [0] rfl (by decide) rfl 0 3 rfl rfl) rfl rfl hl.1 rfl (lv_room (Nat.le_of_ble_eq_true rfl)) dX4_pass_167 ⟨Nat.zero_le _, Nat.zero_le _⟩) hP hD hS hA [0] [] rfl rfl (by decide) (by decide) (fun u9 H locs hw hP hD hS => ?_)
    obtain ⟨u16, u17, u18⟩ := u9
    have hP : va_P D vwCl [(q_t, zX4 u16 u17 u18)] H := hP
    have hD : va_D A [(q_t, zX4 u16 u17 u18)] := hD
    try dsimp only at hw
    refine lv_aload_n hx hb dX4_pass_170 rfl (lv_at hl 2 rfl) ?_
    refine lv_iload_n hx hb dX4_pass_171 rfl (lv_at hl 1 rfl) ?_
    refine lv_iload_n hx hb dX4_pass_172 rfl (lv_at hl 0 rfl) ?_
    refine z_wv (wc := [(q_t, zX4 u16 u17 u18)]) (wr := []) (W1 := fun u : (Int32) × (Int32) × (Int32) => [(q_t, zX4 (u.1) (u.2.1) (u.2.2))]) (va_runV (As := [.int (zvX2_a a1), .int (zvX2_b a1)]) (rest := []) ⟨hx, hb, hml, hown, hts⟩ (zkX4_passCX l D cI cJ cC q_t _ (zvX2_a a1) (zvX2_b a1) u16 u17 u18 hw) (cwV 2 hts (z_gV wm_273 wm_274 wm_275 wm_264 wm_265) rfl rfl rfl (by decide +kernel) ⟨Nat.le_of_ble_eq_true rfl, Nat.le_of_ble_eq_true rfl⟩) (z_pvW hK hP hD [0] rfl (by decide) rfl 0 3 rfl rfl) rfl rfl hl.1 rfl (lv_room (Nat.le_of_ble_eq_true rfl)) dX4_pass_173 ⟨Nat.zero_le _, Nat.zero_le _⟩) hP hD hS hA [0] [] rfl rfl (by decide) (by decide) (fun u9 H locs hw hP hD hS => ?_)
    obtain ⟨u19, u20, u21⟩ := u9
    have hP : va_P D vwCl [(q_t, zX4 u19 u20 u21)] H := hP
    have hD : va_D A [(q_t, zX4 u19 u20 u21)] := hD
    try dsimp only at hw
    refine lv_aload_n hx hb dX4_pass_176 rfl (lv_at hl 2 rfl) ?_
    refine lv_iload_n hx hb dX4_pass_177 rfl (lv_at hl 0 rfl) ?_
    refine z_wv (wc := [(q_t, zX4 u19 u20 u21)]) (wr := []) (W1 := fun u : (Int32) × (Int32) × (Int32) => [(q_t, zX4 (u.1) (u.2.1) (u.2.2))]) (va_runV (As := [.int (zvX2_b a1)]) (rest := []) ⟨hx, hb, hml, hown, hts⟩ (zkX4_passH l D cI cJ cC q_t _ (zvX2_b a1) u19 u20 u21 hw) (cwV 1 hts (z_gV wm_270 wm_271 wm_272 wm_264 wm_261) rfl rfl rfl (by decide +kernel) ⟨Nat.le_of_ble_eq_true rfl, Nat.le_of_ble_eq_true rfl⟩) (z_pvW hK hP hD [0] rfl (by decide) rfl 0 3 rfl rfl) rfl rfl hl.1 rfl (lv_room (Nat.le_of_ble_eq_true rfl)) dX4_pass_178 ⟨Nat.zero_le _, Nat.zero_le _⟩) hP hD hS hA [0] [] rfl rfl (by decide) (by decide) (fun u9 H locs hw hP hD hS => ?_)
    obtain ⟨u22, u23, u24⟩ := u9
    have hP : va_P D vwCl [(q_t, zX4 u22 u23 u24)] H := hP
    have hD : va_D A [(q_t, zX4 u22 u23 u24)] := hD
    try dsimp only at hw
    refine lv_goto (tgt := 213) hx hb dX4_pass_181 (by decide) ?_
    exact W.vret hx hb hr (fun t ht hW => ⟨⟨(u22, u23, u24), rfl, hw, ⟨by rw [ht]; exact hP, hD⟩⟩, hS.F ht⟩) hS.2.2 dX4_pass_213
  have hw := hw.2 c15
  by_cases c25 : (zvX2_kind a1) = 8
  · have hw := hw.1 c25
    refine lv_tableIn (off := 170) (tgt := 184) hx hb dX4_pass_14 (by rw [c25]; decide) (by rw [c25]; decide) (by rw [c25]; decide) (by decide) ?_
    refine lv_aload_n hx hb dX4_pass_184 rfl (lv_at hl 2 rfl) ?_
    refine lv_aload_n hx hb dX4_pass_185 rfl (lv_at hl 2 rfl) ?_
    refine va_get (D := D) (ci := 3) (v := .int v_t_x) (C := RX4) (T := TX4) (N := 3) hx hb hts hw_2 hown hK hP 0 rfl rfl 0 (by decide) hw_3 (fun _ h9 => h9) rfl dX4_pass_186 ?_
    refine lv_iload_n hx hb dX4_pass_189 rfl (lv_at hl 1 rfl) ?_
    refine lv_iload_n hx hb dX4_pass_190 rfl (lv_at hl 0 rfl) ?_
    refine z_vi (va_runS (As := [.int v_t_x, .int (zvX2_a a1), .int (zvX2_b a1)]) (rest := [.ref q_t]) ⟨hx, hb, hml, hown, hts⟩ (zkX4_traded l   v_t_x (zvX2_a a1) (zvX2_b a1) ) (va_cwS 3 hts (z_gS wm_276 wm_277 wm_264 wm_266) rfl rfl rfl (by decide +kernel) ⟨Nat.le_of_ble_eq_true rfl, Nat.le_of_ble_eq_true rfl⟩) z_psS rfl rfl hl.1 rfl (lv_room (Nat.le_of_ble_eq_true rfl)) dX4_pass_191 ⟨Nat.zero_le _, Nat.zero_le _⟩) ?_
    refine va_put (D := D) (ci := 3) (v := .int (zvX4_traded v_t_x (zvX2_a a1) (zvX2_b a1))) (ty := .int) (C := RX4) (T := TX4) (N := 3) hx hb hts hw_2 tyX4 tyX4_ok nmX4 hown hK hP hD hS 0 rfl rfl 0 (by decide) hw_3 (fun _ h9 => h9) rfl (by decide +kernel) rfl rfl (Nat.le_of_ble_eq_true rfl) dX4_pass_194 (fun H locs hP hD hS => ?_)
    have hP : va_P D vwCl [(q_t, zX4 (zvX4_traded v_t_x (zvX2_a a1) (zvX2_b a1)) v_t_z v_t_minus)] H := hP
    have hD : va_D A [(q_t, zX4 (zvX4_traded v_t_x (zvX2_a a1) (zvX2_b a1)) v_t_z v_t_minus)] := hD
    refine lv_aload_n hx hb dX4_pass_197 rfl (lv_at hl 2 rfl) ?_
    refine lv_aload_n hx hb dX4_pass_198 rfl (lv_at hl 2 rfl) ?_
    refine va_get (D := D) (ci := 3) (v := .int v_t_z) (C := RX4) (T := TX4) (N := 3) hx hb hts hw_2 hown hK hP 0 rfl rfl 1 (by decide) hw_4 (fun _ h9 => h9) rfl dX4_pass_199 ?_
    refine lv_iload_n hx hb dX4_pass_202 rfl (lv_at hl 1 rfl) ?_
    refine lv_iload_n hx hb dX4_pass_203 rfl (lv_at hl 0 rfl) ?_
    refine z_vi (va_runS (As := [.int v_t_z, .int (zvX2_a a1), .int (zvX2_b a1)]) (rest := [.ref q_t]) ⟨hx, hb, hml, hown, hts⟩ (zkX4_traded l   v_t_z (zvX2_a a1) (zvX2_b a1) ) (va_cwS 3 hts (z_gS wm_276 wm_277 wm_264 wm_266) rfl rfl rfl (by decide +kernel) ⟨Nat.le_of_ble_eq_true rfl, Nat.le_of_ble_eq_true rfl⟩) z_psS rfl rfl hl.1 rfl (lv_room (Nat.le_of_ble_eq_true rfl)) dX4_pass_204 ⟨Nat.zero_le _, Nat.zero_le _⟩) ?_
    refine va_put (D := D) (ci := 3) (v := .int (zvX4_traded v_t_z (zvX2_a a1) (zvX2_b a1))) (ty := .int) (C := RX4) (T := TX4) (N := 3) hx hb hts hw_2 tyX4 tyX4_ok nmX4 hown hK hP hD hS 0 rfl rfl 1 (by decide) hw_4 (fun _ h9 => h9) rfl (by decide +kernel) rfl rfl (Nat.le_of_ble_eq_true rfl) dX4_pass_207 (fun H locs hP hD hS => ?_)
    have hP : va_P D vwCl [(q_t, zX4 (zvX4_traded v_t_x (zvX2_a a1) (zvX2_b a1)) (zvX4_traded v_t_z (zvX2_a a1) (zvX2_b a1)) v_t_minus)] H := hP
    have hD : va_D A [(q_t, zX4 (zvX4_traded v_t_x (zvX2_a a1) (zvX2_b a1)) (zvX4_traded v_t_z (zvX2_a a1) (zvX2_b a1)) v_t_minus)] := hD
    refine lv_goto (tgt := 213) hx hb dX4_pass_210 (by decide) ?_
    exact W.vret hx hb hr (fun t ht hW => ⟨⟨((zvX4_traded v_t_x (zvX2_a a1) (zvX2_b a1)), (zvX4_traded v_t_z (zvX2_a a1) (zvX2_b a1)), v_t_minus), rfl, hw, ⟨by rw [ht]; exact hP, hD⟩⟩, hS.F ht⟩) hS.2.2 dX4_pass_213
  have hw := hw.2 c25
  refine lv_tableOut (tgt := 213) hx hb dX4_pass_14 (by have k0 := lv_neT c1 (a := 1) (by decide); have k1 := lv_neT c5 (a := 2) (by decide); have k2 := lv_neT c8 (a := 3) (by decide); have k3 := lv_neT c9 (a := 4) (by decide); have k4 := lv_neT c10 (a := 5) (by decide); have k5 := lv_neT c11 (a := 6) (by decide); have k6 := lv_neT c15 (a := 7) (by decide); have k7 := lv_neT c25 (a := 8) (by decide); omega) (by decide) ?_
  exact W.vret hx hb hr (fun t ht hW => ⟨⟨(v_t_x, v_t_z, v_t_minus), rfl, hw, ⟨by rw [ht]; exact hP, hD⟩⟩, hS.F ht⟩) hS.2.2 dX4_pass_213

def wpX4_digits_11b (Q : Int32 → Prop)  (R_11 : (Int32) → (Int32) → Prop) (v_t_x : Int32) (v_t_z : Int32) (v_t_minus : Int32) (x1 : Int32) (x2 : Int32) : Prop := ((4 ≤ x2 → Q x1) ∧ (¬ 4 ≤ x2 → (((zvX4_bit v_t_x x2) = 1 → ∀ x3_5 : Int32, x3_5 = (1 + (zvX4_bit v_t_z x2)) → ∀ x1_6 : Int32, x1_6 = (x1 + (x3_5 <<< ((2 * x2) &&& 31))) → R_11 x1_6 (x2 + 1)) ∧ (¬ (zvX4_bit v_t_x x2) = 1 → ∀ x3_3 : Int32, x3_3 = (3 * (zvX4_bit v_t_z x2)) → ∀ x1_4 : Int32, x1_4 = (x1 + (x3_3 <<< ((2 * x2) &&& 31))) → R_11 x1_4 (x2 + 1)))))
def wpX4_digits_11 (Q : Int32 → Prop)  (v_t_x : Int32) (v_t_z : Int32) (v_t_minus : Int32) : Nat → (Int32) → (Int32) → Prop
  | 0 => fun _ _ => False
  | n + 1 => fun x1 x2 => wpX4_digits_11b Q  (wpX4_digits_11 Q  v_t_x v_t_z v_t_minus n) v_t_x v_t_z v_t_minus x1 x2
def wpX4_digits (Q : Int32 → Prop)  (v_t_x : Int32) (v_t_z : Int32) (v_t_minus : Int32)  : Prop := ∃ n : Nat, wpX4_digits_11 Q  v_t_x v_t_z v_t_minus n (256 * v_t_minus) 0
abbrev zrX4_digits : Room := { frames := 1, cells := 0, slots := 0, locals := 21 }
set_option maxHeartbeats 4000000 in
set_option maxRecDepth 100000 in
theorem zkX4_digits (l : Launch) (D : va_G) (cI cJ cC : ClassId) (q_t : Nat)  (v_t_x : Int32) (v_t_z : Int32) (v_t_minus : Int32) {Q : Int32 → Prop} (hw : wpX4_digits Q v_t_x v_t_z v_t_minus) : Met l yX4_digits wmX4_digits zrX4_digits (zPreR D (zT cI cJ cC) [(q_t, zX4 v_t_x v_t_z v_t_minus)] [.ref q_t]) (vp_Si (fun r => Q r)) 0 0 (fun _ => False) := by
  refine Met.ofW (cc := cX4_digits) (maxL := 4) (ret := (some .int)) (by decide) rfl ?_
  intro p e s m args below meth c s₁ B hml hv
  obtain ⟨rfl, hP, hK⟩ := hv
  have hx := B.exec
  have hb := B.bytes
  have hr := B.returns
  have hts := atoms_spec (ws := wmX4_digits) B.pre
  have hown : s.vm.findClass RX4 = some m.cls := findClass_of_methodNamed B.named
  have hlocks := B.notSynchronized
  have hw_1 := hts _ (z_in wm_259)
  have hw_2 : ∀ w ∈ u_ws RX4 TX4 3, w ∈ wmX4_digits := fun w h => z_in (wi_wsX40 w h)
  have hw_3 := hts _ (z_in wm_257)
  have hw_4 := hts _ (z_in wm_258)
  have hl := lv_entry ([.ref q_t]) (n := 4) (Nat.le_of_ble_eq_true rfl)
  rw [lg_entry_eq]
  generalize (lg_sl ([.ref q_t]) ++ List.replicate (4 - (lg_sl ([.ref q_t])).length) Slot.unset).toArray = ls at hl ⊢
  have hl : lv_has ls 4 [(0, .ref q_t)] := hl
  have L_11 : ∀ (n : Nat), ∀ (x1 : Int32) (x2 : Int32) (ls : Array Slot), lv_has ls 4 [(0, .ref q_t), (1, .int x1), (2, .int x2)] → wpX4_digits_11 Q  v_t_x v_t_z v_t_minus n x1 x2 → W p l e (headSpec wmX4_digits zrX4_digits).room s m ([.ref q_t] : List Value).toArray below meth c s.heap [] 0 0 (MQ below (vp_Si (fun r => Q r)) ([.ref q_t] : List Value).toArray s 0 0 (fun _ => False)) (F0 m 11 ls []) := by
    intro n
    induction n with
    | zero => intro x1 x2 ls hl hw; exact False.elim hw
    | succ n_11 ih_11 =>
      intro x1 x2 ls hl hw
      have hw : wpX4_digits_11b Q  (wpX4_digits_11 Q  v_t_x v_t_z v_t_minus n_11) v_t_x v_t_z v_t_minus x1 x2 := hw
      refine lv_iload_n hx hb dX4_digits_11 rfl (lv_at hl 2 rfl) ?_
      refine lv_iconst (v := 4) hx hb dX4_digits_12 (by decide) ?_
      refine lv_icmp_ge (tgt := 66) hx hb dX4_digits_13 (by decide) (fun c1 => ?_) (fun c1 => ?_)
      · have hw := hw.1 c1
        refine lv_iload_n hx hb dX4_digits_66 rfl (lv_at hl 1 rfl) ?_
        exact W.iret (v := x1) hx hb hr (fun t ht hW => ⟨_, rfl, hw, ht⟩) (fun _ h => by cases h) dX4_digits_67
      · have hw := hw.2 c1
        refine lv_aload_n hx hb dX4_digits_16 rfl (lv_at hl 0 rfl) ?_
        refine va_get (D := D) (ci := 3) (v := .int v_t_x) (C := RX4) (T := TX4) (N := 3) hx hb hts hw_2 hown hK hP 0 rfl rfl 0 (by decide) hw_3 (fun _ h9 => h9) rfl dX4_digits_17 ?_
        refine lv_iload_n hx hb dX4_digits_20 rfl (lv_at hl 2 rfl) ?_
        refine z_vi (va_runS (As := [.int v_t_x, .int x2]) (rest := []) ⟨hx, hb, hml, hown, hts⟩ (zkX4_bit l   v_t_x x2 ) (va_cwS 2 hts (z_gS wm_262 wm_263 wm_264 wm_260) rfl rfl rfl (by decide +kernel) ⟨Nat.le_of_ble_eq_true rfl, Nat.le_of_ble_eq_true rfl⟩) z_psS rfl rfl hl.1 rfl (lv_room (Nat.le_of_ble_eq_true rfl)) dX4_digits_21 ⟨Nat.zero_le _, Nat.zero_le _⟩) ?_
        refine lv_iconst (v := 1) hx hb dX4_digits_24 (by decide) ?_
        refine lv_icmp_ne (tgt := 41) hx hb dX4_digits_25 (by decide) (fun c2 => ?_) (fun c2 => ?_)
        · have hw := hw.2 c2
          refine lv_iconst (v := 3) hx hb dX4_digits_41 (by decide) ?_
          refine lv_aload_n hx hb dX4_digits_42 rfl (lv_at hl 0 rfl) ?_
          refine va_get (D := D) (ci := 3) (v := .int v_t_z) (C := RX4) (T := TX4) (N := 3) hx hb hts hw_2 hown hK hP 0 rfl rfl 1 (by decide) hw_4 (fun _ h9 => h9) rfl dX4_digits_43 ?_
          refine lv_iload_n hx hb dX4_digits_46 rfl (lv_at hl 2 rfl) ?_
          refine z_vi (va_runS (As := [.int v_t_z, .int x2]) (rest := [.int 3]) ⟨hx, hb, hml, hown, hts⟩ (zkX4_bit l   v_t_z x2 ) (va_cwS 2 hts (z_gS wm_262 wm_263 wm_264 wm_260) rfl rfl rfl (by decide +kernel) ⟨Nat.le_of_ble_eq_true rfl, Nat.le_of_ble_eq_true rfl⟩) z_psS rfl rfl hl.1 rfl (lv_room (Nat.le_of_ble_eq_true rfl)) dX4_digits_47 ⟨Nat.zero_le _, Nat.zero_le _⟩) ?_
          refine lv_imul hx hb dX4_digits_50 ?_
          refine lv_topi (fun x3_3 ex3_3 => ?_)
          have hw := hw x3_3 ex3_3
          refine lv_istore_n (lv' := [(3, .int x3_3), (0, .ref q_t), (1, .int x1), (2, .int x2)]) hx hb dX4_digits_51 rfl hl (by decide) rfl (fun ls hl => ?_)
          refine lv_iload_n hx hb dX4_digits_52 rfl (lv_at hl 2 rfl) ?_
          refine lv_iload_n hx hb dX4_digits_53 rfl (lv_at hl 0 rfl) ?_
          refine lv_iconst (v := 2) hx hb dX4_digits_54 (by decide) ?_
          refine lv_iload_n hx hb dX4_digits_55 rfl (lv_at hl 3 rfl) ?_
          refine lv_imul hx hb dX4_digits_56 ?_
          refine lv_ishl hx hb dX4_digits_57 ?_
          refine lv_iadd hx hb dX4_digits_58 ?_
          refine lv_topi (fun x1_4 ex1_4 => ?_)
          have hw := hw x1_4 ex1_4
          refine lv_istore_n (lv' := [(1, .int x1_4), (3, .int x3_3), (0, .ref q_t), (2, .int x2)]) hx hb dX4_digits_59 rfl hl (by decide) rfl (fun ls hl => ?_)
          refine lv_iinc (v := (x2 + 1)) (lv' := [(2, .int (x2 + 1)), (1, .int x1_4), (3, .int x3_3), (0, .ref q_t)]) hx hb dX4_digits_60 hl (k := 3) rfl rfl (by decide) rfl (fun ls hl => ?_)
          refine lv_goto (tgt := 11) hx hb dX4_digits_63 (by decide) ?_
          exact ih_11 x1_4 (x2 + 1) _ (lv_sub hl [3, 1, 0] rfl) hw
        · have hw := hw.1 c2
          refine lv_iconst (v := 1) hx hb dX4_digits_28 (by decide) ?_
          refine lv_aload_n hx hb dX4_digits_29 rfl (lv_at hl 0 rfl) ?_
          refine va_get (D := D) (ci := 3) (v := .int v_t_z) (C := RX4) (T := TX4) (N := 3) hx hb hts hw_2 hown hK hP 0 rfl rfl 1 (by decide) hw_4 (fun _ h9 => h9) rfl dX4_digits_30 ?_
          refine lv_iload_n hx hb dX4_digits_33 rfl (lv_at hl 2 rfl) ?_
          refine z_vi (va_runS (As := [.int v_t_z, .int x2]) (rest := [.int 1]) ⟨hx, hb, hml, hown, hts⟩ (zkX4_bit l   v_t_z x2 ) (va_cwS 2 hts (z_gS wm_262 wm_263 wm_264 wm_260) rfl rfl rfl (by decide +kernel) ⟨Nat.le_of_ble_eq_true rfl, Nat.le_of_ble_eq_true rfl⟩) z_psS rfl rfl hl.1 rfl (lv_room (Nat.le_of_ble_eq_true rfl)) dX4_digits_34 ⟨Nat.zero_le _, Nat.zero_le _⟩) ?_
          refine lv_iadd hx hb dX4_digits_37 ?_
          refine lv_goto (tgt := 51) hx hb dX4_digits_38 (by decide) ?_
          refine lv_topi (fun x3_5 ex3_5 => ?_)
          have hw := hw x3_5 ex3_5
          refine lv_istore_n (lv' := [(3, .int x3_5), (0, .ref q_t), (1, .int x1), (2, .int x2)]) hx hb dX4_digits_51 rfl hl (by decide) rfl (fun ls hl => ?_)
          refine lv_iload_n hx hb dX4_digits_52 rfl (lv_at hl 2 rfl) ?_
          refine lv_iload_n hx hb dX4_digits_53 rfl (lv_at hl 0 rfl) ?_
          refine lv_iconst (v := 2) hx hb dX4_digits_54 (by decide) ?_
          refine lv_iload_n hx hb dX4_digits_55 rfl (lv_at hl 3 rfl) ?_
          refine lv_imul hx hb dX4_digits_56 ?_
          refine lv_ishl hx hb dX4_digits_57 ?_
          refine lv_iadd hx hb dX4_digits_58 ?_
          refine lv_topi (fun x1_6 ex1_6 => ?_)
          have hw := hw x1_6 ex1_6
          refine lv_istore_n (lv' := [(1, .int x1_6), (3, .int x3_5), (0, .ref q_t), (2, .int x2)]) hx hb dX4_digits_59 rfl hl (by decide) rfl (fun ls hl => ?_)
          refine lv_iinc (v := (x2 + 1)) (lv' := [(2, .int (x2 + 1)), (1, .int x1_6), (3, .int x3_5), (0, .ref q_t)]) hx hb dX4_digits_60 hl (k := 3) rfl rfl (by decide) rfl (fun ls hl => ?_)
          refine lv_goto (tgt := 11) hx hb dX4_digits_63 (by decide) ?_
          exact ih_11 x1_6 (x2 + 1) _ (lv_sub hl [3, 1, 0] rfl) hw
  refine lv_sipush (v := 256) hx hb dX4_digits_0 (by decide) ?_
  refine lv_aload_n hx hb dX4_digits_3 rfl (lv_at hl 0 rfl) ?_
  refine va_get (D := D) (ci := 3) (v := .int v_t_minus) (C := RX4) (T := TX4) (N := 3) hx hb hts hw_2 hown hK hP 0 rfl rfl 2 (by decide) hw_1 (fun _ h9 => h9) rfl dX4_digits_4 ?_
  refine lv_imul hx hb dX4_digits_7 ?_
  refine lv_istore_n (lv' := [(1, .int (256 * v_t_minus)), (0, .ref q_t)]) hx hb dX4_digits_8 rfl hl (by decide) rfl (fun ls hl => ?_)
  refine lv_iconst (v := 0) hx hb dX4_digits_9 (by decide) ?_
  refine lv_istore_n (lv' := [(2, .int 0), (1, .int (256 * v_t_minus)), (0, .ref q_t)]) hx hb dX4_digits_10 rfl hl (by decide) rfl (fun ls hl => ?_)
  obtain ⟨n_11, hw⟩ := hw
  exact L_11 n_11 (256 * v_t_minus) 0 _ (lv_sub hl [2, 1, 0] rfl) hw
